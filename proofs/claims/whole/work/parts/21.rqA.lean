/-! equations, place by place -/
theorem rq_X0_init_0 {lo : Lo} {st : List Value} {h : Hp} {Q : Option Value → Hp → Prop} : Run 0 0 lo st h Q = Cnt 0 Q (xo_aload 0 1 lo st h) := run_s rfl
theorem rq_X0_init_1 {lo : Lo} {st : List Value} {h : Hp} {Q : Option Value → Hp → Prop} : Run 0 1 lo st h Q = Cnt 0 Q (xo_oinit 4 lo st h) := run_s rfl
theorem rq_X0_init_4 {lo : Lo} {st : List Value} {h : Hp} {Q : Option Value → Hp → Prop} : Run 0 4 lo st h Q = Cnt 0 Q (xo_aload 0 5 lo st h) := run_s rfl
theorem rq_X0_init_5 {lo : Lo} {st : List Value} {h : Hp} {Q : Option Value → Hp → Prop} : Run 0 5 lo st h Q = Cnt 0 Q (xo_const (.int 0) 6 lo st h) := run_s rfl
theorem rq_X0_init_6 {lo : Lo} {st : List Value} {h : Hp} {Q : Option Value → Hp → Prop} : Run 0 6 lo st h Q = Cnt 0 Q (xo_putf 0 0 true 9 lo st h) := run_s rfl
theorem rq_X0_init_9 {lo : Lo} {st : List Value} {h : Hp} {Q : Option Value → Hp → Prop} : Run 0 9 lo st h Q = Cnt 0 Q (xo_aload 0 10 lo st h) := run_s rfl
theorem rq_X0_init_10 {lo : Lo} {st : List Value} {h : Hp} {Q : Option Value → Hp → Prop} : Run 0 10 lo st h Q = Cnt 0 Q (xo_const (.int 0) 11 lo st h) := run_s rfl
theorem rq_X0_init_11 {lo : Lo} {st : List Value} {h : Hp} {Q : Option Value → Hp → Prop} : Run 0 11 lo st h Q = Cnt 0 Q (xo_putf 0 1 true 14 lo st h) := run_s rfl
theorem rq_X0_init_14 {lo : Lo} {st : List Value} {h : Hp} {Q : Option Value → Hp → Prop} : Run 0 14 lo st h Q = Cnt 0 Q (xo_aload 0 15 lo st h) := run_s rfl
theorem rq_X0_init_15 {lo : Lo} {st : List Value} {h : Hp} {Q : Option Value → Hp → Prop} : Run 0 15 lo st h Q = Cnt 0 Q (xo_const (.int 0) 16 lo st h) := run_s rfl
theorem rq_X0_init_16 {lo : Lo} {st : List Value} {h : Hp} {Q : Option Value → Hp → Prop} : Run 0 16 lo st h Q = Cnt 0 Q (xo_putf 0 2 true 19 lo st h) := run_s rfl
theorem rq_X0_init_19 {lo : Lo} {st : List Value} {h : Hp} {Q : Option Value → Hp → Prop} : Run 0 19 lo st h Q = Cnt 0 Q (xo_vret lo st h) := run_s rfl
theorem rq_X0_find_0 {lo : Lo} {st : List Value} {h : Hp} {Q : Option Value → Hp → Prop} : Run 1 0 lo st h Q = Cnt 1 Q (xo_aload 0 1 lo st h) := run_s rfl
theorem rq_X0_find_1 {lo : Lo} {st : List Value} {h : Hp} {Q : Option Value → Hp → Prop} : Run 1 1 lo st h Q = Cnt 1 Q (xo_const (.int 1025) 4 lo st h) := run_s rfl
theorem rq_X0_find_4 {lo : Lo} {st : List Value} {h : Hp} {Q : Option Value → Hp → Prop} : Run 1 4 lo st h Q = Cnt 1 Q (xo_putf 0 0 true 7 lo st h) := run_s rfl
theorem rq_X0_find_7 {lo : Lo} {st : List Value} {h : Hp} {Q : Option Value → Hp → Prop} : Run 1 7 lo st h Q = Cnt 1 Q (xo_const (.int (-3)) 9 lo st h) := run_s rfl
theorem rq_X0_find_9 {lo : Lo} {st : List Value} {h : Hp} {Q : Option Value → Hp → Prop} : Run 1 9 lo st h Q = Cnt 1 Q (xo_istore 3 10 lo st h) := run_s rfl
theorem rq_X0_find_10 {lo : Lo} {st : List Value} {h : Hp} {Q : Option Value → Hp → Prop} : Run 1 10 lo st h Q = Cnt 1 Q (xo_iload 3 11 lo st h) := run_s rfl
theorem rq_X0_find_11 {lo : Lo} {st : List Value} {h : Hp} {Q : Option Value → Hp → Prop} : Run 1 11 lo st h Q = Cnt 1 Q (xo_const (.int 3) 12 lo st h) := run_s rfl
theorem rq_X0_find_12 {lo : Lo} {st : List Value} {h : Hp} {Q : Option Value → Hp → Prop} : Run 1 12 lo st h Q = Cnt 1 Q (xo_if2 (fun x y => decide (x > y)) 73 15 lo st h) := run_s rfl
theorem rq_X0_find_15 {lo : Lo} {st : List Value} {h : Hp} {Q : Option Value → Hp → Prop} : Run 1 15 lo st h Q = Cnt 1 Q (xo_const (.int (-3)) 17 lo st h) := run_s rfl
theorem rq_X0_find_17 {lo : Lo} {st : List Value} {h : Hp} {Q : Option Value → Hp → Prop} : Run 1 17 lo st h Q = Cnt 1 Q (xo_istore 4 19 lo st h) := run_s rfl
theorem rq_X0_find_19 {lo : Lo} {st : List Value} {h : Hp} {Q : Option Value → Hp → Prop} : Run 1 19 lo st h Q = Cnt 1 Q (xo_iload 4 21 lo st h) := run_s rfl
theorem rq_X0_find_21 {lo : Lo} {st : List Value} {h : Hp} {Q : Option Value → Hp → Prop} : Run 1 21 lo st h Q = Cnt 1 Q (xo_const (.int 3) 22 lo st h) := run_s rfl
theorem rq_X0_find_22 {lo : Lo} {st : List Value} {h : Hp} {Q : Option Value → Hp → Prop} : Run 1 22 lo st h Q = Cnt 1 Q (xo_if2 (fun x y => decide (x > y)) 67 25 lo st h) := run_s rfl
theorem rq_X0_find_25 {lo : Lo} {st : List Value} {h : Hp} {Q : Option Value → Hp → Prop} : Run 1 25 lo st h Q = Cnt 1 Q (xo_aload 1 26 lo st h) := run_s rfl
theorem rq_X0_find_26 {lo : Lo} {st : List Value} {h : Hp} {Q : Option Value → Hp → Prop} : Run 1 26 lo st h Q = Cnt 1 Q (xo_iload 3 27 lo st h) := run_s rfl
theorem rq_X0_find_27 {lo : Lo} {st : List Value} {h : Hp} {Q : Option Value → Hp → Prop} : Run 1 27 lo st h Q = Cnt 1 Q (xo_iload 4 29 lo st h) := run_s rfl
theorem rq_X0_find_29 {lo : Lo} {st : List Value} {h : Hp} {Q : Option Value → Hp → Prop} : Run 1 29 lo st h Q = Cnt 1 Q (xo_aload 2 30 lo st h) := run_s rfl
theorem rq_X0_find_30 {lo : Lo} {st : List Value} {h : Hp} {Q : Option Value → Hp → Prop} : Run 1 30 lo st h Q = CCall 2 4 none st h (Knt 1 33 lo (st.drop 4) Q) := run_c rfl
theorem rq_X0_find_33 {lo : Lo} {st : List Value} {h : Hp} {Q : Option Value → Hp → Prop} : Run 1 33 lo st h Q = Cnt 1 Q (xo_istore 5 35 lo st h) := run_s rfl
theorem rq_X0_find_35 {lo : Lo} {st : List Value} {h : Hp} {Q : Option Value → Hp → Prop} : Run 1 35 lo st h Q = Cnt 1 Q (xo_iload 5 37 lo st h) := run_s rfl
theorem rq_X0_find_37 {lo : Lo} {st : List Value} {h : Hp} {Q : Option Value → Hp → Prop} : Run 1 37 lo st h Q = Cnt 1 Q (xo_aload 0 38 lo st h) := run_s rfl
theorem rq_X0_find_38 {lo : Lo} {st : List Value} {h : Hp} {Q : Option Value → Hp → Prop} : Run 1 38 lo st h Q = Cnt 1 Q (xo_getf 0 0 41 lo st h) := run_s rfl
theorem rq_X0_find_41 {lo : Lo} {st : List Value} {h : Hp} {Q : Option Value → Hp → Prop} : Run 1 41 lo st h Q = Cnt 1 Q (xo_if2 (fun x y => decide (x ≥ y)) 61 44 lo st h) := run_s rfl
theorem rq_X0_find_44 {lo : Lo} {st : List Value} {h : Hp} {Q : Option Value → Hp → Prop} : Run 1 44 lo st h Q = Cnt 1 Q (xo_aload 0 45 lo st h) := run_s rfl
theorem rq_X0_find_45 {lo : Lo} {st : List Value} {h : Hp} {Q : Option Value → Hp → Prop} : Run 1 45 lo st h Q = Cnt 1 Q (xo_iload 5 47 lo st h) := run_s rfl
theorem rq_X0_find_47 {lo : Lo} {st : List Value} {h : Hp} {Q : Option Value → Hp → Prop} : Run 1 47 lo st h Q = Cnt 1 Q (xo_putf 0 0 true 50 lo st h) := run_s rfl
theorem rq_X0_find_50 {lo : Lo} {st : List Value} {h : Hp} {Q : Option Value → Hp → Prop} : Run 1 50 lo st h Q = Cnt 1 Q (xo_aload 0 51 lo st h) := run_s rfl
theorem rq_X0_find_51 {lo : Lo} {st : List Value} {h : Hp} {Q : Option Value → Hp → Prop} : Run 1 51 lo st h Q = Cnt 1 Q (xo_iload 3 52 lo st h) := run_s rfl
theorem rq_X0_find_52 {lo : Lo} {st : List Value} {h : Hp} {Q : Option Value → Hp → Prop} : Run 1 52 lo st h Q = Cnt 1 Q (xo_putf 0 1 true 55 lo st h) := run_s rfl
theorem rq_X0_find_55 {lo : Lo} {st : List Value} {h : Hp} {Q : Option Value → Hp → Prop} : Run 1 55 lo st h Q = Cnt 1 Q (xo_aload 0 56 lo st h) := run_s rfl
theorem rq_X0_find_56 {lo : Lo} {st : List Value} {h : Hp} {Q : Option Value → Hp → Prop} : Run 1 56 lo st h Q = Cnt 1 Q (xo_iload 4 58 lo st h) := run_s rfl
theorem rq_X0_find_58 {lo : Lo} {st : List Value} {h : Hp} {Q : Option Value → Hp → Prop} : Run 1 58 lo st h Q = Cnt 1 Q (xo_putf 0 2 true 61 lo st h) := run_s rfl
theorem rq_X0_find_61 {lo : Lo} {st : List Value} {h : Hp} {Q : Option Value → Hp → Prop} : Run 1 61 lo st h Q = Cnt 1 Q (xo_iinc 4 1 64 lo st h) := run_s rfl
theorem rq_X0_find_64 {lo : Lo} {st : List Value} {h : Hp} {Q : Option Value → Hp → Prop} : Run 1 64 lo st h Q = Cnt 1 Q (xo_goto 19 lo st h) := run_s rfl
theorem rq_X0_find_67 {lo : Lo} {st : List Value} {h : Hp} {Q : Option Value → Hp → Prop} : Run 1 67 lo st h Q = Cnt 1 Q (xo_iinc 3 1 70 lo st h) := run_s rfl
theorem rq_X0_find_70 {lo : Lo} {st : List Value} {h : Hp} {Q : Option Value → Hp → Prop} : Run 1 70 lo st h Q = Cnt 1 Q (xo_goto 10 lo st h) := run_s rfl
theorem rq_X0_find_73 {lo : Lo} {st : List Value} {h : Hp} {Q : Option Value → Hp → Prop} : Run 1 73 lo st h Q = Cnt 1 Q (xo_vret lo st h) := run_s rfl
theorem rq_X0_countApart_0 {lo : Lo} {st : List Value} {h : Hp} {Q : Option Value → Hp → Prop} : Run 2 0 lo st h Q = Cnt 2 Q (xo_const (.int 0) 1 lo st h) := run_s rfl
theorem rq_X0_countApart_1 {lo : Lo} {st : List Value} {h : Hp} {Q : Option Value → Hp → Prop} : Run 2 1 lo st h Q = Cnt 2 Q (xo_istore 4 3 lo st h) := run_s rfl
theorem rq_X0_countApart_3 {lo : Lo} {st : List Value} {h : Hp} {Q : Option Value → Hp → Prop} : Run 2 3 lo st h Q = Cnt 2 Q (xo_const (.int 0) 4 lo st h) := run_s rfl
theorem rq_X0_countApart_4 {lo : Lo} {st : List Value} {h : Hp} {Q : Option Value → Hp → Prop} : Run 2 4 lo st h Q = Cnt 2 Q (xo_istore 5 6 lo st h) := run_s rfl
theorem rq_X0_countApart_6 {lo : Lo} {st : List Value} {h : Hp} {Q : Option Value → Hp → Prop} : Run 2 6 lo st h Q = Cnt 2 Q (xo_iload 5 8 lo st h) := run_s rfl
theorem rq_X0_countApart_8 {lo : Lo} {st : List Value} {h : Hp} {Q : Option Value → Hp → Prop} : Run 2 8 lo st h Q = Cnt 2 Q (xo_const (.int 32) 10 lo st h) := run_s rfl
theorem rq_X0_countApart_10 {lo : Lo} {st : List Value} {h : Hp} {Q : Option Value → Hp → Prop} : Run 2 10 lo st h Q = Cnt 2 Q (xo_if2 (fun x y => decide (x ≥ y)) 79 13 lo st h) := run_s rfl
theorem rq_X0_countApart_13 {lo : Lo} {st : List Value} {h : Hp} {Q : Option Value → Hp → Prop} : Run 2 13 lo st h Q = Cnt 2 Q (xo_iload 5 15 lo st h) := run_s rfl
theorem rq_X0_countApart_15 {lo : Lo} {st : List Value} {h : Hp} {Q : Option Value → Hp → Prop} : Run 2 15 lo st h Q = Cnt 2 Q (xo_iload 2 16 lo st h) := run_s rfl
theorem rq_X0_countApart_16 {lo : Lo} {st : List Value} {h : Hp} {Q : Option Value → Hp → Prop} : Run 2 16 lo st h Q = Cnt 2 Q (xo_bin (fun x y => x - y) 17 lo st h) := run_s rfl
theorem rq_X0_countApart_17 {lo : Lo} {st : List Value} {h : Hp} {Q : Option Value → Hp → Prop} : Run 2 17 lo st h Q = Cnt 2 Q (xo_istore 6 19 lo st h) := run_s rfl
theorem rq_X0_countApart_19 {lo : Lo} {st : List Value} {h : Hp} {Q : Option Value → Hp → Prop} : Run 2 19 lo st h Q = Cnt 2 Q (xo_iload 6 21 lo st h) := run_s rfl
theorem rq_X0_countApart_21 {lo : Lo} {st : List Value} {h : Hp} {Q : Option Value → Hp → Prop} : Run 2 21 lo st h Q = Cnt 2 Q (xo_const (.int 0) 22 lo st h) := run_s rfl
theorem rq_X0_countApart_22 {lo : Lo} {st : List Value} {h : Hp} {Q : Option Value → Hp → Prop} : Run 2 22 lo st h Q = Cnt 2 Q (xo_const (.int 31) 24 lo st h) := run_s rfl
theorem rq_X0_countApart_24 {lo : Lo} {st : List Value} {h : Hp} {Q : Option Value → Hp → Prop} : Run 2 24 lo st h Q = CCall 98 3 none st h (Knt 2 27 lo (st.drop 3) Q) := run_c rfl
theorem rq_X0_countApart_27 {lo : Lo} {st : List Value} {h : Hp} {Q : Option Value → Hp → Prop} : Run 2 27 lo st h Q = Cnt 2 Q (xo_if1 (fun x => decide (x = 0)) 37 30 lo st h) := run_s rfl
theorem rq_X0_countApart_30 {lo : Lo} {st : List Value} {h : Hp} {Q : Option Value → Hp → Prop} : Run 2 30 lo st h Q = Cnt 2 Q (xo_aload 0 31 lo st h) := run_s rfl
theorem rq_X0_countApart_31 {lo : Lo} {st : List Value} {h : Hp} {Q : Option Value → Hp → Prop} : Run 2 31 lo st h Q = Cnt 2 Q (xo_iload 6 33 lo st h) := run_s rfl
theorem rq_X0_countApart_33 {lo : Lo} {st : List Value} {h : Hp} {Q : Option Value → Hp → Prop} : Run 2 33 lo st h Q = Cnt 2 Q (xo_iald 34 lo st h) := run_s rfl
theorem rq_X0_countApart_34 {lo : Lo} {st : List Value} {h : Hp} {Q : Option Value → Hp → Prop} : Run 2 34 lo st h Q = Cnt 2 Q (xo_goto 38 lo st h) := run_s rfl
theorem rq_X0_countApart_37 {lo : Lo} {st : List Value} {h : Hp} {Q : Option Value → Hp → Prop} : Run 2 37 lo st h Q = Cnt 2 Q (xo_const (.int 0) 38 lo st h) := run_s rfl
theorem rq_X0_countApart_38 {lo : Lo} {st : List Value} {h : Hp} {Q : Option Value → Hp → Prop} : Run 2 38 lo st h Q = Cnt 2 Q (xo_istore 7 40 lo st h) := run_s rfl
theorem rq_X0_countApart_40 {lo : Lo} {st : List Value} {h : Hp} {Q : Option Value → Hp → Prop} : Run 2 40 lo st h Q = Cnt 2 Q (xo_iload 1 41 lo st h) := run_s rfl
theorem rq_X0_countApart_41 {lo : Lo} {st : List Value} {h : Hp} {Q : Option Value → Hp → Prop} : Run 2 41 lo st h Q = Cnt 2 Q (xo_if1 (fun x => decide (x < 0)) 51 44 lo st h) := run_s rfl
theorem rq_X0_countApart_44 {lo : Lo} {st : List Value} {h : Hp} {Q : Option Value → Hp → Prop} : Run 2 44 lo st h Q = Cnt 2 Q (xo_iload 7 46 lo st h) := run_s rfl
theorem rq_X0_countApart_46 {lo : Lo} {st : List Value} {h : Hp} {Q : Option Value → Hp → Prop} : Run 2 46 lo st h Q = Cnt 2 Q (xo_iload 1 47 lo st h) := run_s rfl
theorem rq_X0_countApart_47 {lo : Lo} {st : List Value} {h : Hp} {Q : Option Value → Hp → Prop} : Run 2 47 lo st h Q = Cnt 2 Q (xo_bin (fun x y => x <<< (y &&& 31)) 48 lo st h) := run_s rfl
theorem rq_X0_countApart_48 {lo : Lo} {st : List Value} {h : Hp} {Q : Option Value → Hp → Prop} : Run 2 48 lo st h Q = Cnt 2 Q (xo_goto 56 lo st h) := run_s rfl
theorem rq_X0_countApart_51 {lo : Lo} {st : List Value} {h : Hp} {Q : Option Value → Hp → Prop} : Run 2 51 lo st h Q = Cnt 2 Q (xo_iload 7 53 lo st h) := run_s rfl
theorem rq_X0_countApart_53 {lo : Lo} {st : List Value} {h : Hp} {Q : Option Value → Hp → Prop} : Run 2 53 lo st h Q = Cnt 2 Q (xo_iload 1 54 lo st h) := run_s rfl
theorem rq_X0_countApart_54 {lo : Lo} {st : List Value} {h : Hp} {Q : Option Value → Hp → Prop} : Run 2 54 lo st h Q = Cnt 2 Q (xo_un (fun x => -x) 55 lo st h) := run_s rfl
theorem rq_X0_countApart_55 {lo : Lo} {st : List Value} {h : Hp} {Q : Option Value → Hp → Prop} : Run 2 55 lo st h Q = Cnt 2 Q (xo_bin (fun x y => (x.toUInt32 >>> (y.toUInt32 &&& Int32.toUInt32 31)).toInt32) 56 lo st h) := run_s rfl
theorem rq_X0_countApart_56 {lo : Lo} {st : List Value} {h : Hp} {Q : Option Value → Hp → Prop} : Run 2 56 lo st h Q = Cnt 2 Q (xo_istore 8 58 lo st h) := run_s rfl
theorem rq_X0_countApart_58 {lo : Lo} {st : List Value} {h : Hp} {Q : Option Value → Hp → Prop} : Run 2 58 lo st h Q = Cnt 2 Q (xo_iload 4 60 lo st h) := run_s rfl
theorem rq_X0_countApart_60 {lo : Lo} {st : List Value} {h : Hp} {Q : Option Value → Hp → Prop} : Run 2 60 lo st h Q = Cnt 2 Q (xo_iload 8 62 lo st h) := run_s rfl
theorem rq_X0_countApart_62 {lo : Lo} {st : List Value} {h : Hp} {Q : Option Value → Hp → Prop} : Run 2 62 lo st h Q = Cnt 2 Q (xo_aload 3 63 lo st h) := run_s rfl
theorem rq_X0_countApart_63 {lo : Lo} {st : List Value} {h : Hp} {Q : Option Value → Hp → Prop} : Run 2 63 lo st h Q = Cnt 2 Q (xo_iload 5 65 lo st h) := run_s rfl
theorem rq_X0_countApart_65 {lo : Lo} {st : List Value} {h : Hp} {Q : Option Value → Hp → Prop} : Run 2 65 lo st h Q = Cnt 2 Q (xo_iald 66 lo st h) := run_s rfl
theorem rq_X0_countApart_66 {lo : Lo} {st : List Value} {h : Hp} {Q : Option Value → Hp → Prop} : Run 2 66 lo st h Q = Cnt 2 Q (xo_bin (fun x y => x ^^^ y) 67 lo st h) := run_s rfl
theorem rq_X0_countApart_67 {lo : Lo} {st : List Value} {h : Hp} {Q : Option Value → Hp → Prop} : Run 2 67 lo st h Q = CCall 190 1 none st h (Knt 2 70 lo (st.drop 1) Q) := run_c rfl
theorem rq_X0_countApart_70 {lo : Lo} {st : List Value} {h : Hp} {Q : Option Value → Hp → Prop} : Run 2 70 lo st h Q = Cnt 2 Q (xo_bin (fun x y => x + y) 71 lo st h) := run_s rfl
theorem rq_X0_countApart_71 {lo : Lo} {st : List Value} {h : Hp} {Q : Option Value → Hp → Prop} : Run 2 71 lo st h Q = Cnt 2 Q (xo_istore 4 73 lo st h) := run_s rfl
theorem rq_X0_countApart_73 {lo : Lo} {st : List Value} {h : Hp} {Q : Option Value → Hp → Prop} : Run 2 73 lo st h Q = Cnt 2 Q (xo_iinc 5 1 76 lo st h) := run_s rfl
theorem rq_X0_countApart_76 {lo : Lo} {st : List Value} {h : Hp} {Q : Option Value → Hp → Prop} : Run 2 76 lo st h Q = Cnt 2 Q (xo_goto 6 lo st h) := run_s rfl
theorem rq_X0_countApart_79 {lo : Lo} {st : List Value} {h : Hp} {Q : Option Value → Hp → Prop} : Run 2 79 lo st h Q = Cnt 2 Q (xo_iload 4 81 lo st h) := run_s rfl
theorem rq_X0_countApart_81 {lo : Lo} {st : List Value} {h : Hp} {Q : Option Value → Hp → Prop} : Run 2 81 lo st h Q = Cnt 2 Q (xo_iret lo st h) := run_s rfl
theorem rq_X1_init_0 {lo : Lo} {st : List Value} {h : Hp} {Q : Option Value → Hp → Prop} : Run 3 0 lo st h Q = Cnt 3 Q (xo_aload 0 1 lo st h) := run_s rfl
theorem rq_X1_init_1 {lo : Lo} {st : List Value} {h : Hp} {Q : Option Value → Hp → Prop} : Run 3 1 lo st h Q = Cnt 3 Q (xo_oinit 4 lo st h) := run_s rfl
theorem rq_X1_init_4 {lo : Lo} {st : List Value} {h : Hp} {Q : Option Value → Hp → Prop} : Run 3 4 lo st h Q = Cnt 3 Q (xo_aload 0 5 lo st h) := run_s rfl
theorem rq_X1_init_5 {lo : Lo} {st : List Value} {h : Hp} {Q : Option Value → Hp → Prop} : Run 3 5 lo st h Q = Cnt 3 Q (xo_const (.int 32) 7 lo st h) := run_s rfl
theorem rq_X1_init_7 {lo : Lo} {st : List Value} {h : Hp} {Q : Option Value → Hp → Prop} : Run 3 7 lo st h Q = Cnt 3 Q (xo_newi 0 9 lo st h) := run_s rfl
theorem rq_X1_init_9 {lo : Lo} {st : List Value} {h : Hp} {Q : Option Value → Hp → Prop} : Run 3 9 lo st h Q = Cnt 3 Q (xo_putf 1 0 false 12 lo st h) := run_s rfl
theorem rq_X1_init_12 {lo : Lo} {st : List Value} {h : Hp} {Q : Option Value → Hp → Prop} : Run 3 12 lo st h Q = Cnt 3 Q (xo_aload 0 13 lo st h) := run_s rfl
theorem rq_X1_init_13 {lo : Lo} {st : List Value} {h : Hp} {Q : Option Value → Hp → Prop} : Run 3 13 lo st h Q = Cnt 3 Q (xo_const (.int 1024) 16 lo st h) := run_s rfl
theorem rq_X1_init_16 {lo : Lo} {st : List Value} {h : Hp} {Q : Option Value → Hp → Prop} : Run 3 16 lo st h Q = Cnt 3 Q (xo_newi 0 18 lo st h) := run_s rfl
theorem rq_X1_init_18 {lo : Lo} {st : List Value} {h : Hp} {Q : Option Value → Hp → Prop} : Run 3 18 lo st h Q = Cnt 3 Q (xo_putf 1 1 false 21 lo st h) := run_s rfl
theorem rq_X1_init_21 {lo : Lo} {st : List Value} {h : Hp} {Q : Option Value → Hp → Prop} : Run 3 21 lo st h Q = Cnt 3 Q (xo_aload 0 22 lo st h) := run_s rfl
theorem rq_X1_init_22 {lo : Lo} {st : List Value} {h : Hp} {Q : Option Value → Hp → Prop} : Run 3 22 lo st h Q = Cnt 3 Q (xo_const (.int 0) 23 lo st h) := run_s rfl
theorem rq_X1_init_23 {lo : Lo} {st : List Value} {h : Hp} {Q : Option Value → Hp → Prop} : Run 3 23 lo st h Q = Cnt 3 Q (xo_putf 1 2 true 26 lo st h) := run_s rfl
theorem rq_X1_init_26 {lo : Lo} {st : List Value} {h : Hp} {Q : Option Value → Hp → Prop} : Run 3 26 lo st h Q = Cnt 3 Q (xo_vret lo st h) := run_s rfl
theorem rq_X1_countPieces_0 {lo : Lo} {st : List Value} {h : Hp} {Q : Option Value → Hp → Prop} : Run 4 0 lo st h Q = Cnt 4 Q (xo_const (.int 0) 1 lo st h) := run_s rfl
theorem rq_X1_countPieces_1 {lo : Lo} {st : List Value} {h : Hp} {Q : Option Value → Hp → Prop} : Run 4 1 lo st h Q = Cnt 4 Q (xo_istore 2 2 lo st h) := run_s rfl
theorem rq_X1_countPieces_2 {lo : Lo} {st : List Value} {h : Hp} {Q : Option Value → Hp → Prop} : Run 4 2 lo st h Q = Cnt 4 Q (xo_iload 2 3 lo st h) := run_s rfl
theorem rq_X1_countPieces_3 {lo : Lo} {st : List Value} {h : Hp} {Q : Option Value → Hp → Prop} : Run 4 3 lo st h Q = Cnt 4 Q (xo_const (.int 32) 5 lo st h) := run_s rfl
theorem rq_X1_countPieces_5 {lo : Lo} {st : List Value} {h : Hp} {Q : Option Value → Hp → Prop} : Run 4 5 lo st h Q = Cnt 4 Q (xo_if2 (fun x y => decide (x ≥ y)) 23 8 lo st h) := run_s rfl
theorem rq_X1_countPieces_8 {lo : Lo} {st : List Value} {h : Hp} {Q : Option Value → Hp → Prop} : Run 4 8 lo st h Q = Cnt 4 Q (xo_aload 0 9 lo st h) := run_s rfl
theorem rq_X1_countPieces_9 {lo : Lo} {st : List Value} {h : Hp} {Q : Option Value → Hp → Prop} : Run 4 9 lo st h Q = Cnt 4 Q (xo_getf 1 0 12 lo st h) := run_s rfl
theorem rq_X1_countPieces_12 {lo : Lo} {st : List Value} {h : Hp} {Q : Option Value → Hp → Prop} : Run 4 12 lo st h Q = Cnt 4 Q (xo_iload 2 13 lo st h) := run_s rfl
theorem rq_X1_countPieces_13 {lo : Lo} {st : List Value} {h : Hp} {Q : Option Value → Hp → Prop} : Run 4 13 lo st h Q = Cnt 4 Q (xo_aload 1 14 lo st h) := run_s rfl
theorem rq_X1_countPieces_14 {lo : Lo} {st : List Value} {h : Hp} {Q : Option Value → Hp → Prop} : Run 4 14 lo st h Q = Cnt 4 Q (xo_iload 2 15 lo st h) := run_s rfl
theorem rq_X1_countPieces_15 {lo : Lo} {st : List Value} {h : Hp} {Q : Option Value → Hp → Prop} : Run 4 15 lo st h Q = Cnt 4 Q (xo_iald 16 lo st h) := run_s rfl
theorem rq_X1_countPieces_16 {lo : Lo} {st : List Value} {h : Hp} {Q : Option Value → Hp → Prop} : Run 4 16 lo st h Q = Cnt 4 Q (xo_iast 17 lo st h) := run_s rfl
theorem rq_X1_countPieces_17 {lo : Lo} {st : List Value} {h : Hp} {Q : Option Value → Hp → Prop} : Run 4 17 lo st h Q = Cnt 4 Q (xo_iinc 2 1 20 lo st h) := run_s rfl
theorem rq_X1_countPieces_20 {lo : Lo} {st : List Value} {h : Hp} {Q : Option Value → Hp → Prop} : Run 4 20 lo st h Q = Cnt 4 Q (xo_goto 2 lo st h) := run_s rfl
theorem rq_X1_countPieces_23 {lo : Lo} {st : List Value} {h : Hp} {Q : Option Value → Hp → Prop} : Run 4 23 lo st h Q = Cnt 4 Q (xo_aload 0 24 lo st h) := run_s rfl
theorem rq_X1_countPieces_24 {lo : Lo} {st : List Value} {h : Hp} {Q : Option Value → Hp → Prop} : Run 4 24 lo st h Q = Cnt 4 Q (xo_const (.int 1) 25 lo st h) := run_s rfl
theorem rq_X1_countPieces_25 {lo : Lo} {st : List Value} {h : Hp} {Q : Option Value → Hp → Prop} : Run 4 25 lo st h Q = CCall 6 2 (some 1) st h (Knt 4 28 lo (st.drop 2) Q) := run_c rfl
theorem rq_X1_countPieces_28 {lo : Lo} {st : List Value} {h : Hp} {Q : Option Value → Hp → Prop} : Run 4 28 lo st h Q = Cnt 4 Q (xo_iret lo st h) := run_s rfl
theorem rq_X1_countCounters_0 {lo : Lo} {st : List Value} {h : Hp} {Q : Option Value → Hp → Prop} : Run 5 0 lo st h Q = Cnt 5 Q (xo_const (.int 0) 1 lo st h) := run_s rfl
theorem rq_X1_countCounters_1 {lo : Lo} {st : List Value} {h : Hp} {Q : Option Value → Hp → Prop} : Run 5 1 lo st h Q = Cnt 5 Q (xo_istore 2 2 lo st h) := run_s rfl
theorem rq_X1_countCounters_2 {lo : Lo} {st : List Value} {h : Hp} {Q : Option Value → Hp → Prop} : Run 5 2 lo st h Q = Cnt 5 Q (xo_iload 2 3 lo st h) := run_s rfl
theorem rq_X1_countCounters_3 {lo : Lo} {st : List Value} {h : Hp} {Q : Option Value → Hp → Prop} : Run 5 3 lo st h Q = Cnt 5 Q (xo_const (.int 32) 5 lo st h) := run_s rfl
theorem rq_X1_countCounters_5 {lo : Lo} {st : List Value} {h : Hp} {Q : Option Value → Hp → Prop} : Run 5 5 lo st h Q = Cnt 5 Q (xo_if2 (fun x y => decide (x ≥ y)) 25 8 lo st h) := run_s rfl
theorem rq_X1_countCounters_8 {lo : Lo} {st : List Value} {h : Hp} {Q : Option Value → Hp → Prop} : Run 5 8 lo st h Q = Cnt 5 Q (xo_aload 0 9 lo st h) := run_s rfl
theorem rq_X1_countCounters_9 {lo : Lo} {st : List Value} {h : Hp} {Q : Option Value → Hp → Prop} : Run 5 9 lo st h Q = Cnt 5 Q (xo_getf 1 0 12 lo st h) := run_s rfl
theorem rq_X1_countCounters_12 {lo : Lo} {st : List Value} {h : Hp} {Q : Option Value → Hp → Prop} : Run 5 12 lo st h Q = Cnt 5 Q (xo_iload 2 13 lo st h) := run_s rfl
theorem rq_X1_countCounters_13 {lo : Lo} {st : List Value} {h : Hp} {Q : Option Value → Hp → Prop} : Run 5 13 lo st h Q = Cnt 5 Q (xo_aload 1 14 lo st h) := run_s rfl
theorem rq_X1_countCounters_14 {lo : Lo} {st : List Value} {h : Hp} {Q : Option Value → Hp → Prop} : Run 5 14 lo st h Q = Cnt 5 Q (xo_iload 2 15 lo st h) := run_s rfl
theorem rq_X1_countCounters_15 {lo : Lo} {st : List Value} {h : Hp} {Q : Option Value → Hp → Prop} : Run 5 15 lo st h Q = Cnt 5 Q (xo_iald 16 lo st h) := run_s rfl
theorem rq_X1_countCounters_16 {lo : Lo} {st : List Value} {h : Hp} {Q : Option Value → Hp → Prop} : Run 5 16 lo st h Q = Cnt 5 Q (xo_const (.int (-1)) 17 lo st h) := run_s rfl
theorem rq_X1_countCounters_17 {lo : Lo} {st : List Value} {h : Hp} {Q : Option Value → Hp → Prop} : Run 5 17 lo st h Q = Cnt 5 Q (xo_bin (fun x y => x ^^^ y) 18 lo st h) := run_s rfl
theorem rq_X1_countCounters_18 {lo : Lo} {st : List Value} {h : Hp} {Q : Option Value → Hp → Prop} : Run 5 18 lo st h Q = Cnt 5 Q (xo_iast 19 lo st h) := run_s rfl
theorem rq_X1_countCounters_19 {lo : Lo} {st : List Value} {h : Hp} {Q : Option Value → Hp → Prop} : Run 5 19 lo st h Q = Cnt 5 Q (xo_iinc 2 1 22 lo st h) := run_s rfl
theorem rq_X1_countCounters_22 {lo : Lo} {st : List Value} {h : Hp} {Q : Option Value → Hp → Prop} : Run 5 22 lo st h Q = Cnt 5 Q (xo_goto 2 lo st h) := run_s rfl
theorem rq_X1_countCounters_25 {lo : Lo} {st : List Value} {h : Hp} {Q : Option Value → Hp → Prop} : Run 5 25 lo st h Q = Cnt 5 Q (xo_const (.int 0) 26 lo st h) := run_s rfl
theorem rq_X1_countCounters_26 {lo : Lo} {st : List Value} {h : Hp} {Q : Option Value → Hp → Prop} : Run 5 26 lo st h Q = Cnt 5 Q (xo_istore 2 27 lo st h) := run_s rfl
theorem rq_X1_countCounters_27 {lo : Lo} {st : List Value} {h : Hp} {Q : Option Value → Hp → Prop} : Run 5 27 lo st h Q = Cnt 5 Q (xo_iload 2 28 lo st h) := run_s rfl
theorem rq_X1_countCounters_28 {lo : Lo} {st : List Value} {h : Hp} {Q : Option Value → Hp → Prop} : Run 5 28 lo st h Q = Cnt 5 Q (xo_const (.int 32) 30 lo st h) := run_s rfl
theorem rq_X1_countCounters_30 {lo : Lo} {st : List Value} {h : Hp} {Q : Option Value → Hp → Prop} : Run 5 30 lo st h Q = Cnt 5 Q (xo_if2 (fun x y => decide (x ≥ y)) 73 33 lo st h) := run_s rfl
theorem rq_X1_countCounters_33 {lo : Lo} {st : List Value} {h : Hp} {Q : Option Value → Hp → Prop} : Run 5 33 lo st h Q = Cnt 5 Q (xo_aload 0 34 lo st h) := run_s rfl
theorem rq_X1_countCounters_34 {lo : Lo} {st : List Value} {h : Hp} {Q : Option Value → Hp → Prop} : Run 5 34 lo st h Q = Cnt 5 Q (xo_iload 2 35 lo st h) := run_s rfl
theorem rq_X1_countCounters_35 {lo : Lo} {st : List Value} {h : Hp} {Q : Option Value → Hp → Prop} : Run 5 35 lo st h Q = Cnt 5 Q (xo_const (.int 0) 36 lo st h) := run_s rfl
theorem rq_X1_countCounters_36 {lo : Lo} {st : List Value} {h : Hp} {Q : Option Value → Hp → Prop} : Run 5 36 lo st h Q = Cnt 5 Q (xo_const (.int 0) 37 lo st h) := run_s rfl
theorem rq_X1_countCounters_37 {lo : Lo} {st : List Value} {h : Hp} {Q : Option Value → Hp → Prop} : Run 5 37 lo st h Q = CCall 7 4 (some 1) st h (Knt 5 40 lo (st.drop 4) Q) := run_c rfl
theorem rq_X1_countCounters_40 {lo : Lo} {st : List Value} {h : Hp} {Q : Option Value → Hp → Prop} : Run 5 40 lo st h Q = Cnt 5 Q (xo_pop 41 lo st h) := run_s rfl
theorem rq_X1_countCounters_41 {lo : Lo} {st : List Value} {h : Hp} {Q : Option Value → Hp → Prop} : Run 5 41 lo st h Q = Cnt 5 Q (xo_aload 0 42 lo st h) := run_s rfl
theorem rq_X1_countCounters_42 {lo : Lo} {st : List Value} {h : Hp} {Q : Option Value → Hp → Prop} : Run 5 42 lo st h Q = Cnt 5 Q (xo_iload 2 43 lo st h) := run_s rfl
theorem rq_X1_countCounters_43 {lo : Lo} {st : List Value} {h : Hp} {Q : Option Value → Hp → Prop} : Run 5 43 lo st h Q = Cnt 5 Q (xo_const (.int 31) 45 lo st h) := run_s rfl
theorem rq_X1_countCounters_45 {lo : Lo} {st : List Value} {h : Hp} {Q : Option Value → Hp → Prop} : Run 5 45 lo st h Q = Cnt 5 Q (xo_const (.int 0) 46 lo st h) := run_s rfl
theorem rq_X1_countCounters_46 {lo : Lo} {st : List Value} {h : Hp} {Q : Option Value → Hp → Prop} : Run 5 46 lo st h Q = CCall 7 4 (some 1) st h (Knt 5 49 lo (st.drop 4) Q) := run_c rfl
theorem rq_X1_countCounters_49 {lo : Lo} {st : List Value} {h : Hp} {Q : Option Value → Hp → Prop} : Run 5 49 lo st h Q = Cnt 5 Q (xo_pop 50 lo st h) := run_s rfl
theorem rq_X1_countCounters_50 {lo : Lo} {st : List Value} {h : Hp} {Q : Option Value → Hp → Prop} : Run 5 50 lo st h Q = Cnt 5 Q (xo_aload 0 51 lo st h) := run_s rfl
theorem rq_X1_countCounters_51 {lo : Lo} {st : List Value} {h : Hp} {Q : Option Value → Hp → Prop} : Run 5 51 lo st h Q = Cnt 5 Q (xo_const (.int 0) 52 lo st h) := run_s rfl
theorem rq_X1_countCounters_52 {lo : Lo} {st : List Value} {h : Hp} {Q : Option Value → Hp → Prop} : Run 5 52 lo st h Q = Cnt 5 Q (xo_iload 2 53 lo st h) := run_s rfl
theorem rq_X1_countCounters_53 {lo : Lo} {st : List Value} {h : Hp} {Q : Option Value → Hp → Prop} : Run 5 53 lo st h Q = Cnt 5 Q (xo_const (.int 0) 54 lo st h) := run_s rfl
theorem rq_X1_countCounters_54 {lo : Lo} {st : List Value} {h : Hp} {Q : Option Value → Hp → Prop} : Run 5 54 lo st h Q = CCall 7 4 (some 1) st h (Knt 5 57 lo (st.drop 4) Q) := run_c rfl
theorem rq_X1_countCounters_57 {lo : Lo} {st : List Value} {h : Hp} {Q : Option Value → Hp → Prop} : Run 5 57 lo st h Q = Cnt 5 Q (xo_pop 58 lo st h) := run_s rfl
theorem rq_X1_countCounters_58 {lo : Lo} {st : List Value} {h : Hp} {Q : Option Value → Hp → Prop} : Run 5 58 lo st h Q = Cnt 5 Q (xo_aload 0 59 lo st h) := run_s rfl
theorem rq_X1_countCounters_59 {lo : Lo} {st : List Value} {h : Hp} {Q : Option Value → Hp → Prop} : Run 5 59 lo st h Q = Cnt 5 Q (xo_const (.int 31) 61 lo st h) := run_s rfl
theorem rq_X1_countCounters_61 {lo : Lo} {st : List Value} {h : Hp} {Q : Option Value → Hp → Prop} : Run 5 61 lo st h Q = Cnt 5 Q (xo_iload 2 62 lo st h) := run_s rfl
theorem rq_X1_countCounters_62 {lo : Lo} {st : List Value} {h : Hp} {Q : Option Value → Hp → Prop} : Run 5 62 lo st h Q = Cnt 5 Q (xo_const (.int 0) 63 lo st h) := run_s rfl
theorem rq_X1_countCounters_63 {lo : Lo} {st : List Value} {h : Hp} {Q : Option Value → Hp → Prop} : Run 5 63 lo st h Q = CCall 7 4 (some 1) st h (Knt 5 66 lo (st.drop 4) Q) := run_c rfl
theorem rq_X1_countCounters_66 {lo : Lo} {st : List Value} {h : Hp} {Q : Option Value → Hp → Prop} : Run 5 66 lo st h Q = Cnt 5 Q (xo_pop 67 lo st h) := run_s rfl
theorem rq_X1_countCounters_67 {lo : Lo} {st : List Value} {h : Hp} {Q : Option Value → Hp → Prop} : Run 5 67 lo st h Q = Cnt 5 Q (xo_iinc 2 1 70 lo st h) := run_s rfl
theorem rq_X1_countCounters_70 {lo : Lo} {st : List Value} {h : Hp} {Q : Option Value → Hp → Prop} : Run 5 70 lo st h Q = Cnt 5 Q (xo_goto 27 lo st h) := run_s rfl
theorem rq_X1_countCounters_73 {lo : Lo} {st : List Value} {h : Hp} {Q : Option Value → Hp → Prop} : Run 5 73 lo st h Q = Cnt 5 Q (xo_aload 0 74 lo st h) := run_s rfl
theorem rq_X1_countCounters_74 {lo : Lo} {st : List Value} {h : Hp} {Q : Option Value → Hp → Prop} : Run 5 74 lo st h Q = Cnt 5 Q (xo_const (.int 0) 75 lo st h) := run_s rfl
theorem rq_X1_countCounters_75 {lo : Lo} {st : List Value} {h : Hp} {Q : Option Value → Hp → Prop} : Run 5 75 lo st h Q = CCall 6 2 (some 1) st h (Knt 5 78 lo (st.drop 2) Q) := run_c rfl
theorem rq_X1_countCounters_78 {lo : Lo} {st : List Value} {h : Hp} {Q : Option Value → Hp → Prop} : Run 5 78 lo st h Q = Cnt 5 Q (xo_iret lo st h) := run_s rfl
theorem rq_X1_countLeft_0 {lo : Lo} {st : List Value} {h : Hp} {Q : Option Value → Hp → Prop} : Run 6 0 lo st h Q = Cnt 6 Q (xo_const (.int 0) 1 lo st h) := run_s rfl
theorem rq_X1_countLeft_1 {lo : Lo} {st : List Value} {h : Hp} {Q : Option Value → Hp → Prop} : Run 6 1 lo st h Q = Cnt 6 Q (xo_istore 2 2 lo st h) := run_s rfl
theorem rq_X1_countLeft_2 {lo : Lo} {st : List Value} {h : Hp} {Q : Option Value → Hp → Prop} : Run 6 2 lo st h Q = Cnt 6 Q (xo_const (.int 0) 3 lo st h) := run_s rfl
theorem rq_X1_countLeft_3 {lo : Lo} {st : List Value} {h : Hp} {Q : Option Value → Hp → Prop} : Run 6 3 lo st h Q = Cnt 6 Q (xo_istore 3 4 lo st h) := run_s rfl
theorem rq_X1_countLeft_4 {lo : Lo} {st : List Value} {h : Hp} {Q : Option Value → Hp → Prop} : Run 6 4 lo st h Q = Cnt 6 Q (xo_iload 3 5 lo st h) := run_s rfl
theorem rq_X1_countLeft_5 {lo : Lo} {st : List Value} {h : Hp} {Q : Option Value → Hp → Prop} : Run 6 5 lo st h Q = Cnt 6 Q (xo_const (.int 32) 7 lo st h) := run_s rfl
theorem rq_X1_countLeft_7 {lo : Lo} {st : List Value} {h : Hp} {Q : Option Value → Hp → Prop} : Run 6 7 lo st h Q = Cnt 6 Q (xo_if2 (fun x y => decide (x ≥ y)) 55 10 lo st h) := run_s rfl
theorem rq_X1_countLeft_10 {lo : Lo} {st : List Value} {h : Hp} {Q : Option Value → Hp → Prop} : Run 6 10 lo st h Q = Cnt 6 Q (xo_const (.int 0) 11 lo st h) := run_s rfl
theorem rq_X1_countLeft_11 {lo : Lo} {st : List Value} {h : Hp} {Q : Option Value → Hp → Prop} : Run 6 11 lo st h Q = Cnt 6 Q (xo_istore 4 13 lo st h) := run_s rfl
theorem rq_X1_countLeft_13 {lo : Lo} {st : List Value} {h : Hp} {Q : Option Value → Hp → Prop} : Run 6 13 lo st h Q = Cnt 6 Q (xo_iload 4 15 lo st h) := run_s rfl
theorem rq_X1_countLeft_15 {lo : Lo} {st : List Value} {h : Hp} {Q : Option Value → Hp → Prop} : Run 6 15 lo st h Q = Cnt 6 Q (xo_const (.int 32) 17 lo st h) := run_s rfl
theorem rq_X1_countLeft_17 {lo : Lo} {st : List Value} {h : Hp} {Q : Option Value → Hp → Prop} : Run 6 17 lo st h Q = Cnt 6 Q (xo_if2 (fun x y => decide (x ≥ y)) 49 20 lo st h) := run_s rfl
theorem rq_X1_countLeft_20 {lo : Lo} {st : List Value} {h : Hp} {Q : Option Value → Hp → Prop} : Run 6 20 lo st h Q = Cnt 6 Q (xo_aload 0 21 lo st h) := run_s rfl
theorem rq_X1_countLeft_21 {lo : Lo} {st : List Value} {h : Hp} {Q : Option Value → Hp → Prop} : Run 6 21 lo st h Q = Cnt 6 Q (xo_getf 1 0 24 lo st h) := run_s rfl
theorem rq_X1_countLeft_24 {lo : Lo} {st : List Value} {h : Hp} {Q : Option Value → Hp → Prop} : Run 6 24 lo st h Q = Cnt 6 Q (xo_iload 3 25 lo st h) := run_s rfl
theorem rq_X1_countLeft_25 {lo : Lo} {st : List Value} {h : Hp} {Q : Option Value → Hp → Prop} : Run 6 25 lo st h Q = Cnt 6 Q (xo_iald 26 lo st h) := run_s rfl
theorem rq_X1_countLeft_26 {lo : Lo} {st : List Value} {h : Hp} {Q : Option Value → Hp → Prop} : Run 6 26 lo st h Q = Cnt 6 Q (xo_if1 (fun x => decide (x = 0)) 49 29 lo st h) := run_s rfl
theorem rq_X1_countLeft_29 {lo : Lo} {st : List Value} {h : Hp} {Q : Option Value → Hp → Prop} : Run 6 29 lo st h Q = Cnt 6 Q (xo_aload 0 30 lo st h) := run_s rfl
theorem rq_X1_countLeft_30 {lo : Lo} {st : List Value} {h : Hp} {Q : Option Value → Hp → Prop} : Run 6 30 lo st h Q = Cnt 6 Q (xo_iload 4 32 lo st h) := run_s rfl
theorem rq_X1_countLeft_32 {lo : Lo} {st : List Value} {h : Hp} {Q : Option Value → Hp → Prop} : Run 6 32 lo st h Q = Cnt 6 Q (xo_iload 3 33 lo st h) := run_s rfl
theorem rq_X1_countLeft_33 {lo : Lo} {st : List Value} {h : Hp} {Q : Option Value → Hp → Prop} : Run 6 33 lo st h Q = Cnt 6 Q (xo_iload 1 34 lo st h) := run_s rfl
theorem rq_X1_countLeft_34 {lo : Lo} {st : List Value} {h : Hp} {Q : Option Value → Hp → Prop} : Run 6 34 lo st h Q = CCall 7 4 (some 1) st h (Knt 6 37 lo (st.drop 4) Q) := run_c rfl
theorem rq_X1_countLeft_37 {lo : Lo} {st : List Value} {h : Hp} {Q : Option Value → Hp → Prop} : Run 6 37 lo st h Q = Cnt 6 Q (xo_if1 (fun x => decide (x = 0)) 43 40 lo st h) := run_s rfl
theorem rq_X1_countLeft_40 {lo : Lo} {st : List Value} {h : Hp} {Q : Option Value → Hp → Prop} : Run 6 40 lo st h Q = Cnt 6 Q (xo_iinc 2 1 43 lo st h) := run_s rfl
theorem rq_X1_countLeft_43 {lo : Lo} {st : List Value} {h : Hp} {Q : Option Value → Hp → Prop} : Run 6 43 lo st h Q = Cnt 6 Q (xo_iinc 4 1 46 lo st h) := run_s rfl
theorem rq_X1_countLeft_46 {lo : Lo} {st : List Value} {h : Hp} {Q : Option Value → Hp → Prop} : Run 6 46 lo st h Q = Cnt 6 Q (xo_goto 13 lo st h) := run_s rfl
theorem rq_X1_countLeft_49 {lo : Lo} {st : List Value} {h : Hp} {Q : Option Value → Hp → Prop} : Run 6 49 lo st h Q = Cnt 6 Q (xo_iinc 3 1 52 lo st h) := run_s rfl
theorem rq_X1_countLeft_52 {lo : Lo} {st : List Value} {h : Hp} {Q : Option Value → Hp → Prop} : Run 6 52 lo st h Q = Cnt 6 Q (xo_goto 4 lo st h) := run_s rfl
theorem rq_X1_countLeft_55 {lo : Lo} {st : List Value} {h : Hp} {Q : Option Value → Hp → Prop} : Run 6 55 lo st h Q = Cnt 6 Q (xo_iload 2 56 lo st h) := run_s rfl
theorem rq_X1_countLeft_56 {lo : Lo} {st : List Value} {h : Hp} {Q : Option Value → Hp → Prop} : Run 6 56 lo st h Q = Cnt 6 Q (xo_iret lo st h) := run_s rfl
theorem rq_X1_removePiece_0 {lo : Lo} {st : List Value} {h : Hp} {Q : Option Value → Hp → Prop} : Run 7 0 lo st h Q = Cnt 7 Q (xo_aload 0 1 lo st h) := run_s rfl
theorem rq_X1_removePiece_1 {lo : Lo} {st : List Value} {h : Hp} {Q : Option Value → Hp → Prop} : Run 7 1 lo st h Q = Cnt 7 Q (xo_const (.int 0) 2 lo st h) := run_s rfl
theorem rq_X1_removePiece_2 {lo : Lo} {st : List Value} {h : Hp} {Q : Option Value → Hp → Prop} : Run 7 2 lo st h Q = Cnt 7 Q (xo_putf 1 2 true 5 lo st h) := run_s rfl
theorem rq_X1_removePiece_5 {lo : Lo} {st : List Value} {h : Hp} {Q : Option Value → Hp → Prop} : Run 7 5 lo st h Q = Cnt 7 Q (xo_aload 0 6 lo st h) := run_s rfl
theorem rq_X1_removePiece_6 {lo : Lo} {st : List Value} {h : Hp} {Q : Option Value → Hp → Prop} : Run 7 6 lo st h Q = Cnt 7 Q (xo_iload 1 7 lo st h) := run_s rfl
theorem rq_X1_removePiece_7 {lo : Lo} {st : List Value} {h : Hp} {Q : Option Value → Hp → Prop} : Run 7 7 lo st h Q = Cnt 7 Q (xo_iload 2 8 lo st h) := run_s rfl
theorem rq_X1_removePiece_8 {lo : Lo} {st : List Value} {h : Hp} {Q : Option Value → Hp → Prop} : Run 7 8 lo st h Q = CCall 8 3 (some 1) st h (Knt 7 11 lo (st.drop 3) Q) := run_c rfl
theorem rq_X1_removePiece_11 {lo : Lo} {st : List Value} {h : Hp} {Q : Option Value → Hp → Prop} : Run 7 11 lo st h Q = Cnt 7 Q (xo_const (.int 0) 12 lo st h) := run_s rfl
theorem rq_X1_removePiece_12 {lo : Lo} {st : List Value} {h : Hp} {Q : Option Value → Hp → Prop} : Run 7 12 lo st h Q = Cnt 7 Q (xo_istore 4 14 lo st h) := run_s rfl
theorem rq_X1_removePiece_14 {lo : Lo} {st : List Value} {h : Hp} {Q : Option Value → Hp → Prop} : Run 7 14 lo st h Q = Cnt 7 Q (xo_iload 4 16 lo st h) := run_s rfl
theorem rq_X1_removePiece_16 {lo : Lo} {st : List Value} {h : Hp} {Q : Option Value → Hp → Prop} : Run 7 16 lo st h Q = Cnt 7 Q (xo_aload 0 17 lo st h) := run_s rfl
theorem rq_X1_removePiece_17 {lo : Lo} {st : List Value} {h : Hp} {Q : Option Value → Hp → Prop} : Run 7 17 lo st h Q = Cnt 7 Q (xo_getf 1 1 20 lo st h) := run_s rfl
theorem rq_X1_removePiece_20 {lo : Lo} {st : List Value} {h : Hp} {Q : Option Value → Hp → Prop} : Run 7 20 lo st h Q = Cnt 7 Q (xo_alen 21 lo st h) := run_s rfl
theorem rq_X1_removePiece_21 {lo : Lo} {st : List Value} {h : Hp} {Q : Option Value → Hp → Prop} : Run 7 21 lo st h Q = Cnt 7 Q (xo_if2 (fun x y => decide (x ≥ y)) 155 24 lo st h) := run_s rfl
theorem rq_X1_removePiece_24 {lo : Lo} {st : List Value} {h : Hp} {Q : Option Value → Hp → Prop} : Run 7 24 lo st h Q = Cnt 7 Q (xo_iload 4 26 lo st h) := run_s rfl
theorem rq_X1_removePiece_26 {lo : Lo} {st : List Value} {h : Hp} {Q : Option Value → Hp → Prop} : Run 7 26 lo st h Q = Cnt 7 Q (xo_aload 0 27 lo st h) := run_s rfl
theorem rq_X1_removePiece_27 {lo : Lo} {st : List Value} {h : Hp} {Q : Option Value → Hp → Prop} : Run 7 27 lo st h Q = Cnt 7 Q (xo_getf 1 2 30 lo st h) := run_s rfl
theorem rq_X1_removePiece_30 {lo : Lo} {st : List Value} {h : Hp} {Q : Option Value → Hp → Prop} : Run 7 30 lo st h Q = Cnt 7 Q (xo_if2 (fun x y => decide (x ≥ y)) 155 33 lo st h) := run_s rfl
theorem rq_X1_removePiece_33 {lo : Lo} {st : List Value} {h : Hp} {Q : Option Value → Hp → Prop} : Run 7 33 lo st h Q = Cnt 7 Q (xo_aload 0 34 lo st h) := run_s rfl
theorem rq_X1_removePiece_34 {lo : Lo} {st : List Value} {h : Hp} {Q : Option Value → Hp → Prop} : Run 7 34 lo st h Q = Cnt 7 Q (xo_getf 1 1 37 lo st h) := run_s rfl
theorem rq_X1_removePiece_37 {lo : Lo} {st : List Value} {h : Hp} {Q : Option Value → Hp → Prop} : Run 7 37 lo st h Q = Cnt 7 Q (xo_iload 4 39 lo st h) := run_s rfl
theorem rq_X1_removePiece_39 {lo : Lo} {st : List Value} {h : Hp} {Q : Option Value → Hp → Prop} : Run 7 39 lo st h Q = Cnt 7 Q (xo_iald 40 lo st h) := run_s rfl
theorem rq_X1_removePiece_40 {lo : Lo} {st : List Value} {h : Hp} {Q : Option Value → Hp → Prop} : Run 7 40 lo st h Q = Cnt 7 Q (xo_const (.int 32) 42 lo st h) := run_s rfl
theorem rq_X1_removePiece_42 {lo : Lo} {st : List Value} {h : Hp} {Q : Option Value → Hp → Prop} : Run 7 42 lo st h Q = Cnt 7 Q (xo_div (fun x y => x - x / y * y) 43 lo st h) := run_s rfl
theorem rq_X1_removePiece_43 {lo : Lo} {st : List Value} {h : Hp} {Q : Option Value → Hp → Prop} : Run 7 43 lo st h Q = Cnt 7 Q (xo_istore 5 45 lo st h) := run_s rfl
theorem rq_X1_removePiece_45 {lo : Lo} {st : List Value} {h : Hp} {Q : Option Value → Hp → Prop} : Run 7 45 lo st h Q = Cnt 7 Q (xo_aload 0 46 lo st h) := run_s rfl
theorem rq_X1_removePiece_46 {lo : Lo} {st : List Value} {h : Hp} {Q : Option Value → Hp → Prop} : Run 7 46 lo st h Q = Cnt 7 Q (xo_getf 1 1 49 lo st h) := run_s rfl
theorem rq_X1_removePiece_49 {lo : Lo} {st : List Value} {h : Hp} {Q : Option Value → Hp → Prop} : Run 7 49 lo st h Q = Cnt 7 Q (xo_iload 4 51 lo st h) := run_s rfl
theorem rq_X1_removePiece_51 {lo : Lo} {st : List Value} {h : Hp} {Q : Option Value → Hp → Prop} : Run 7 51 lo st h Q = Cnt 7 Q (xo_iald 52 lo st h) := run_s rfl
theorem rq_X1_removePiece_52 {lo : Lo} {st : List Value} {h : Hp} {Q : Option Value → Hp → Prop} : Run 7 52 lo st h Q = Cnt 7 Q (xo_const (.int 32) 54 lo st h) := run_s rfl
theorem rq_X1_removePiece_54 {lo : Lo} {st : List Value} {h : Hp} {Q : Option Value → Hp → Prop} : Run 7 54 lo st h Q = Cnt 7 Q (xo_div (fun x y => x / y) 55 lo st h) := run_s rfl
theorem rq_X1_removePiece_55 {lo : Lo} {st : List Value} {h : Hp} {Q : Option Value → Hp → Prop} : Run 7 55 lo st h Q = Cnt 7 Q (xo_istore 6 57 lo st h) := run_s rfl
theorem rq_X1_removePiece_57 {lo : Lo} {st : List Value} {h : Hp} {Q : Option Value → Hp → Prop} : Run 7 57 lo st h Q = Cnt 7 Q (xo_aload 0 58 lo st h) := run_s rfl
theorem rq_X1_removePiece_58 {lo : Lo} {st : List Value} {h : Hp} {Q : Option Value → Hp → Prop} : Run 7 58 lo st h Q = Cnt 7 Q (xo_iload 5 60 lo st h) := run_s rfl
theorem rq_X1_removePiece_60 {lo : Lo} {st : List Value} {h : Hp} {Q : Option Value → Hp → Prop} : Run 7 60 lo st h Q = Cnt 7 Q (xo_const (.int 1) 61 lo st h) := run_s rfl
theorem rq_X1_removePiece_61 {lo : Lo} {st : List Value} {h : Hp} {Q : Option Value → Hp → Prop} : Run 7 61 lo st h Q = Cnt 7 Q (xo_bin (fun x y => x - y) 62 lo st h) := run_s rfl
theorem rq_X1_removePiece_62 {lo : Lo} {st : List Value} {h : Hp} {Q : Option Value → Hp → Prop} : Run 7 62 lo st h Q = Cnt 7 Q (xo_iload 6 64 lo st h) := run_s rfl
theorem rq_X1_removePiece_64 {lo : Lo} {st : List Value} {h : Hp} {Q : Option Value → Hp → Prop} : Run 7 64 lo st h Q = CCall 8 3 (some 1) st h (Knt 7 67 lo (st.drop 3) Q) := run_c rfl
theorem rq_X1_removePiece_67 {lo : Lo} {st : List Value} {h : Hp} {Q : Option Value → Hp → Prop} : Run 7 67 lo st h Q = Cnt 7 Q (xo_aload 0 68 lo st h) := run_s rfl
theorem rq_X1_removePiece_68 {lo : Lo} {st : List Value} {h : Hp} {Q : Option Value → Hp → Prop} : Run 7 68 lo st h Q = Cnt 7 Q (xo_iload 5 70 lo st h) := run_s rfl
theorem rq_X1_removePiece_70 {lo : Lo} {st : List Value} {h : Hp} {Q : Option Value → Hp → Prop} : Run 7 70 lo st h Q = Cnt 7 Q (xo_const (.int 1) 71 lo st h) := run_s rfl
theorem rq_X1_removePiece_71 {lo : Lo} {st : List Value} {h : Hp} {Q : Option Value → Hp → Prop} : Run 7 71 lo st h Q = Cnt 7 Q (xo_bin (fun x y => x + y) 72 lo st h) := run_s rfl
theorem rq_X1_removePiece_72 {lo : Lo} {st : List Value} {h : Hp} {Q : Option Value → Hp → Prop} : Run 7 72 lo st h Q = Cnt 7 Q (xo_iload 6 74 lo st h) := run_s rfl
theorem rq_X1_removePiece_74 {lo : Lo} {st : List Value} {h : Hp} {Q : Option Value → Hp → Prop} : Run 7 74 lo st h Q = CCall 8 3 (some 1) st h (Knt 7 77 lo (st.drop 3) Q) := run_c rfl
theorem rq_X1_removePiece_77 {lo : Lo} {st : List Value} {h : Hp} {Q : Option Value → Hp → Prop} : Run 7 77 lo st h Q = Cnt 7 Q (xo_aload 0 78 lo st h) := run_s rfl
theorem rq_X1_removePiece_78 {lo : Lo} {st : List Value} {h : Hp} {Q : Option Value → Hp → Prop} : Run 7 78 lo st h Q = Cnt 7 Q (xo_iload 5 80 lo st h) := run_s rfl
theorem rq_X1_removePiece_80 {lo : Lo} {st : List Value} {h : Hp} {Q : Option Value → Hp → Prop} : Run 7 80 lo st h Q = Cnt 7 Q (xo_iload 6 82 lo st h) := run_s rfl
theorem rq_X1_removePiece_82 {lo : Lo} {st : List Value} {h : Hp} {Q : Option Value → Hp → Prop} : Run 7 82 lo st h Q = Cnt 7 Q (xo_const (.int 1) 83 lo st h) := run_s rfl
theorem rq_X1_removePiece_83 {lo : Lo} {st : List Value} {h : Hp} {Q : Option Value → Hp → Prop} : Run 7 83 lo st h Q = Cnt 7 Q (xo_bin (fun x y => x - y) 84 lo st h) := run_s rfl
theorem rq_X1_removePiece_84 {lo : Lo} {st : List Value} {h : Hp} {Q : Option Value → Hp → Prop} : Run 7 84 lo st h Q = CCall 8 3 (some 1) st h (Knt 7 87 lo (st.drop 3) Q) := run_c rfl
theorem rq_X1_removePiece_87 {lo : Lo} {st : List Value} {h : Hp} {Q : Option Value → Hp → Prop} : Run 7 87 lo st h Q = Cnt 7 Q (xo_aload 0 88 lo st h) := run_s rfl
theorem rq_X1_removePiece_88 {lo : Lo} {st : List Value} {h : Hp} {Q : Option Value → Hp → Prop} : Run 7 88 lo st h Q = Cnt 7 Q (xo_iload 5 90 lo st h) := run_s rfl
theorem rq_X1_removePiece_90 {lo : Lo} {st : List Value} {h : Hp} {Q : Option Value → Hp → Prop} : Run 7 90 lo st h Q = Cnt 7 Q (xo_iload 6 92 lo st h) := run_s rfl
theorem rq_X1_removePiece_92 {lo : Lo} {st : List Value} {h : Hp} {Q : Option Value → Hp → Prop} : Run 7 92 lo st h Q = Cnt 7 Q (xo_const (.int 1) 93 lo st h) := run_s rfl
theorem rq_X1_removePiece_93 {lo : Lo} {st : List Value} {h : Hp} {Q : Option Value → Hp → Prop} : Run 7 93 lo st h Q = Cnt 7 Q (xo_bin (fun x y => x + y) 94 lo st h) := run_s rfl
theorem rq_X1_removePiece_94 {lo : Lo} {st : List Value} {h : Hp} {Q : Option Value → Hp → Prop} : Run 7 94 lo st h Q = CCall 8 3 (some 1) st h (Knt 7 97 lo (st.drop 3) Q) := run_c rfl
theorem rq_X1_removePiece_97 {lo : Lo} {st : List Value} {h : Hp} {Q : Option Value → Hp → Prop} : Run 7 97 lo st h Q = Cnt 7 Q (xo_iload 3 98 lo st h) := run_s rfl
theorem rq_X1_removePiece_98 {lo : Lo} {st : List Value} {h : Hp} {Q : Option Value → Hp → Prop} : Run 7 98 lo st h Q = Cnt 7 Q (xo_if1 (fun x => decide (x = 0)) 149 101 lo st h) := run_s rfl
theorem rq_X1_removePiece_101 {lo : Lo} {st : List Value} {h : Hp} {Q : Option Value → Hp → Prop} : Run 7 101 lo st h Q = Cnt 7 Q (xo_aload 0 102 lo st h) := run_s rfl
theorem rq_X1_removePiece_102 {lo : Lo} {st : List Value} {h : Hp} {Q : Option Value → Hp → Prop} : Run 7 102 lo st h Q = Cnt 7 Q (xo_iload 5 104 lo st h) := run_s rfl
theorem rq_X1_removePiece_104 {lo : Lo} {st : List Value} {h : Hp} {Q : Option Value → Hp → Prop} : Run 7 104 lo st h Q = Cnt 7 Q (xo_const (.int 1) 105 lo st h) := run_s rfl
theorem rq_X1_removePiece_105 {lo : Lo} {st : List Value} {h : Hp} {Q : Option Value → Hp → Prop} : Run 7 105 lo st h Q = Cnt 7 Q (xo_bin (fun x y => x - y) 106 lo st h) := run_s rfl
theorem rq_X1_removePiece_106 {lo : Lo} {st : List Value} {h : Hp} {Q : Option Value → Hp → Prop} : Run 7 106 lo st h Q = Cnt 7 Q (xo_iload 6 108 lo st h) := run_s rfl
theorem rq_X1_removePiece_108 {lo : Lo} {st : List Value} {h : Hp} {Q : Option Value → Hp → Prop} : Run 7 108 lo st h Q = Cnt 7 Q (xo_const (.int 1) 109 lo st h) := run_s rfl
theorem rq_X1_removePiece_109 {lo : Lo} {st : List Value} {h : Hp} {Q : Option Value → Hp → Prop} : Run 7 109 lo st h Q = Cnt 7 Q (xo_bin (fun x y => x - y) 110 lo st h) := run_s rfl
theorem rq_X1_removePiece_110 {lo : Lo} {st : List Value} {h : Hp} {Q : Option Value → Hp → Prop} : Run 7 110 lo st h Q = CCall 8 3 (some 1) st h (Knt 7 113 lo (st.drop 3) Q) := run_c rfl
theorem rq_X1_removePiece_113 {lo : Lo} {st : List Value} {h : Hp} {Q : Option Value → Hp → Prop} : Run 7 113 lo st h Q = Cnt 7 Q (xo_aload 0 114 lo st h) := run_s rfl
theorem rq_X1_removePiece_114 {lo : Lo} {st : List Value} {h : Hp} {Q : Option Value → Hp → Prop} : Run 7 114 lo st h Q = Cnt 7 Q (xo_iload 5 116 lo st h) := run_s rfl
theorem rq_X1_removePiece_116 {lo : Lo} {st : List Value} {h : Hp} {Q : Option Value → Hp → Prop} : Run 7 116 lo st h Q = Cnt 7 Q (xo_const (.int 1) 117 lo st h) := run_s rfl
theorem rq_X1_removePiece_117 {lo : Lo} {st : List Value} {h : Hp} {Q : Option Value → Hp → Prop} : Run 7 117 lo st h Q = Cnt 7 Q (xo_bin (fun x y => x + y) 118 lo st h) := run_s rfl
theorem rq_X1_removePiece_118 {lo : Lo} {st : List Value} {h : Hp} {Q : Option Value → Hp → Prop} : Run 7 118 lo st h Q = Cnt 7 Q (xo_iload 6 120 lo st h) := run_s rfl
theorem rq_X1_removePiece_120 {lo : Lo} {st : List Value} {h : Hp} {Q : Option Value → Hp → Prop} : Run 7 120 lo st h Q = Cnt 7 Q (xo_const (.int 1) 121 lo st h) := run_s rfl
theorem rq_X1_removePiece_121 {lo : Lo} {st : List Value} {h : Hp} {Q : Option Value → Hp → Prop} : Run 7 121 lo st h Q = Cnt 7 Q (xo_bin (fun x y => x - y) 122 lo st h) := run_s rfl
theorem rq_X1_removePiece_122 {lo : Lo} {st : List Value} {h : Hp} {Q : Option Value → Hp → Prop} : Run 7 122 lo st h Q = CCall 8 3 (some 1) st h (Knt 7 125 lo (st.drop 3) Q) := run_c rfl
theorem rq_X1_removePiece_125 {lo : Lo} {st : List Value} {h : Hp} {Q : Option Value → Hp → Prop} : Run 7 125 lo st h Q = Cnt 7 Q (xo_aload 0 126 lo st h) := run_s rfl
theorem rq_X1_removePiece_126 {lo : Lo} {st : List Value} {h : Hp} {Q : Option Value → Hp → Prop} : Run 7 126 lo st h Q = Cnt 7 Q (xo_iload 5 128 lo st h) := run_s rfl
theorem rq_X1_removePiece_128 {lo : Lo} {st : List Value} {h : Hp} {Q : Option Value → Hp → Prop} : Run 7 128 lo st h Q = Cnt 7 Q (xo_const (.int 1) 129 lo st h) := run_s rfl
theorem rq_X1_removePiece_129 {lo : Lo} {st : List Value} {h : Hp} {Q : Option Value → Hp → Prop} : Run 7 129 lo st h Q = Cnt 7 Q (xo_bin (fun x y => x - y) 130 lo st h) := run_s rfl
theorem rq_X1_removePiece_130 {lo : Lo} {st : List Value} {h : Hp} {Q : Option Value → Hp → Prop} : Run 7 130 lo st h Q = Cnt 7 Q (xo_iload 6 132 lo st h) := run_s rfl
theorem rq_X1_removePiece_132 {lo : Lo} {st : List Value} {h : Hp} {Q : Option Value → Hp → Prop} : Run 7 132 lo st h Q = Cnt 7 Q (xo_const (.int 1) 133 lo st h) := run_s rfl
theorem rq_X1_removePiece_133 {lo : Lo} {st : List Value} {h : Hp} {Q : Option Value → Hp → Prop} : Run 7 133 lo st h Q = Cnt 7 Q (xo_bin (fun x y => x + y) 134 lo st h) := run_s rfl
theorem rq_X1_removePiece_134 {lo : Lo} {st : List Value} {h : Hp} {Q : Option Value → Hp → Prop} : Run 7 134 lo st h Q = CCall 8 3 (some 1) st h (Knt 7 137 lo (st.drop 3) Q) := run_c rfl
theorem rq_X1_removePiece_137 {lo : Lo} {st : List Value} {h : Hp} {Q : Option Value → Hp → Prop} : Run 7 137 lo st h Q = Cnt 7 Q (xo_aload 0 138 lo st h) := run_s rfl
theorem rq_X1_removePiece_138 {lo : Lo} {st : List Value} {h : Hp} {Q : Option Value → Hp → Prop} : Run 7 138 lo st h Q = Cnt 7 Q (xo_iload 5 140 lo st h) := run_s rfl
theorem rq_X1_removePiece_140 {lo : Lo} {st : List Value} {h : Hp} {Q : Option Value → Hp → Prop} : Run 7 140 lo st h Q = Cnt 7 Q (xo_const (.int 1) 141 lo st h) := run_s rfl
theorem rq_X1_removePiece_141 {lo : Lo} {st : List Value} {h : Hp} {Q : Option Value → Hp → Prop} : Run 7 141 lo st h Q = Cnt 7 Q (xo_bin (fun x y => x + y) 142 lo st h) := run_s rfl
theorem rq_X1_removePiece_142 {lo : Lo} {st : List Value} {h : Hp} {Q : Option Value → Hp → Prop} : Run 7 142 lo st h Q = Cnt 7 Q (xo_iload 6 144 lo st h) := run_s rfl
theorem rq_X1_removePiece_144 {lo : Lo} {st : List Value} {h : Hp} {Q : Option Value → Hp → Prop} : Run 7 144 lo st h Q = Cnt 7 Q (xo_const (.int 1) 145 lo st h) := run_s rfl
theorem rq_X1_removePiece_145 {lo : Lo} {st : List Value} {h : Hp} {Q : Option Value → Hp → Prop} : Run 7 145 lo st h Q = Cnt 7 Q (xo_bin (fun x y => x + y) 146 lo st h) := run_s rfl
theorem rq_X1_removePiece_146 {lo : Lo} {st : List Value} {h : Hp} {Q : Option Value → Hp → Prop} : Run 7 146 lo st h Q = CCall 8 3 (some 1) st h (Knt 7 149 lo (st.drop 3) Q) := run_c rfl
theorem rq_X1_removePiece_149 {lo : Lo} {st : List Value} {h : Hp} {Q : Option Value → Hp → Prop} : Run 7 149 lo st h Q = Cnt 7 Q (xo_iinc 4 1 152 lo st h) := run_s rfl
theorem rq_X1_removePiece_152 {lo : Lo} {st : List Value} {h : Hp} {Q : Option Value → Hp → Prop} : Run 7 152 lo st h Q = Cnt 7 Q (xo_goto 14 lo st h) := run_s rfl
theorem rq_X1_removePiece_155 {lo : Lo} {st : List Value} {h : Hp} {Q : Option Value → Hp → Prop} : Run 7 155 lo st h Q = Cnt 7 Q (xo_aload 0 156 lo st h) := run_s rfl
theorem rq_X1_removePiece_156 {lo : Lo} {st : List Value} {h : Hp} {Q : Option Value → Hp → Prop} : Run 7 156 lo st h Q = Cnt 7 Q (xo_getf 1 2 159 lo st h) := run_s rfl
theorem rq_X1_removePiece_159 {lo : Lo} {st : List Value} {h : Hp} {Q : Option Value → Hp → Prop} : Run 7 159 lo st h Q = Cnt 7 Q (xo_if1 (fun x => decide (x ≤ 0)) 166 162 lo st h) := run_s rfl
theorem rq_X1_removePiece_162 {lo : Lo} {st : List Value} {h : Hp} {Q : Option Value → Hp → Prop} : Run 7 162 lo st h Q = Cnt 7 Q (xo_const (.int 1) 163 lo st h) := run_s rfl
theorem rq_X1_removePiece_163 {lo : Lo} {st : List Value} {h : Hp} {Q : Option Value → Hp → Prop} : Run 7 163 lo st h Q = Cnt 7 Q (xo_goto 167 lo st h) := run_s rfl
theorem rq_X1_removePiece_166 {lo : Lo} {st : List Value} {h : Hp} {Q : Option Value → Hp → Prop} : Run 7 166 lo st h Q = Cnt 7 Q (xo_const (.int 0) 167 lo st h) := run_s rfl
theorem rq_X1_removePiece_167 {lo : Lo} {st : List Value} {h : Hp} {Q : Option Value → Hp → Prop} : Run 7 167 lo st h Q = Cnt 7 Q (xo_zret lo st h) := run_s rfl
theorem rq_X1_removePlace_0 {lo : Lo} {st : List Value} {h : Hp} {Q : Option Value → Hp → Prop} : Run 8 0 lo st h Q = Cnt 8 Q (xo_iload 1 1 lo st h) := run_s rfl
theorem rq_X1_removePlace_1 {lo : Lo} {st : List Value} {h : Hp} {Q : Option Value → Hp → Prop} : Run 8 1 lo st h Q = Cnt 8 Q (xo_const (.int 0) 2 lo st h) := run_s rfl
theorem rq_X1_removePlace_2 {lo : Lo} {st : List Value} {h : Hp} {Q : Option Value → Hp → Prop} : Run 8 2 lo st h Q = Cnt 8 Q (xo_const (.int 31) 4 lo st h) := run_s rfl
theorem rq_X1_removePlace_4 {lo : Lo} {st : List Value} {h : Hp} {Q : Option Value → Hp → Prop} : Run 8 4 lo st h Q = CCall 98 3 none st h (Knt 8 7 lo (st.drop 3) Q) := run_c rfl
theorem rq_X1_removePlace_7 {lo : Lo} {st : List Value} {h : Hp} {Q : Option Value → Hp → Prop} : Run 8 7 lo st h Q = Cnt 8 Q (xo_if1 (fun x => decide (x = 0)) 33 10 lo st h) := run_s rfl
theorem rq_X1_removePlace_10 {lo : Lo} {st : List Value} {h : Hp} {Q : Option Value → Hp → Prop} : Run 8 10 lo st h Q = Cnt 8 Q (xo_iload 2 11 lo st h) := run_s rfl
theorem rq_X1_removePlace_11 {lo : Lo} {st : List Value} {h : Hp} {Q : Option Value → Hp → Prop} : Run 8 11 lo st h Q = Cnt 8 Q (xo_const (.int 0) 12 lo st h) := run_s rfl
theorem rq_X1_removePlace_12 {lo : Lo} {st : List Value} {h : Hp} {Q : Option Value → Hp → Prop} : Run 8 12 lo st h Q = Cnt 8 Q (xo_const (.int 31) 14 lo st h) := run_s rfl
theorem rq_X1_removePlace_14 {lo : Lo} {st : List Value} {h : Hp} {Q : Option Value → Hp → Prop} : Run 8 14 lo st h Q = CCall 98 3 none st h (Knt 8 17 lo (st.drop 3) Q) := run_c rfl
theorem rq_X1_removePlace_17 {lo : Lo} {st : List Value} {h : Hp} {Q : Option Value → Hp → Prop} : Run 8 17 lo st h Q = Cnt 8 Q (xo_if1 (fun x => decide (x = 0)) 33 20 lo st h) := run_s rfl
theorem rq_X1_removePlace_20 {lo : Lo} {st : List Value} {h : Hp} {Q : Option Value → Hp → Prop} : Run 8 20 lo st h Q = Cnt 8 Q (xo_aload 0 21 lo st h) := run_s rfl
theorem rq_X1_removePlace_21 {lo : Lo} {st : List Value} {h : Hp} {Q : Option Value → Hp → Prop} : Run 8 21 lo st h Q = Cnt 8 Q (xo_getf 1 0 24 lo st h) := run_s rfl
theorem rq_X1_removePlace_24 {lo : Lo} {st : List Value} {h : Hp} {Q : Option Value → Hp → Prop} : Run 8 24 lo st h Q = Cnt 8 Q (xo_iload 2 25 lo st h) := run_s rfl
theorem rq_X1_removePlace_25 {lo : Lo} {st : List Value} {h : Hp} {Q : Option Value → Hp → Prop} : Run 8 25 lo st h Q = Cnt 8 Q (xo_iald 26 lo st h) := run_s rfl
theorem rq_X1_removePlace_26 {lo : Lo} {st : List Value} {h : Hp} {Q : Option Value → Hp → Prop} : Run 8 26 lo st h Q = Cnt 8 Q (xo_iload 1 27 lo st h) := run_s rfl
theorem rq_X1_removePlace_27 {lo : Lo} {st : List Value} {h : Hp} {Q : Option Value → Hp → Prop} : Run 8 27 lo st h Q = Cnt 8 Q (xo_bin (fun x y => (x.toUInt32 >>> (y.toUInt32 &&& Int32.toUInt32 31)).toInt32) 28 lo st h) := run_s rfl
theorem rq_X1_removePlace_28 {lo : Lo} {st : List Value} {h : Hp} {Q : Option Value → Hp → Prop} : Run 8 28 lo st h Q = Cnt 8 Q (xo_const (.int 1) 29 lo st h) := run_s rfl
theorem rq_X1_removePlace_29 {lo : Lo} {st : List Value} {h : Hp} {Q : Option Value → Hp → Prop} : Run 8 29 lo st h Q = Cnt 8 Q (xo_bin (fun x y => x &&& y) 30 lo st h) := run_s rfl
theorem rq_X1_removePlace_30 {lo : Lo} {st : List Value} {h : Hp} {Q : Option Value → Hp → Prop} : Run 8 30 lo st h Q = Cnt 8 Q (xo_if1 (fun x => decide (¬ x = 0)) 34 33 lo st h) := run_s rfl
theorem rq_X1_removePlace_33 {lo : Lo} {st : List Value} {h : Hp} {Q : Option Value → Hp → Prop} : Run 8 33 lo st h Q = Cnt 8 Q (xo_vret lo st h) := run_s rfl
theorem rq_X1_removePlace_34 {lo : Lo} {st : List Value} {h : Hp} {Q : Option Value → Hp → Prop} : Run 8 34 lo st h Q = Cnt 8 Q (xo_aload 0 35 lo st h) := run_s rfl
theorem rq_X1_removePlace_35 {lo : Lo} {st : List Value} {h : Hp} {Q : Option Value → Hp → Prop} : Run 8 35 lo st h Q = Cnt 8 Q (xo_getf 1 0 38 lo st h) := run_s rfl
theorem rq_X1_removePlace_38 {lo : Lo} {st : List Value} {h : Hp} {Q : Option Value → Hp → Prop} : Run 8 38 lo st h Q = Cnt 8 Q (xo_iload 2 39 lo st h) := run_s rfl
theorem rq_X1_removePlace_39 {lo : Lo} {st : List Value} {h : Hp} {Q : Option Value → Hp → Prop} : Run 8 39 lo st h Q = Cnt 8 Q (xo_dup2 40 lo st h) := run_s rfl
theorem rq_X1_removePlace_40 {lo : Lo} {st : List Value} {h : Hp} {Q : Option Value → Hp → Prop} : Run 8 40 lo st h Q = Cnt 8 Q (xo_iald 41 lo st h) := run_s rfl
theorem rq_X1_removePlace_41 {lo : Lo} {st : List Value} {h : Hp} {Q : Option Value → Hp → Prop} : Run 8 41 lo st h Q = Cnt 8 Q (xo_const (.int 1) 42 lo st h) := run_s rfl
theorem rq_X1_removePlace_42 {lo : Lo} {st : List Value} {h : Hp} {Q : Option Value → Hp → Prop} : Run 8 42 lo st h Q = Cnt 8 Q (xo_iload 1 43 lo st h) := run_s rfl
theorem rq_X1_removePlace_43 {lo : Lo} {st : List Value} {h : Hp} {Q : Option Value → Hp → Prop} : Run 8 43 lo st h Q = Cnt 8 Q (xo_bin (fun x y => x <<< (y &&& 31)) 44 lo st h) := run_s rfl
theorem rq_X1_removePlace_44 {lo : Lo} {st : List Value} {h : Hp} {Q : Option Value → Hp → Prop} : Run 8 44 lo st h Q = Cnt 8 Q (xo_const (.int (-1)) 45 lo st h) := run_s rfl
theorem rq_X1_removePlace_45 {lo : Lo} {st : List Value} {h : Hp} {Q : Option Value → Hp → Prop} : Run 8 45 lo st h Q = Cnt 8 Q (xo_bin (fun x y => x ^^^ y) 46 lo st h) := run_s rfl
theorem rq_X1_removePlace_46 {lo : Lo} {st : List Value} {h : Hp} {Q : Option Value → Hp → Prop} : Run 8 46 lo st h Q = Cnt 8 Q (xo_bin (fun x y => x &&& y) 47 lo st h) := run_s rfl
theorem rq_X1_removePlace_47 {lo : Lo} {st : List Value} {h : Hp} {Q : Option Value → Hp → Prop} : Run 8 47 lo st h Q = Cnt 8 Q (xo_iast 48 lo st h) := run_s rfl
theorem rq_X1_removePlace_48 {lo : Lo} {st : List Value} {h : Hp} {Q : Option Value → Hp → Prop} : Run 8 48 lo st h Q = Cnt 8 Q (xo_aload 0 49 lo st h) := run_s rfl
theorem rq_X1_removePlace_49 {lo : Lo} {st : List Value} {h : Hp} {Q : Option Value → Hp → Prop} : Run 8 49 lo st h Q = Cnt 8 Q (xo_getf 1 2 52 lo st h) := run_s rfl
theorem rq_X1_removePlace_52 {lo : Lo} {st : List Value} {h : Hp} {Q : Option Value → Hp → Prop} : Run 8 52 lo st h Q = Cnt 8 Q (xo_aload 0 53 lo st h) := run_s rfl
theorem rq_X1_removePlace_53 {lo : Lo} {st : List Value} {h : Hp} {Q : Option Value → Hp → Prop} : Run 8 53 lo st h Q = Cnt 8 Q (xo_getf 1 1 56 lo st h) := run_s rfl
theorem rq_X1_removePlace_56 {lo : Lo} {st : List Value} {h : Hp} {Q : Option Value → Hp → Prop} : Run 8 56 lo st h Q = Cnt 8 Q (xo_alen 57 lo st h) := run_s rfl
theorem rq_X1_removePlace_57 {lo : Lo} {st : List Value} {h : Hp} {Q : Option Value → Hp → Prop} : Run 8 57 lo st h Q = Cnt 8 Q (xo_if2 (fun x y => decide (x ≥ y)) 85 60 lo st h) := run_s rfl
theorem rq_X1_removePlace_60 {lo : Lo} {st : List Value} {h : Hp} {Q : Option Value → Hp → Prop} : Run 8 60 lo st h Q = Cnt 8 Q (xo_aload 0 61 lo st h) := run_s rfl
theorem rq_X1_removePlace_61 {lo : Lo} {st : List Value} {h : Hp} {Q : Option Value → Hp → Prop} : Run 8 61 lo st h Q = Cnt 8 Q (xo_getf 1 1 64 lo st h) := run_s rfl
theorem rq_X1_removePlace_64 {lo : Lo} {st : List Value} {h : Hp} {Q : Option Value → Hp → Prop} : Run 8 64 lo st h Q = Cnt 8 Q (xo_aload 0 65 lo st h) := run_s rfl
theorem rq_X1_removePlace_65 {lo : Lo} {st : List Value} {h : Hp} {Q : Option Value → Hp → Prop} : Run 8 65 lo st h Q = Cnt 8 Q (xo_getf 1 2 68 lo st h) := run_s rfl
theorem rq_X1_removePlace_68 {lo : Lo} {st : List Value} {h : Hp} {Q : Option Value → Hp → Prop} : Run 8 68 lo st h Q = Cnt 8 Q (xo_iload 2 69 lo st h) := run_s rfl
theorem rq_X1_removePlace_69 {lo : Lo} {st : List Value} {h : Hp} {Q : Option Value → Hp → Prop} : Run 8 69 lo st h Q = Cnt 8 Q (xo_const (.int 32) 71 lo st h) := run_s rfl
theorem rq_X1_removePlace_71 {lo : Lo} {st : List Value} {h : Hp} {Q : Option Value → Hp → Prop} : Run 8 71 lo st h Q = Cnt 8 Q (xo_bin (fun x y => x * y) 72 lo st h) := run_s rfl
theorem rq_X1_removePlace_72 {lo : Lo} {st : List Value} {h : Hp} {Q : Option Value → Hp → Prop} : Run 8 72 lo st h Q = Cnt 8 Q (xo_iload 1 73 lo st h) := run_s rfl
theorem rq_X1_removePlace_73 {lo : Lo} {st : List Value} {h : Hp} {Q : Option Value → Hp → Prop} : Run 8 73 lo st h Q = Cnt 8 Q (xo_bin (fun x y => x + y) 74 lo st h) := run_s rfl
theorem rq_X1_removePlace_74 {lo : Lo} {st : List Value} {h : Hp} {Q : Option Value → Hp → Prop} : Run 8 74 lo st h Q = Cnt 8 Q (xo_iast 75 lo st h) := run_s rfl
theorem rq_X1_removePlace_75 {lo : Lo} {st : List Value} {h : Hp} {Q : Option Value → Hp → Prop} : Run 8 75 lo st h Q = Cnt 8 Q (xo_aload 0 76 lo st h) := run_s rfl
theorem rq_X1_removePlace_76 {lo : Lo} {st : List Value} {h : Hp} {Q : Option Value → Hp → Prop} : Run 8 76 lo st h Q = Cnt 8 Q (xo_dup 77 lo st h) := run_s rfl
theorem rq_X1_removePlace_77 {lo : Lo} {st : List Value} {h : Hp} {Q : Option Value → Hp → Prop} : Run 8 77 lo st h Q = Cnt 8 Q (xo_getf 1 2 80 lo st h) := run_s rfl
theorem rq_X1_removePlace_80 {lo : Lo} {st : List Value} {h : Hp} {Q : Option Value → Hp → Prop} : Run 8 80 lo st h Q = Cnt 8 Q (xo_const (.int 1) 81 lo st h) := run_s rfl
theorem rq_X1_removePlace_81 {lo : Lo} {st : List Value} {h : Hp} {Q : Option Value → Hp → Prop} : Run 8 81 lo st h Q = Cnt 8 Q (xo_bin (fun x y => x + y) 82 lo st h) := run_s rfl
theorem rq_X1_removePlace_82 {lo : Lo} {st : List Value} {h : Hp} {Q : Option Value → Hp → Prop} : Run 8 82 lo st h Q = Cnt 8 Q (xo_putf 1 2 true 85 lo st h) := run_s rfl
theorem rq_X1_removePlace_85 {lo : Lo} {st : List Value} {h : Hp} {Q : Option Value → Hp → Prop} : Run 8 85 lo st h Q = Cnt 8 Q (xo_vret lo st h) := run_s rfl
theorem rq_X2_init_0 {lo : Lo} {st : List Value} {h : Hp} {Q : Option Value → Hp → Prop} : Run 9 0 lo st h Q = Cnt 9 Q (xo_aload 0 1 lo st h) := run_s rfl
theorem rq_X2_init_1 {lo : Lo} {st : List Value} {h : Hp} {Q : Option Value → Hp → Prop} : Run 9 1 lo st h Q = Cnt 9 Q (xo_oinit 4 lo st h) := run_s rfl
theorem rq_X2_init_4 {lo : Lo} {st : List Value} {h : Hp} {Q : Option Value → Hp → Prop} : Run 9 4 lo st h Q = Cnt 9 Q (xo_aload 0 5 lo st h) := run_s rfl
theorem rq_X2_init_5 {lo : Lo} {st : List Value} {h : Hp} {Q : Option Value → Hp → Prop} : Run 9 5 lo st h Q = Cnt 9 Q (xo_const (.int 64) 7 lo st h) := run_s rfl
theorem rq_X2_init_7 {lo : Lo} {st : List Value} {h : Hp} {Q : Option Value → Hp → Prop} : Run 9 7 lo st h Q = Cnt 9 Q (xo_newi 0 9 lo st h) := run_s rfl
theorem rq_X2_init_9 {lo : Lo} {st : List Value} {h : Hp} {Q : Option Value → Hp → Prop} : Run 9 9 lo st h Q = Cnt 9 Q (xo_putf 2 0 false 12 lo st h) := run_s rfl
theorem rq_X2_init_12 {lo : Lo} {st : List Value} {h : Hp} {Q : Option Value → Hp → Prop} : Run 9 12 lo st h Q = Cnt 9 Q (xo_aload 0 13 lo st h) := run_s rfl
theorem rq_X2_init_13 {lo : Lo} {st : List Value} {h : Hp} {Q : Option Value → Hp → Prop} : Run 9 13 lo st h Q = Cnt 9 Q (xo_const (.int (-9)) 15 lo st h) := run_s rfl
theorem rq_X2_init_15 {lo : Lo} {st : List Value} {h : Hp} {Q : Option Value → Hp → Prop} : Run 9 15 lo st h Q = Cnt 9 Q (xo_putf 2 1 true 18 lo st h) := run_s rfl
theorem rq_X2_init_18 {lo : Lo} {st : List Value} {h : Hp} {Q : Option Value → Hp → Prop} : Run 9 18 lo st h Q = Cnt 9 Q (xo_vret lo st h) := run_s rfl
theorem rq_X2_open_0 {lo : Lo} {st : List Value} {h : Hp} {Q : Option Value → Hp → Prop} : Run 10 0 lo st h Q = Cnt 10 Q (xo_aload 0 1 lo st h) := run_s rfl
theorem rq_X2_open_1 {lo : Lo} {st : List Value} {h : Hp} {Q : Option Value → Hp → Prop} : Run 10 1 lo st h Q = Cnt 10 Q (xo_getf 2 0 4 lo st h) := run_s rfl
theorem rq_X2_open_4 {lo : Lo} {st : List Value} {h : Hp} {Q : Option Value → Hp → Prop} : Run 10 4 lo st h Q = Cnt 10 Q (xo_const (.int 0) 5 lo st h) := run_s rfl
theorem rq_X2_open_5 {lo : Lo} {st : List Value} {h : Hp} {Q : Option Value → Hp → Prop} : Run 10 5 lo st h Q = CCall 194 2 none st h (Knt 10 8 lo (st.drop 2) Q) := run_c rfl
theorem rq_X2_open_8 {lo : Lo} {st : List Value} {h : Hp} {Q : Option Value → Hp → Prop} : Run 10 8 lo st h Q = Cnt 10 Q (xo_aload 0 9 lo st h) := run_s rfl
theorem rq_X2_open_9 {lo : Lo} {st : List Value} {h : Hp} {Q : Option Value → Hp → Prop} : Run 10 9 lo st h Q = Cnt 10 Q (xo_iload 1 10 lo st h) := run_s rfl
theorem rq_X2_open_10 {lo : Lo} {st : List Value} {h : Hp} {Q : Option Value → Hp → Prop} : Run 10 10 lo st h Q = Cnt 10 Q (xo_putf 2 1 true 13 lo st h) := run_s rfl
theorem rq_X2_open_13 {lo : Lo} {st : List Value} {h : Hp} {Q : Option Value → Hp → Prop} : Run 10 13 lo st h Q = Cnt 10 Q (xo_vret lo st h) := run_s rfl
theorem rq_X2_close_0 {lo : Lo} {st : List Value} {h : Hp} {Q : Option Value → Hp → Prop} : Run 11 0 lo st h Q = Cnt 11 Q (xo_aload 0 1 lo st h) := run_s rfl
theorem rq_X2_close_1 {lo : Lo} {st : List Value} {h : Hp} {Q : Option Value → Hp → Prop} : Run 11 1 lo st h Q = Cnt 11 Q (xo_const (.int (-9)) 3 lo st h) := run_s rfl
theorem rq_X2_close_3 {lo : Lo} {st : List Value} {h : Hp} {Q : Option Value → Hp → Prop} : Run 11 3 lo st h Q = Cnt 11 Q (xo_putf 2 1 true 6 lo st h) := run_s rfl
theorem rq_X2_close_6 {lo : Lo} {st : List Value} {h : Hp} {Q : Option Value → Hp → Prop} : Run 11 6 lo st h Q = Cnt 11 Q (xo_vret lo st h) := run_s rfl
theorem rq_X2_faultAt_0 {lo : Lo} {st : List Value} {h : Hp} {Q : Option Value → Hp → Prop} : Run 12 0 lo st h Q = Cnt 12 Q (xo_aload 0 1 lo st h) := run_s rfl
theorem rq_X2_faultAt_1 {lo : Lo} {st : List Value} {h : Hp} {Q : Option Value → Hp → Prop} : Run 12 1 lo st h Q = Cnt 12 Q (xo_getf 2 1 4 lo st h) := run_s rfl
theorem rq_X2_faultAt_4 {lo : Lo} {st : List Value} {h : Hp} {Q : Option Value → Hp → Prop} : Run 12 4 lo st h Q = Cnt 12 Q (xo_const (.int (-9)) 6 lo st h) := run_s rfl
theorem rq_X2_faultAt_6 {lo : Lo} {st : List Value} {h : Hp} {Q : Option Value → Hp → Prop} : Run 12 6 lo st h Q = Cnt 12 Q (xo_if2 (fun x y => decide (¬ x = y)) 12 9 lo st h) := run_s rfl
theorem rq_X2_faultAt_9 {lo : Lo} {st : List Value} {h : Hp} {Q : Option Value → Hp → Prop} : Run 12 9 lo st h Q = Cnt 12 Q (xo_const (.int (-11)) 11 lo st h) := run_s rfl
theorem rq_X2_faultAt_11 {lo : Lo} {st : List Value} {h : Hp} {Q : Option Value → Hp → Prop} : Run 12 11 lo st h Q = Cnt 12 Q (xo_iret lo st h) := run_s rfl
theorem rq_X2_faultAt_12 {lo : Lo} {st : List Value} {h : Hp} {Q : Option Value → Hp → Prop} : Run 12 12 lo st h Q = Cnt 12 Q (xo_iload 1 13 lo st h) := run_s rfl
theorem rq_X2_faultAt_13 {lo : Lo} {st : List Value} {h : Hp} {Q : Option Value → Hp → Prop} : Run 12 13 lo st h Q = Cnt 12 Q (xo_const (.int 0) 14 lo st h) := run_s rfl
theorem rq_X2_faultAt_14 {lo : Lo} {st : List Value} {h : Hp} {Q : Option Value → Hp → Prop} : Run 12 14 lo st h Q = Cnt 12 Q (xo_aload 0 15 lo st h) := run_s rfl
theorem rq_X2_faultAt_15 {lo : Lo} {st : List Value} {h : Hp} {Q : Option Value → Hp → Prop} : Run 12 15 lo st h Q = Cnt 12 Q (xo_getf 2 1 18 lo st h) := run_s rfl
theorem rq_X2_faultAt_18 {lo : Lo} {st : List Value} {h : Hp} {Q : Option Value → Hp → Prop} : Run 12 18 lo st h Q = Cnt 12 Q (xo_const (.int 1) 19 lo st h) := run_s rfl
theorem rq_X2_faultAt_19 {lo : Lo} {st : List Value} {h : Hp} {Q : Option Value → Hp → Prop} : Run 12 19 lo st h Q = Cnt 12 Q (xo_bin (fun x y => x - y) 20 lo st h) := run_s rfl
theorem rq_X2_faultAt_20 {lo : Lo} {st : List Value} {h : Hp} {Q : Option Value → Hp → Prop} : Run 12 20 lo st h Q = CCall 98 3 none st h (Knt 12 23 lo (st.drop 3) Q) := run_c rfl
theorem rq_X2_faultAt_23 {lo : Lo} {st : List Value} {h : Hp} {Q : Option Value → Hp → Prop} : Run 12 23 lo st h Q = Cnt 12 Q (xo_if1 (fun x => decide (x = 0)) 30 26 lo st h) := run_s rfl
theorem rq_X2_faultAt_26 {lo : Lo} {st : List Value} {h : Hp} {Q : Option Value → Hp → Prop} : Run 12 26 lo st h Q = Cnt 12 Q (xo_const (.int 0) 27 lo st h) := run_s rfl
theorem rq_X2_faultAt_27 {lo : Lo} {st : List Value} {h : Hp} {Q : Option Value → Hp → Prop} : Run 12 27 lo st h Q = Cnt 12 Q (xo_goto 32 lo st h) := run_s rfl
theorem rq_X2_faultAt_30 {lo : Lo} {st : List Value} {h : Hp} {Q : Option Value → Hp → Prop} : Run 12 30 lo st h Q = Cnt 12 Q (xo_const (.int (-13)) 32 lo st h) := run_s rfl
theorem rq_X2_faultAt_32 {lo : Lo} {st : List Value} {h : Hp} {Q : Option Value → Hp → Prop} : Run 12 32 lo st h Q = Cnt 12 Q (xo_iret lo st h) := run_s rfl
theorem rq_X3_init_0 {lo : Lo} {st : List Value} {h : Hp} {Q : Option Value → Hp → Prop} : Run 13 0 lo st h Q = Cnt 13 Q (xo_aload 0 1 lo st h) := run_s rfl
theorem rq_X3_init_1 {lo : Lo} {st : List Value} {h : Hp} {Q : Option Value → Hp → Prop} : Run 13 1 lo st h Q = Cnt 13 Q (xo_oinit 4 lo st h) := run_s rfl
theorem rq_X3_init_4 {lo : Lo} {st : List Value} {h : Hp} {Q : Option Value → Hp → Prop} : Run 13 4 lo st h Q = Cnt 13 Q (xo_aload 0 5 lo st h) := run_s rfl
theorem rq_X3_init_5 {lo : Lo} {st : List Value} {h : Hp} {Q : Option Value → Hp → Prop} : Run 13 5 lo st h Q = Cnt 13 Q (xo_const (.int 66) 7 lo st h) := run_s rfl
theorem rq_X3_init_7 {lo : Lo} {st : List Value} {h : Hp} {Q : Option Value → Hp → Prop} : Run 13 7 lo st h Q = Cnt 13 Q (xo_newi 0 9 lo st h) := run_s rfl
theorem rq_X3_init_9 {lo : Lo} {st : List Value} {h : Hp} {Q : Option Value → Hp → Prop} : Run 13 9 lo st h Q = Cnt 13 Q (xo_putf 3 0 false 12 lo st h) := run_s rfl
theorem rq_X3_init_12 {lo : Lo} {st : List Value} {h : Hp} {Q : Option Value → Hp → Prop} : Run 13 12 lo st h Q = Cnt 13 Q (xo_aload 0 13 lo st h) := run_s rfl
theorem rq_X3_init_13 {lo : Lo} {st : List Value} {h : Hp} {Q : Option Value → Hp → Prop} : Run 13 13 lo st h Q = Cnt 13 Q (xo_const (.int 0) 14 lo st h) := run_s rfl
theorem rq_X3_init_14 {lo : Lo} {st : List Value} {h : Hp} {Q : Option Value → Hp → Prop} : Run 13 14 lo st h Q = Cnt 13 Q (xo_putf 3 1 true 17 lo st h) := run_s rfl
theorem rq_X3_init_17 {lo : Lo} {st : List Value} {h : Hp} {Q : Option Value → Hp → Prop} : Run 13 17 lo st h Q = Cnt 13 Q (xo_vret lo st h) := run_s rfl
theorem rq_X3_lengthOf_0 {lo : Lo} {st : List Value} {h : Hp} {Q : Option Value → Hp → Prop} : Run 14 0 lo st h Q = Cnt 14 Q (xo_const (.int 0) 1 lo st h) := run_s rfl
theorem rq_X3_lengthOf_1 {lo : Lo} {st : List Value} {h : Hp} {Q : Option Value → Hp → Prop} : Run 14 1 lo st h Q = Cnt 14 Q (xo_istore 1 2 lo st h) := run_s rfl
theorem rq_X3_lengthOf_2 {lo : Lo} {st : List Value} {h : Hp} {Q : Option Value → Hp → Prop} : Run 14 2 lo st h Q = Cnt 14 Q (xo_const (.int 0) 3 lo st h) := run_s rfl
theorem rq_X3_lengthOf_3 {lo : Lo} {st : List Value} {h : Hp} {Q : Option Value → Hp → Prop} : Run 14 3 lo st h Q = Cnt 14 Q (xo_istore 2 4 lo st h) := run_s rfl
theorem rq_X3_lengthOf_4 {lo : Lo} {st : List Value} {h : Hp} {Q : Option Value → Hp → Prop} : Run 14 4 lo st h Q = Cnt 14 Q (xo_iload 2 5 lo st h) := run_s rfl
theorem rq_X3_lengthOf_5 {lo : Lo} {st : List Value} {h : Hp} {Q : Option Value → Hp → Prop} : Run 14 5 lo st h Q = Cnt 14 Q (xo_const (.int 8) 7 lo st h) := run_s rfl
theorem rq_X3_lengthOf_7 {lo : Lo} {st : List Value} {h : Hp} {Q : Option Value → Hp → Prop} : Run 14 7 lo st h Q = Cnt 14 Q (xo_if2 (fun x y => decide (x ≥ y)) 29 10 lo st h) := run_s rfl
theorem rq_X3_lengthOf_10 {lo : Lo} {st : List Value} {h : Hp} {Q : Option Value → Hp → Prop} : Run 14 10 lo st h Q = Cnt 14 Q (xo_iload 0 11 lo st h) := run_s rfl
theorem rq_X3_lengthOf_11 {lo : Lo} {st : List Value} {h : Hp} {Q : Option Value → Hp → Prop} : Run 14 11 lo st h Q = Cnt 14 Q (xo_const (.int 2) 12 lo st h) := run_s rfl
theorem rq_X3_lengthOf_12 {lo : Lo} {st : List Value} {h : Hp} {Q : Option Value → Hp → Prop} : Run 14 12 lo st h Q = Cnt 14 Q (xo_iload 2 13 lo st h) := run_s rfl
theorem rq_X3_lengthOf_13 {lo : Lo} {st : List Value} {h : Hp} {Q : Option Value → Hp → Prop} : Run 14 13 lo st h Q = Cnt 14 Q (xo_bin (fun x y => x * y) 14 lo st h) := run_s rfl
theorem rq_X3_lengthOf_14 {lo : Lo} {st : List Value} {h : Hp} {Q : Option Value → Hp → Prop} : Run 14 14 lo st h Q = Cnt 14 Q (xo_bin (fun x y => (x.toUInt32 >>> (y.toUInt32 &&& Int32.toUInt32 31)).toInt32) 15 lo st h) := run_s rfl
theorem rq_X3_lengthOf_15 {lo : Lo} {st : List Value} {h : Hp} {Q : Option Value → Hp → Prop} : Run 14 15 lo st h Q = Cnt 14 Q (xo_const (.int 3) 16 lo st h) := run_s rfl
theorem rq_X3_lengthOf_16 {lo : Lo} {st : List Value} {h : Hp} {Q : Option Value → Hp → Prop} : Run 14 16 lo st h Q = Cnt 14 Q (xo_bin (fun x y => x &&& y) 17 lo st h) := run_s rfl
theorem rq_X3_lengthOf_17 {lo : Lo} {st : List Value} {h : Hp} {Q : Option Value → Hp → Prop} : Run 14 17 lo st h Q = Cnt 14 Q (xo_if1 (fun x => decide (x = 0)) 23 20 lo st h) := run_s rfl
theorem rq_X3_lengthOf_20 {lo : Lo} {st : List Value} {h : Hp} {Q : Option Value → Hp → Prop} : Run 14 20 lo st h Q = Cnt 14 Q (xo_iinc 1 1 23 lo st h) := run_s rfl
theorem rq_X3_lengthOf_23 {lo : Lo} {st : List Value} {h : Hp} {Q : Option Value → Hp → Prop} : Run 14 23 lo st h Q = Cnt 14 Q (xo_iinc 2 1 26 lo st h) := run_s rfl
theorem rq_X3_lengthOf_26 {lo : Lo} {st : List Value} {h : Hp} {Q : Option Value → Hp → Prop} : Run 14 26 lo st h Q = Cnt 14 Q (xo_goto 4 lo st h) := run_s rfl
theorem rq_X3_lengthOf_29 {lo : Lo} {st : List Value} {h : Hp} {Q : Option Value → Hp → Prop} : Run 14 29 lo st h Q = Cnt 14 Q (xo_iload 1 30 lo st h) := run_s rfl
theorem rq_X3_lengthOf_30 {lo : Lo} {st : List Value} {h : Hp} {Q : Option Value → Hp → Prop} : Run 14 30 lo st h Q = Cnt 14 Q (xo_iret lo st h) := run_s rfl
theorem rq_X3_clear_0 {lo : Lo} {st : List Value} {h : Hp} {Q : Option Value → Hp → Prop} : Run 15 0 lo st h Q = Cnt 15 Q (xo_aload 0 1 lo st h) := run_s rfl
theorem rq_X3_clear_1 {lo : Lo} {st : List Value} {h : Hp} {Q : Option Value → Hp → Prop} : Run 15 1 lo st h Q = Cnt 15 Q (xo_const (.int 0) 2 lo st h) := run_s rfl
theorem rq_X3_clear_2 {lo : Lo} {st : List Value} {h : Hp} {Q : Option Value → Hp → Prop} : Run 15 2 lo st h Q = Cnt 15 Q (xo_putf 3 1 true 5 lo st h) := run_s rfl
theorem rq_X3_clear_5 {lo : Lo} {st : List Value} {h : Hp} {Q : Option Value → Hp → Prop} : Run 15 5 lo st h Q = Cnt 15 Q (xo_vret lo st h) := run_s rfl
theorem rq_X3_addAll_0 {lo : Lo} {st : List Value} {h : Hp} {Q : Option Value → Hp → Prop} : Run 16 0 lo st h Q = Cnt 16 Q (xo_aload 1 1 lo st h) := run_s rfl
theorem rq_X3_addAll_1 {lo : Lo} {st : List Value} {h : Hp} {Q : Option Value → Hp → Prop} : Run 16 1 lo st h Q = Cnt 16 Q (xo_getf 6 0 4 lo st h) := run_s rfl
theorem rq_X3_addAll_4 {lo : Lo} {st : List Value} {h : Hp} {Q : Option Value → Hp → Prop} : Run 16 4 lo st h Q = Cnt 16 Q (xo_astore 3 5 lo st h) := run_s rfl
theorem rq_X3_addAll_5 {lo : Lo} {st : List Value} {h : Hp} {Q : Option Value → Hp → Prop} : Run 16 5 lo st h Q = Cnt 16 Q (xo_aload 3 6 lo st h) := run_s rfl
theorem rq_X3_addAll_6 {lo : Lo} {st : List Value} {h : Hp} {Q : Option Value → Hp → Prop} : Run 16 6 lo st h Q = Cnt 16 Q (xo_alen 7 lo st h) := run_s rfl
theorem rq_X3_addAll_7 {lo : Lo} {st : List Value} {h : Hp} {Q : Option Value → Hp → Prop} : Run 16 7 lo st h Q = Cnt 16 Q (xo_istore 4 9 lo st h) := run_s rfl
theorem rq_X3_addAll_9 {lo : Lo} {st : List Value} {h : Hp} {Q : Option Value → Hp → Prop} : Run 16 9 lo st h Q = Cnt 16 Q (xo_const (.int 0) 10 lo st h) := run_s rfl
theorem rq_X3_addAll_10 {lo : Lo} {st : List Value} {h : Hp} {Q : Option Value → Hp → Prop} : Run 16 10 lo st h Q = Cnt 16 Q (xo_istore 5 12 lo st h) := run_s rfl
theorem rq_X3_addAll_12 {lo : Lo} {st : List Value} {h : Hp} {Q : Option Value → Hp → Prop} : Run 16 12 lo st h Q = Cnt 16 Q (xo_iload 5 14 lo st h) := run_s rfl
theorem rq_X3_addAll_14 {lo : Lo} {st : List Value} {h : Hp} {Q : Option Value → Hp → Prop} : Run 16 14 lo st h Q = Cnt 16 Q (xo_iload 4 16 lo st h) := run_s rfl
theorem rq_X3_addAll_16 {lo : Lo} {st : List Value} {h : Hp} {Q : Option Value → Hp → Prop} : Run 16 16 lo st h Q = Cnt 16 Q (xo_if2 (fun x y => decide (x ≥ y)) 46 19 lo st h) := run_s rfl
theorem rq_X3_addAll_19 {lo : Lo} {st : List Value} {h : Hp} {Q : Option Value → Hp → Prop} : Run 16 19 lo st h Q = Cnt 16 Q (xo_aload 3 20 lo st h) := run_s rfl
theorem rq_X3_addAll_20 {lo : Lo} {st : List Value} {h : Hp} {Q : Option Value → Hp → Prop} : Run 16 20 lo st h Q = Cnt 16 Q (xo_iload 5 22 lo st h) := run_s rfl
theorem rq_X3_addAll_22 {lo : Lo} {st : List Value} {h : Hp} {Q : Option Value → Hp → Prop} : Run 16 22 lo st h Q = Cnt 16 Q (xo_aald 23 lo st h) := run_s rfl
theorem rq_X3_addAll_23 {lo : Lo} {st : List Value} {h : Hp} {Q : Option Value → Hp → Prop} : Run 16 23 lo st h Q = Cnt 16 Q (xo_astore 6 25 lo st h) := run_s rfl
theorem rq_X3_addAll_25 {lo : Lo} {st : List Value} {h : Hp} {Q : Option Value → Hp → Prop} : Run 16 25 lo st h Q = Cnt 16 Q (xo_aload 6 27 lo st h) := run_s rfl
theorem rq_X3_addAll_27 {lo : Lo} {st : List Value} {h : Hp} {Q : Option Value → Hp → Prop} : Run 16 27 lo st h Q = Cnt 16 Q (xo_null 40 30 lo st h) := run_s rfl
theorem rq_X3_addAll_30 {lo : Lo} {st : List Value} {h : Hp} {Q : Option Value → Hp → Prop} : Run 16 30 lo st h Q = Cnt 16 Q (xo_aload 0 31 lo st h) := run_s rfl
theorem rq_X3_addAll_31 {lo : Lo} {st : List Value} {h : Hp} {Q : Option Value → Hp → Prop} : Run 16 31 lo st h Q = Cnt 16 Q (xo_aload 6 33 lo st h) := run_s rfl
theorem rq_X3_addAll_33 {lo : Lo} {st : List Value} {h : Hp} {Q : Option Value → Hp → Prop} : Run 16 33 lo st h Q = Cnt 16 Q (xo_iload 2 34 lo st h) := run_s rfl
theorem rq_X3_addAll_34 {lo : Lo} {st : List Value} {h : Hp} {Q : Option Value → Hp → Prop} : Run 16 34 lo st h Q = CCall 56 2 (some 8) st h (Knt 16 37 lo (st.drop 2) Q) := run_c rfl
theorem rq_X3_addAll_37 {lo : Lo} {st : List Value} {h : Hp} {Q : Option Value → Hp → Prop} : Run 16 37 lo st h Q = CCall 17 2 (some 3) st h (Knt 16 40 lo (st.drop 2) Q) := run_c rfl
theorem rq_X3_addAll_40 {lo : Lo} {st : List Value} {h : Hp} {Q : Option Value → Hp → Prop} : Run 16 40 lo st h Q = Cnt 16 Q (xo_iinc 5 1 43 lo st h) := run_s rfl
theorem rq_X3_addAll_43 {lo : Lo} {st : List Value} {h : Hp} {Q : Option Value → Hp → Prop} : Run 16 43 lo st h Q = Cnt 16 Q (xo_goto 12 lo st h) := run_s rfl
theorem rq_X3_addAll_46 {lo : Lo} {st : List Value} {h : Hp} {Q : Option Value → Hp → Prop} : Run 16 46 lo st h Q = Cnt 16 Q (xo_vret lo st h) := run_s rfl
theorem rq_X3_add_0 {lo : Lo} {st : List Value} {h : Hp} {Q : Option Value → Hp → Prop} : Run 17 0 lo st h Q = Cnt 17 Q (xo_aload 0 1 lo st h) := run_s rfl
theorem rq_X3_add_1 {lo : Lo} {st : List Value} {h : Hp} {Q : Option Value → Hp → Prop} : Run 17 1 lo st h Q = Cnt 17 Q (xo_iload 1 2 lo st h) := run_s rfl
theorem rq_X3_add_2 {lo : Lo} {st : List Value} {h : Hp} {Q : Option Value → Hp → Prop} : Run 17 2 lo st h Q = CCall 18 2 (some 3) st h (Knt 17 5 lo (st.drop 2) Q) := run_c rfl
theorem rq_X3_add_5 {lo : Lo} {st : List Value} {h : Hp} {Q : Option Value → Hp → Prop} : Run 17 5 lo st h Q = Cnt 17 Q (xo_if1 (fun x => decide (¬ x = 0)) 40 8 lo st h) := run_s rfl
theorem rq_X3_add_8 {lo : Lo} {st : List Value} {h : Hp} {Q : Option Value → Hp → Prop} : Run 17 8 lo st h Q = Cnt 17 Q (xo_aload 0 9 lo st h) := run_s rfl
theorem rq_X3_add_9 {lo : Lo} {st : List Value} {h : Hp} {Q : Option Value → Hp → Prop} : Run 17 9 lo st h Q = Cnt 17 Q (xo_getf 3 1 12 lo st h) := run_s rfl
theorem rq_X3_add_12 {lo : Lo} {st : List Value} {h : Hp} {Q : Option Value → Hp → Prop} : Run 17 12 lo st h Q = Cnt 17 Q (xo_aload 0 13 lo st h) := run_s rfl
theorem rq_X3_add_13 {lo : Lo} {st : List Value} {h : Hp} {Q : Option Value → Hp → Prop} : Run 17 13 lo st h Q = Cnt 17 Q (xo_getf 3 0 16 lo st h) := run_s rfl
theorem rq_X3_add_16 {lo : Lo} {st : List Value} {h : Hp} {Q : Option Value → Hp → Prop} : Run 17 16 lo st h Q = Cnt 17 Q (xo_alen 17 lo st h) := run_s rfl
theorem rq_X3_add_17 {lo : Lo} {st : List Value} {h : Hp} {Q : Option Value → Hp → Prop} : Run 17 17 lo st h Q = Cnt 17 Q (xo_if2 (fun x y => decide (x ≥ y)) 40 20 lo st h) := run_s rfl
theorem rq_X3_add_20 {lo : Lo} {st : List Value} {h : Hp} {Q : Option Value → Hp → Prop} : Run 17 20 lo st h Q = Cnt 17 Q (xo_aload 0 21 lo st h) := run_s rfl
theorem rq_X3_add_21 {lo : Lo} {st : List Value} {h : Hp} {Q : Option Value → Hp → Prop} : Run 17 21 lo st h Q = Cnt 17 Q (xo_getf 3 0 24 lo st h) := run_s rfl
theorem rq_X3_add_24 {lo : Lo} {st : List Value} {h : Hp} {Q : Option Value → Hp → Prop} : Run 17 24 lo st h Q = Cnt 17 Q (xo_aload 0 25 lo st h) := run_s rfl
theorem rq_X3_add_25 {lo : Lo} {st : List Value} {h : Hp} {Q : Option Value → Hp → Prop} : Run 17 25 lo st h Q = Cnt 17 Q (xo_getf 3 1 28 lo st h) := run_s rfl
theorem rq_X3_add_28 {lo : Lo} {st : List Value} {h : Hp} {Q : Option Value → Hp → Prop} : Run 17 28 lo st h Q = Cnt 17 Q (xo_iload 1 29 lo st h) := run_s rfl
theorem rq_X3_add_29 {lo : Lo} {st : List Value} {h : Hp} {Q : Option Value → Hp → Prop} : Run 17 29 lo st h Q = Cnt 17 Q (xo_iast 30 lo st h) := run_s rfl
theorem rq_X3_add_30 {lo : Lo} {st : List Value} {h : Hp} {Q : Option Value → Hp → Prop} : Run 17 30 lo st h Q = Cnt 17 Q (xo_aload 0 31 lo st h) := run_s rfl
theorem rq_X3_add_31 {lo : Lo} {st : List Value} {h : Hp} {Q : Option Value → Hp → Prop} : Run 17 31 lo st h Q = Cnt 17 Q (xo_dup 32 lo st h) := run_s rfl
theorem rq_X3_add_32 {lo : Lo} {st : List Value} {h : Hp} {Q : Option Value → Hp → Prop} : Run 17 32 lo st h Q = Cnt 17 Q (xo_getf 3 1 35 lo st h) := run_s rfl
theorem rq_X3_add_35 {lo : Lo} {st : List Value} {h : Hp} {Q : Option Value → Hp → Prop} : Run 17 35 lo st h Q = Cnt 17 Q (xo_const (.int 1) 36 lo st h) := run_s rfl
theorem rq_X3_add_36 {lo : Lo} {st : List Value} {h : Hp} {Q : Option Value → Hp → Prop} : Run 17 36 lo st h Q = Cnt 17 Q (xo_bin (fun x y => x + y) 37 lo st h) := run_s rfl
theorem rq_X3_add_37 {lo : Lo} {st : List Value} {h : Hp} {Q : Option Value → Hp → Prop} : Run 17 37 lo st h Q = Cnt 17 Q (xo_putf 3 1 true 40 lo st h) := run_s rfl
theorem rq_X3_add_40 {lo : Lo} {st : List Value} {h : Hp} {Q : Option Value → Hp → Prop} : Run 17 40 lo st h Q = Cnt 17 Q (xo_vret lo st h) := run_s rfl
theorem rq_X3_has_0 {lo : Lo} {st : List Value} {h : Hp} {Q : Option Value → Hp → Prop} : Run 18 0 lo st h Q = Cnt 18 Q (xo_const (.int 0) 1 lo st h) := run_s rfl
theorem rq_X3_has_1 {lo : Lo} {st : List Value} {h : Hp} {Q : Option Value → Hp → Prop} : Run 18 1 lo st h Q = Cnt 18 Q (xo_istore 2 2 lo st h) := run_s rfl
theorem rq_X3_has_2 {lo : Lo} {st : List Value} {h : Hp} {Q : Option Value → Hp → Prop} : Run 18 2 lo st h Q = Cnt 18 Q (xo_iload 2 3 lo st h) := run_s rfl
theorem rq_X3_has_3 {lo : Lo} {st : List Value} {h : Hp} {Q : Option Value → Hp → Prop} : Run 18 3 lo st h Q = Cnt 18 Q (xo_aload 0 4 lo st h) := run_s rfl
theorem rq_X3_has_4 {lo : Lo} {st : List Value} {h : Hp} {Q : Option Value → Hp → Prop} : Run 18 4 lo st h Q = Cnt 18 Q (xo_getf 3 1 7 lo st h) := run_s rfl
theorem rq_X3_has_7 {lo : Lo} {st : List Value} {h : Hp} {Q : Option Value → Hp → Prop} : Run 18 7 lo st h Q = Cnt 18 Q (xo_if2 (fun x y => decide (x ≥ y)) 28 10 lo st h) := run_s rfl
theorem rq_X3_has_10 {lo : Lo} {st : List Value} {h : Hp} {Q : Option Value → Hp → Prop} : Run 18 10 lo st h Q = Cnt 18 Q (xo_aload 0 11 lo st h) := run_s rfl
theorem rq_X3_has_11 {lo : Lo} {st : List Value} {h : Hp} {Q : Option Value → Hp → Prop} : Run 18 11 lo st h Q = Cnt 18 Q (xo_getf 3 0 14 lo st h) := run_s rfl
theorem rq_X3_has_14 {lo : Lo} {st : List Value} {h : Hp} {Q : Option Value → Hp → Prop} : Run 18 14 lo st h Q = Cnt 18 Q (xo_iload 2 15 lo st h) := run_s rfl
theorem rq_X3_has_15 {lo : Lo} {st : List Value} {h : Hp} {Q : Option Value → Hp → Prop} : Run 18 15 lo st h Q = Cnt 18 Q (xo_iald 16 lo st h) := run_s rfl
theorem rq_X3_has_16 {lo : Lo} {st : List Value} {h : Hp} {Q : Option Value → Hp → Prop} : Run 18 16 lo st h Q = Cnt 18 Q (xo_iload 1 17 lo st h) := run_s rfl
theorem rq_X3_has_17 {lo : Lo} {st : List Value} {h : Hp} {Q : Option Value → Hp → Prop} : Run 18 17 lo st h Q = Cnt 18 Q (xo_if2 (fun x y => decide (¬ x = y)) 22 20 lo st h) := run_s rfl
theorem rq_X3_has_20 {lo : Lo} {st : List Value} {h : Hp} {Q : Option Value → Hp → Prop} : Run 18 20 lo st h Q = Cnt 18 Q (xo_const (.int 1) 21 lo st h) := run_s rfl
theorem rq_X3_has_21 {lo : Lo} {st : List Value} {h : Hp} {Q : Option Value → Hp → Prop} : Run 18 21 lo st h Q = Cnt 18 Q (xo_zret lo st h) := run_s rfl
theorem rq_X3_has_22 {lo : Lo} {st : List Value} {h : Hp} {Q : Option Value → Hp → Prop} : Run 18 22 lo st h Q = Cnt 18 Q (xo_iinc 2 1 25 lo st h) := run_s rfl
theorem rq_X3_has_25 {lo : Lo} {st : List Value} {h : Hp} {Q : Option Value → Hp → Prop} : Run 18 25 lo st h Q = Cnt 18 Q (xo_goto 2 lo st h) := run_s rfl
theorem rq_X3_has_28 {lo : Lo} {st : List Value} {h : Hp} {Q : Option Value → Hp → Prop} : Run 18 28 lo st h Q = Cnt 18 Q (xo_const (.int 0) 29 lo st h) := run_s rfl
theorem rq_X3_has_29 {lo : Lo} {st : List Value} {h : Hp} {Q : Option Value → Hp → Prop} : Run 18 29 lo st h Q = Cnt 18 Q (xo_zret lo st h) := run_s rfl
theorem rq_X3_countAhead_0 {lo : Lo} {st : List Value} {h : Hp} {Q : Option Value → Hp → Prop} : Run 19 0 lo st h Q = Cnt 19 Q (xo_const (.int 0) 1 lo st h) := run_s rfl
theorem rq_X3_countAhead_1 {lo : Lo} {st : List Value} {h : Hp} {Q : Option Value → Hp → Prop} : Run 19 1 lo st h Q = Cnt 19 Q (xo_istore 2 2 lo st h) := run_s rfl
theorem rq_X3_countAhead_2 {lo : Lo} {st : List Value} {h : Hp} {Q : Option Value → Hp → Prop} : Run 19 2 lo st h Q = Cnt 19 Q (xo_const (.int 0) 3 lo st h) := run_s rfl
theorem rq_X3_countAhead_3 {lo : Lo} {st : List Value} {h : Hp} {Q : Option Value → Hp → Prop} : Run 19 3 lo st h Q = Cnt 19 Q (xo_istore 3 4 lo st h) := run_s rfl
theorem rq_X3_countAhead_4 {lo : Lo} {st : List Value} {h : Hp} {Q : Option Value → Hp → Prop} : Run 19 4 lo st h Q = Cnt 19 Q (xo_iload 3 5 lo st h) := run_s rfl
theorem rq_X3_countAhead_5 {lo : Lo} {st : List Value} {h : Hp} {Q : Option Value → Hp → Prop} : Run 19 5 lo st h Q = Cnt 19 Q (xo_aload 0 6 lo st h) := run_s rfl
theorem rq_X3_countAhead_6 {lo : Lo} {st : List Value} {h : Hp} {Q : Option Value → Hp → Prop} : Run 19 6 lo st h Q = Cnt 19 Q (xo_getf 3 1 9 lo st h) := run_s rfl
theorem rq_X3_countAhead_9 {lo : Lo} {st : List Value} {h : Hp} {Q : Option Value → Hp → Prop} : Run 19 9 lo st h Q = Cnt 19 Q (xo_if2 (fun x y => decide (x ≥ y)) 31 12 lo st h) := run_s rfl
theorem rq_X3_countAhead_12 {lo : Lo} {st : List Value} {h : Hp} {Q : Option Value → Hp → Prop} : Run 19 12 lo st h Q = Cnt 19 Q (xo_aload 0 13 lo st h) := run_s rfl
theorem rq_X3_countAhead_13 {lo : Lo} {st : List Value} {h : Hp} {Q : Option Value → Hp → Prop} : Run 19 13 lo st h Q = Cnt 19 Q (xo_getf 3 0 16 lo st h) := run_s rfl
theorem rq_X3_countAhead_16 {lo : Lo} {st : List Value} {h : Hp} {Q : Option Value → Hp → Prop} : Run 19 16 lo st h Q = Cnt 19 Q (xo_iload 3 17 lo st h) := run_s rfl
theorem rq_X3_countAhead_17 {lo : Lo} {st : List Value} {h : Hp} {Q : Option Value → Hp → Prop} : Run 19 17 lo st h Q = Cnt 19 Q (xo_iald 18 lo st h) := run_s rfl
theorem rq_X3_countAhead_18 {lo : Lo} {st : List Value} {h : Hp} {Q : Option Value → Hp → Prop} : Run 19 18 lo st h Q = Cnt 19 Q (xo_iload 1 19 lo st h) := run_s rfl
theorem rq_X3_countAhead_19 {lo : Lo} {st : List Value} {h : Hp} {Q : Option Value → Hp → Prop} : Run 19 19 lo st h Q = Cnt 19 Q (xo_if2 (fun x y => decide (x ≥ y)) 25 22 lo st h) := run_s rfl
theorem rq_X3_countAhead_22 {lo : Lo} {st : List Value} {h : Hp} {Q : Option Value → Hp → Prop} : Run 19 22 lo st h Q = Cnt 19 Q (xo_iinc 2 1 25 lo st h) := run_s rfl
theorem rq_X3_countAhead_25 {lo : Lo} {st : List Value} {h : Hp} {Q : Option Value → Hp → Prop} : Run 19 25 lo st h Q = Cnt 19 Q (xo_iinc 3 1 28 lo st h) := run_s rfl
theorem rq_X3_countAhead_28 {lo : Lo} {st : List Value} {h : Hp} {Q : Option Value → Hp → Prop} : Run 19 28 lo st h Q = Cnt 19 Q (xo_goto 4 lo st h) := run_s rfl
theorem rq_X3_countAhead_31 {lo : Lo} {st : List Value} {h : Hp} {Q : Option Value → Hp → Prop} : Run 19 31 lo st h Q = Cnt 19 Q (xo_iload 2 32 lo st h) := run_s rfl
theorem rq_X3_countAhead_32 {lo : Lo} {st : List Value} {h : Hp} {Q : Option Value → Hp → Prop} : Run 19 32 lo st h Q = Cnt 19 Q (xo_iret lo st h) := run_s rfl
theorem rq_X3_countNotIn_0 {lo : Lo} {st : List Value} {h : Hp} {Q : Option Value → Hp → Prop} : Run 20 0 lo st h Q = Cnt 20 Q (xo_const (.int 0) 1 lo st h) := run_s rfl
theorem rq_X3_countNotIn_1 {lo : Lo} {st : List Value} {h : Hp} {Q : Option Value → Hp → Prop} : Run 20 1 lo st h Q = Cnt 20 Q (xo_istore 2 2 lo st h) := run_s rfl
theorem rq_X3_countNotIn_2 {lo : Lo} {st : List Value} {h : Hp} {Q : Option Value → Hp → Prop} : Run 20 2 lo st h Q = Cnt 20 Q (xo_const (.int 0) 3 lo st h) := run_s rfl
theorem rq_X3_countNotIn_3 {lo : Lo} {st : List Value} {h : Hp} {Q : Option Value → Hp → Prop} : Run 20 3 lo st h Q = Cnt 20 Q (xo_istore 3 4 lo st h) := run_s rfl
theorem rq_X3_countNotIn_4 {lo : Lo} {st : List Value} {h : Hp} {Q : Option Value → Hp → Prop} : Run 20 4 lo st h Q = Cnt 20 Q (xo_iload 3 5 lo st h) := run_s rfl
theorem rq_X3_countNotIn_5 {lo : Lo} {st : List Value} {h : Hp} {Q : Option Value → Hp → Prop} : Run 20 5 lo st h Q = Cnt 20 Q (xo_aload 0 6 lo st h) := run_s rfl
theorem rq_X3_countNotIn_6 {lo : Lo} {st : List Value} {h : Hp} {Q : Option Value → Hp → Prop} : Run 20 6 lo st h Q = Cnt 20 Q (xo_getf 3 1 9 lo st h) := run_s rfl
theorem rq_X3_countNotIn_9 {lo : Lo} {st : List Value} {h : Hp} {Q : Option Value → Hp → Prop} : Run 20 9 lo st h Q = Cnt 20 Q (xo_if2 (fun x y => decide (x ≥ y)) 34 12 lo st h) := run_s rfl
theorem rq_X3_countNotIn_12 {lo : Lo} {st : List Value} {h : Hp} {Q : Option Value → Hp → Prop} : Run 20 12 lo st h Q = Cnt 20 Q (xo_aload 1 13 lo st h) := run_s rfl
theorem rq_X3_countNotIn_13 {lo : Lo} {st : List Value} {h : Hp} {Q : Option Value → Hp → Prop} : Run 20 13 lo st h Q = Cnt 20 Q (xo_aload 0 14 lo st h) := run_s rfl
theorem rq_X3_countNotIn_14 {lo : Lo} {st : List Value} {h : Hp} {Q : Option Value → Hp → Prop} : Run 20 14 lo st h Q = Cnt 20 Q (xo_getf 3 0 17 lo st h) := run_s rfl
theorem rq_X3_countNotIn_17 {lo : Lo} {st : List Value} {h : Hp} {Q : Option Value → Hp → Prop} : Run 20 17 lo st h Q = Cnt 20 Q (xo_iload 3 18 lo st h) := run_s rfl
theorem rq_X3_countNotIn_18 {lo : Lo} {st : List Value} {h : Hp} {Q : Option Value → Hp → Prop} : Run 20 18 lo st h Q = Cnt 20 Q (xo_iald 19 lo st h) := run_s rfl
theorem rq_X3_countNotIn_19 {lo : Lo} {st : List Value} {h : Hp} {Q : Option Value → Hp → Prop} : Run 20 19 lo st h Q = CCall 18 2 (some 3) st h (Knt 20 22 lo (st.drop 2) Q) := run_c rfl
theorem rq_X3_countNotIn_22 {lo : Lo} {st : List Value} {h : Hp} {Q : Option Value → Hp → Prop} : Run 20 22 lo st h Q = Cnt 20 Q (xo_if1 (fun x => decide (¬ x = 0)) 28 25 lo st h) := run_s rfl
theorem rq_X3_countNotIn_25 {lo : Lo} {st : List Value} {h : Hp} {Q : Option Value → Hp → Prop} : Run 20 25 lo st h Q = Cnt 20 Q (xo_iinc 2 1 28 lo st h) := run_s rfl
theorem rq_X3_countNotIn_28 {lo : Lo} {st : List Value} {h : Hp} {Q : Option Value → Hp → Prop} : Run 20 28 lo st h Q = Cnt 20 Q (xo_iinc 3 1 31 lo st h) := run_s rfl
theorem rq_X3_countNotIn_31 {lo : Lo} {st : List Value} {h : Hp} {Q : Option Value → Hp → Prop} : Run 20 31 lo st h Q = Cnt 20 Q (xo_goto 4 lo st h) := run_s rfl
theorem rq_X3_countNotIn_34 {lo : Lo} {st : List Value} {h : Hp} {Q : Option Value → Hp → Prop} : Run 20 34 lo st h Q = Cnt 20 Q (xo_iload 2 35 lo st h) := run_s rfl
theorem rq_X3_countNotIn_35 {lo : Lo} {st : List Value} {h : Hp} {Q : Option Value → Hp → Prop} : Run 20 35 lo st h Q = Cnt 20 Q (xo_iret lo st h) := run_s rfl
theorem rq_X4_init_0 {lo : Lo} {st : List Value} {h : Hp} {Q : Option Value → Hp → Prop} : Run 21 0 lo st h Q = Cnt 21 Q (xo_aload 0 1 lo st h) := run_s rfl
theorem rq_X4_init_1 {lo : Lo} {st : List Value} {h : Hp} {Q : Option Value → Hp → Prop} : Run 21 1 lo st h Q = Cnt 21 Q (xo_oinit 4 lo st h) := run_s rfl
theorem rq_X4_init_4 {lo : Lo} {st : List Value} {h : Hp} {Q : Option Value → Hp → Prop} : Run 21 4 lo st h Q = Cnt 21 Q (xo_aload 0 5 lo st h) := run_s rfl
theorem rq_X4_init_5 {lo : Lo} {st : List Value} {h : Hp} {Q : Option Value → Hp → Prop} : Run 21 5 lo st h Q = Cnt 21 Q (xo_new 3 [.null, .int 0] 8 lo st h) := run_s rfl
theorem rq_X4_init_8 {lo : Lo} {st : List Value} {h : Hp} {Q : Option Value → Hp → Prop} : Run 21 8 lo st h Q = Cnt 21 Q (xo_dup 9 lo st h) := run_s rfl
theorem rq_X4_init_9 {lo : Lo} {st : List Value} {h : Hp} {Q : Option Value → Hp → Prop} : Run 21 9 lo st h Q = CCall 13 1 (some 3) st h (Knt 21 12 lo (st.drop 1) Q) := run_c rfl
theorem rq_X4_init_12 {lo : Lo} {st : List Value} {h : Hp} {Q : Option Value → Hp → Prop} : Run 21 12 lo st h Q = Cnt 21 Q (xo_putf 4 0 false 15 lo st h) := run_s rfl
theorem rq_X4_init_15 {lo : Lo} {st : List Value} {h : Hp} {Q : Option Value → Hp → Prop} : Run 21 15 lo st h Q = Cnt 21 Q (xo_aload 0 16 lo st h) := run_s rfl
theorem rq_X4_init_16 {lo : Lo} {st : List Value} {h : Hp} {Q : Option Value → Hp → Prop} : Run 21 16 lo st h Q = Cnt 21 Q (xo_new 3 [.null, .int 0] 19 lo st h) := run_s rfl
theorem rq_X4_init_19 {lo : Lo} {st : List Value} {h : Hp} {Q : Option Value → Hp → Prop} : Run 21 19 lo st h Q = Cnt 21 Q (xo_dup 20 lo st h) := run_s rfl
theorem rq_X4_init_20 {lo : Lo} {st : List Value} {h : Hp} {Q : Option Value → Hp → Prop} : Run 21 20 lo st h Q = CCall 13 1 (some 3) st h (Knt 21 23 lo (st.drop 1) Q) := run_c rfl
theorem rq_X4_init_23 {lo : Lo} {st : List Value} {h : Hp} {Q : Option Value → Hp → Prop} : Run 21 23 lo st h Q = Cnt 21 Q (xo_putf 4 1 false 26 lo st h) := run_s rfl
theorem rq_X4_init_26 {lo : Lo} {st : List Value} {h : Hp} {Q : Option Value → Hp → Prop} : Run 21 26 lo st h Q = Cnt 21 Q (xo_aload 0 27 lo st h) := run_s rfl
theorem rq_X4_init_27 {lo : Lo} {st : List Value} {h : Hp} {Q : Option Value → Hp → Prop} : Run 21 27 lo st h Q = Cnt 21 Q (xo_const (.int 0) 28 lo st h) := run_s rfl
theorem rq_X4_init_28 {lo : Lo} {st : List Value} {h : Hp} {Q : Option Value → Hp → Prop} : Run 21 28 lo st h Q = Cnt 21 Q (xo_putf 4 2 true 31 lo st h) := run_s rfl
theorem rq_X4_init_31 {lo : Lo} {st : List Value} {h : Hp} {Q : Option Value → Hp → Prop} : Run 21 31 lo st h Q = Cnt 21 Q (xo_vret lo st h) := run_s rfl
theorem rq_X4_nameAt_0 {lo : Lo} {st : List Value} {h : Hp} {Q : Option Value → Hp → Prop} : Run 22 0 lo st h Q = Cnt 22 Q (xo_aload 0 1 lo st h) := run_s rfl
theorem rq_X4_nameAt_1 {lo : Lo} {st : List Value} {h : Hp} {Q : Option Value → Hp → Prop} : Run 22 1 lo st h Q = Cnt 22 Q (xo_getf 4 0 4 lo st h) := run_s rfl
theorem rq_X4_nameAt_4 {lo : Lo} {st : List Value} {h : Hp} {Q : Option Value → Hp → Prop} : Run 22 4 lo st h Q = CCall 15 1 (some 3) st h (Knt 22 7 lo (st.drop 1) Q) := run_c rfl
theorem rq_X4_nameAt_7 {lo : Lo} {st : List Value} {h : Hp} {Q : Option Value → Hp → Prop} : Run 22 7 lo st h Q = Cnt 22 Q (xo_const (.int (-9)) 9 lo st h) := run_s rfl
theorem rq_X4_nameAt_9 {lo : Lo} {st : List Value} {h : Hp} {Q : Option Value → Hp → Prop} : Run 22 9 lo st h Q = Cnt 22 Q (xo_istore 4 11 lo st h) := run_s rfl
theorem rq_X4_nameAt_11 {lo : Lo} {st : List Value} {h : Hp} {Q : Option Value → Hp → Prop} : Run 22 11 lo st h Q = Cnt 22 Q (xo_const (.int 0) 12 lo st h) := run_s rfl
theorem rq_X4_nameAt_12 {lo : Lo} {st : List Value} {h : Hp} {Q : Option Value → Hp → Prop} : Run 22 12 lo st h Q = Cnt 22 Q (xo_istore 5 14 lo st h) := run_s rfl
theorem rq_X4_nameAt_14 {lo : Lo} {st : List Value} {h : Hp} {Q : Option Value → Hp → Prop} : Run 22 14 lo st h Q = Cnt 22 Q (xo_const (.int 0) 15 lo st h) := run_s rfl
theorem rq_X4_nameAt_15 {lo : Lo} {st : List Value} {h : Hp} {Q : Option Value → Hp → Prop} : Run 22 15 lo st h Q = Cnt 22 Q (xo_istore 6 17 lo st h) := run_s rfl
theorem rq_X4_nameAt_17 {lo : Lo} {st : List Value} {h : Hp} {Q : Option Value → Hp → Prop} : Run 22 17 lo st h Q = Cnt 22 Q (xo_iload 6 19 lo st h) := run_s rfl
theorem rq_X4_nameAt_19 {lo : Lo} {st : List Value} {h : Hp} {Q : Option Value → Hp → Prop} : Run 22 19 lo st h Q = Cnt 22 Q (xo_iload 1 20 lo st h) := run_s rfl
theorem rq_X4_nameAt_20 {lo : Lo} {st : List Value} {h : Hp} {Q : Option Value → Hp → Prop} : Run 22 20 lo st h Q = Cnt 22 Q (xo_if2 (fun x y => decide (x > y)) 74 23 lo st h) := run_s rfl
theorem rq_X4_nameAt_23 {lo : Lo} {st : List Value} {h : Hp} {Q : Option Value → Hp → Prop} : Run 22 23 lo st h Q = Cnt 22 Q (xo_aload 0 24 lo st h) := run_s rfl
theorem rq_X4_nameAt_24 {lo : Lo} {st : List Value} {h : Hp} {Q : Option Value → Hp → Prop} : Run 22 24 lo st h Q = Cnt 22 Q (xo_aload 2 25 lo st h) := run_s rfl
theorem rq_X4_nameAt_25 {lo : Lo} {st : List Value} {h : Hp} {Q : Option Value → Hp → Prop} : Run 22 25 lo st h Q = Cnt 22 Q (xo_iload 5 27 lo st h) := run_s rfl
theorem rq_X4_nameAt_27 {lo : Lo} {st : List Value} {h : Hp} {Q : Option Value → Hp → Prop} : Run 22 27 lo st h Q = Cnt 22 Q (xo_iload 3 28 lo st h) := run_s rfl
theorem rq_X4_nameAt_28 {lo : Lo} {st : List Value} {h : Hp} {Q : Option Value → Hp → Prop} : Run 22 28 lo st h Q = CCall 23 4 (some 4) st h (Knt 22 31 lo (st.drop 4) Q) := run_c rfl
theorem rq_X4_nameAt_31 {lo : Lo} {st : List Value} {h : Hp} {Q : Option Value → Hp → Prop} : Run 22 31 lo st h Q = Cnt 22 Q (xo_istore 4 33 lo st h) := run_s rfl
theorem rq_X4_nameAt_33 {lo : Lo} {st : List Value} {h : Hp} {Q : Option Value → Hp → Prop} : Run 22 33 lo st h Q = Cnt 22 Q (xo_aload 2 34 lo st h) := run_s rfl
theorem rq_X4_nameAt_34 {lo : Lo} {st : List Value} {h : Hp} {Q : Option Value → Hp → Prop} : Run 22 34 lo st h Q = Cnt 22 Q (xo_iload 4 36 lo st h) := run_s rfl
theorem rq_X4_nameAt_36 {lo : Lo} {st : List Value} {h : Hp} {Q : Option Value → Hp → Prop} : Run 22 36 lo st h Q = CCall 39 2 (some 7) st h (Knt 22 39 lo (st.drop 2) Q) := run_c rfl
theorem rq_X4_nameAt_39 {lo : Lo} {st : List Value} {h : Hp} {Q : Option Value → Hp → Prop} : Run 22 39 lo st h Q = Cnt 22 Q (xo_astore 7 41 lo st h) := run_s rfl
theorem rq_X4_nameAt_41 {lo : Lo} {st : List Value} {h : Hp} {Q : Option Value → Hp → Prop} : Run 22 41 lo st h Q = Cnt 22 Q (xo_aload 7 43 lo st h) := run_s rfl
theorem rq_X4_nameAt_43 {lo : Lo} {st : List Value} {h : Hp} {Q : Option Value → Hp → Prop} : Run 22 43 lo st h Q = Cnt 22 Q (xo_null 46 49 lo st h) := run_s rfl
theorem rq_X4_nameAt_46 {lo : Lo} {st : List Value} {h : Hp} {Q : Option Value → Hp → Prop} : Run 22 46 lo st h Q = Cnt 22 Q (xo_const (.int (-9)) 48 lo st h) := run_s rfl
theorem rq_X4_nameAt_48 {lo : Lo} {st : List Value} {h : Hp} {Q : Option Value → Hp → Prop} : Run 22 48 lo st h Q = Cnt 22 Q (xo_iret lo st h) := run_s rfl
theorem rq_X4_nameAt_49 {lo : Lo} {st : List Value} {h : Hp} {Q : Option Value → Hp → Prop} : Run 22 49 lo st h Q = Cnt 22 Q (xo_iload 5 51 lo st h) := run_s rfl
theorem rq_X4_nameAt_51 {lo : Lo} {st : List Value} {h : Hp} {Q : Option Value → Hp → Prop} : Run 22 51 lo st h Q = Cnt 22 Q (xo_const (.int 1) 52 lo st h) := run_s rfl
theorem rq_X4_nameAt_52 {lo : Lo} {st : List Value} {h : Hp} {Q : Option Value → Hp → Prop} : Run 22 52 lo st h Q = Cnt 22 Q (xo_iload 4 54 lo st h) := run_s rfl
theorem rq_X4_nameAt_54 {lo : Lo} {st : List Value} {h : Hp} {Q : Option Value → Hp → Prop} : Run 22 54 lo st h Q = Cnt 22 Q (xo_bin (fun x y => x <<< (y &&& 31)) 55 lo st h) := run_s rfl
theorem rq_X4_nameAt_55 {lo : Lo} {st : List Value} {h : Hp} {Q : Option Value → Hp → Prop} : Run 22 55 lo st h Q = Cnt 22 Q (xo_bin (fun x y => x ||| y) 56 lo st h) := run_s rfl
theorem rq_X4_nameAt_56 {lo : Lo} {st : List Value} {h : Hp} {Q : Option Value → Hp → Prop} : Run 22 56 lo st h Q = Cnt 22 Q (xo_istore 5 58 lo st h) := run_s rfl
theorem rq_X4_nameAt_58 {lo : Lo} {st : List Value} {h : Hp} {Q : Option Value → Hp → Prop} : Run 22 58 lo st h Q = Cnt 22 Q (xo_aload 0 59 lo st h) := run_s rfl
theorem rq_X4_nameAt_59 {lo : Lo} {st : List Value} {h : Hp} {Q : Option Value → Hp → Prop} : Run 22 59 lo st h Q = Cnt 22 Q (xo_getf 4 0 62 lo st h) := run_s rfl
theorem rq_X4_nameAt_62 {lo : Lo} {st : List Value} {h : Hp} {Q : Option Value → Hp → Prop} : Run 22 62 lo st h Q = Cnt 22 Q (xo_aload 7 64 lo st h) := run_s rfl
theorem rq_X4_nameAt_64 {lo : Lo} {st : List Value} {h : Hp} {Q : Option Value → Hp → Prop} : Run 22 64 lo st h Q = Cnt 22 Q (xo_iload 3 65 lo st h) := run_s rfl
theorem rq_X4_nameAt_65 {lo : Lo} {st : List Value} {h : Hp} {Q : Option Value → Hp → Prop} : Run 22 65 lo st h Q = CCall 16 3 (some 3) st h (Knt 22 68 lo (st.drop 3) Q) := run_c rfl
theorem rq_X4_nameAt_68 {lo : Lo} {st : List Value} {h : Hp} {Q : Option Value → Hp → Prop} : Run 22 68 lo st h Q = Cnt 22 Q (xo_iinc 6 1 71 lo st h) := run_s rfl
theorem rq_X4_nameAt_71 {lo : Lo} {st : List Value} {h : Hp} {Q : Option Value → Hp → Prop} : Run 22 71 lo st h Q = Cnt 22 Q (xo_goto 17 lo st h) := run_s rfl
theorem rq_X4_nameAt_74 {lo : Lo} {st : List Value} {h : Hp} {Q : Option Value → Hp → Prop} : Run 22 74 lo st h Q = Cnt 22 Q (xo_iload 4 76 lo st h) := run_s rfl
theorem rq_X4_nameAt_76 {lo : Lo} {st : List Value} {h : Hp} {Q : Option Value → Hp → Prop} : Run 22 76 lo st h Q = Cnt 22 Q (xo_iret lo st h) := run_s rfl
theorem rq_X4_nextName_0 {lo : Lo} {st : List Value} {h : Hp} {Q : Option Value → Hp → Prop} : Run 23 0 lo st h Q = Cnt 23 Q (xo_const (.int (-9)) 2 lo st h) := run_s rfl
theorem rq_X4_nextName_2 {lo : Lo} {st : List Value} {h : Hp} {Q : Option Value → Hp → Prop} : Run 23 2 lo st h Q = Cnt 23 Q (xo_istore 4 4 lo st h) := run_s rfl
theorem rq_X4_nextName_4 {lo : Lo} {st : List Value} {h : Hp} {Q : Option Value → Hp → Prop} : Run 23 4 lo st h Q = Cnt 23 Q (xo_const (.int 0) 5 lo st h) := run_s rfl
theorem rq_X4_nextName_5 {lo : Lo} {st : List Value} {h : Hp} {Q : Option Value → Hp → Prop} : Run 23 5 lo st h Q = Cnt 23 Q (xo_istore 5 7 lo st h) := run_s rfl
theorem rq_X4_nextName_7 {lo : Lo} {st : List Value} {h : Hp} {Q : Option Value → Hp → Prop} : Run 23 7 lo st h Q = Cnt 23 Q (xo_iload 5 9 lo st h) := run_s rfl
theorem rq_X4_nextName_9 {lo : Lo} {st : List Value} {h : Hp} {Q : Option Value → Hp → Prop} : Run 23 9 lo st h Q = Cnt 23 Q (xo_const (.int 26) 11 lo st h) := run_s rfl
theorem rq_X4_nextName_11 {lo : Lo} {st : List Value} {h : Hp} {Q : Option Value → Hp → Prop} : Run 23 11 lo st h Q = Cnt 23 Q (xo_if2 (fun x y => decide (x ≥ y)) 101 14 lo st h) := run_s rfl
theorem rq_X4_nextName_14 {lo : Lo} {st : List Value} {h : Hp} {Q : Option Value → Hp → Prop} : Run 23 14 lo st h Q = Cnt 23 Q (xo_aload 1 15 lo st h) := run_s rfl
theorem rq_X4_nextName_15 {lo : Lo} {st : List Value} {h : Hp} {Q : Option Value → Hp → Prop} : Run 23 15 lo st h Q = Cnt 23 Q (xo_iload 5 17 lo st h) := run_s rfl
theorem rq_X4_nextName_17 {lo : Lo} {st : List Value} {h : Hp} {Q : Option Value → Hp → Prop} : Run 23 17 lo st h Q = CCall 39 2 (some 7) st h (Knt 23 20 lo (st.drop 2) Q) := run_c rfl
theorem rq_X4_nextName_20 {lo : Lo} {st : List Value} {h : Hp} {Q : Option Value → Hp → Prop} : Run 23 20 lo st h Q = Cnt 23 Q (xo_astore 6 22 lo st h) := run_s rfl
theorem rq_X4_nextName_22 {lo : Lo} {st : List Value} {h : Hp} {Q : Option Value → Hp → Prop} : Run 23 22 lo st h Q = Cnt 23 Q (xo_aload 6 24 lo st h) := run_s rfl
theorem rq_X4_nextName_24 {lo : Lo} {st : List Value} {h : Hp} {Q : Option Value → Hp → Prop} : Run 23 24 lo st h Q = Cnt 23 Q (xo_null 95 27 lo st h) := run_s rfl
theorem rq_X4_nextName_27 {lo : Lo} {st : List Value} {h : Hp} {Q : Option Value → Hp → Prop} : Run 23 27 lo st h Q = Cnt 23 Q (xo_iload 2 28 lo st h) := run_s rfl
theorem rq_X4_nextName_28 {lo : Lo} {st : List Value} {h : Hp} {Q : Option Value → Hp → Prop} : Run 23 28 lo st h Q = Cnt 23 Q (xo_iload 5 30 lo st h) := run_s rfl
theorem rq_X4_nextName_30 {lo : Lo} {st : List Value} {h : Hp} {Q : Option Value → Hp → Prop} : Run 23 30 lo st h Q = Cnt 23 Q (xo_bin (fun x y => (x.toUInt32 >>> (y.toUInt32 &&& Int32.toUInt32 31)).toInt32) 31 lo st h) := run_s rfl
theorem rq_X4_nextName_31 {lo : Lo} {st : List Value} {h : Hp} {Q : Option Value → Hp → Prop} : Run 23 31 lo st h Q = Cnt 23 Q (xo_const (.int 1) 32 lo st h) := run_s rfl
theorem rq_X4_nextName_32 {lo : Lo} {st : List Value} {h : Hp} {Q : Option Value → Hp → Prop} : Run 23 32 lo st h Q = Cnt 23 Q (xo_bin (fun x y => x &&& y) 33 lo st h) := run_s rfl
theorem rq_X4_nextName_33 {lo : Lo} {st : List Value} {h : Hp} {Q : Option Value → Hp → Prop} : Run 23 33 lo st h Q = Cnt 23 Q (xo_if1 (fun x => decide (x = 0)) 39 36 lo st h) := run_s rfl
theorem rq_X4_nextName_36 {lo : Lo} {st : List Value} {h : Hp} {Q : Option Value → Hp → Prop} : Run 23 36 lo st h Q = Cnt 23 Q (xo_goto 95 lo st h) := run_s rfl
theorem rq_X4_nextName_39 {lo : Lo} {st : List Value} {h : Hp} {Q : Option Value → Hp → Prop} : Run 23 39 lo st h Q = Cnt 23 Q (xo_aload 0 40 lo st h) := run_s rfl
theorem rq_X4_nextName_40 {lo : Lo} {st : List Value} {h : Hp} {Q : Option Value → Hp → Prop} : Run 23 40 lo st h Q = Cnt 23 Q (xo_getf 4 1 43 lo st h) := run_s rfl
theorem rq_X4_nextName_43 {lo : Lo} {st : List Value} {h : Hp} {Q : Option Value → Hp → Prop} : Run 23 43 lo st h Q = CCall 15 1 (some 3) st h (Knt 23 46 lo (st.drop 1) Q) := run_c rfl
theorem rq_X4_nextName_46 {lo : Lo} {st : List Value} {h : Hp} {Q : Option Value → Hp → Prop} : Run 23 46 lo st h Q = Cnt 23 Q (xo_aload 0 47 lo st h) := run_s rfl
theorem rq_X4_nextName_47 {lo : Lo} {st : List Value} {h : Hp} {Q : Option Value → Hp → Prop} : Run 23 47 lo st h Q = Cnt 23 Q (xo_getf 4 1 50 lo st h) := run_s rfl
theorem rq_X4_nextName_50 {lo : Lo} {st : List Value} {h : Hp} {Q : Option Value → Hp → Prop} : Run 23 50 lo st h Q = Cnt 23 Q (xo_aload 6 52 lo st h) := run_s rfl
theorem rq_X4_nextName_52 {lo : Lo} {st : List Value} {h : Hp} {Q : Option Value → Hp → Prop} : Run 23 52 lo st h Q = Cnt 23 Q (xo_iload 3 53 lo st h) := run_s rfl
theorem rq_X4_nextName_53 {lo : Lo} {st : List Value} {h : Hp} {Q : Option Value → Hp → Prop} : Run 23 53 lo st h Q = CCall 16 3 (some 3) st h (Knt 23 56 lo (st.drop 3) Q) := run_c rfl
theorem rq_X4_nextName_56 {lo : Lo} {st : List Value} {h : Hp} {Q : Option Value → Hp → Prop} : Run 23 56 lo st h Q = Cnt 23 Q (xo_aload 0 57 lo st h) := run_s rfl
theorem rq_X4_nextName_57 {lo : Lo} {st : List Value} {h : Hp} {Q : Option Value → Hp → Prop} : Run 23 57 lo st h Q = Cnt 23 Q (xo_getf 4 1 60 lo st h) := run_s rfl
theorem rq_X4_nextName_60 {lo : Lo} {st : List Value} {h : Hp} {Q : Option Value → Hp → Prop} : Run 23 60 lo st h Q = Cnt 23 Q (xo_aload 0 61 lo st h) := run_s rfl
theorem rq_X4_nextName_61 {lo : Lo} {st : List Value} {h : Hp} {Q : Option Value → Hp → Prop} : Run 23 61 lo st h Q = Cnt 23 Q (xo_getf 4 0 64 lo st h) := run_s rfl
theorem rq_X4_nextName_64 {lo : Lo} {st : List Value} {h : Hp} {Q : Option Value → Hp → Prop} : Run 23 64 lo st h Q = CCall 20 2 (some 3) st h (Knt 23 67 lo (st.drop 2) Q) := run_c rfl
theorem rq_X4_nextName_67 {lo : Lo} {st : List Value} {h : Hp} {Q : Option Value → Hp → Prop} : Run 23 67 lo st h Q = Cnt 23 Q (xo_istore 7 69 lo st h) := run_s rfl
theorem rq_X4_nextName_69 {lo : Lo} {st : List Value} {h : Hp} {Q : Option Value → Hp → Prop} : Run 23 69 lo st h Q = Cnt 23 Q (xo_iload 4 71 lo st h) := run_s rfl
theorem rq_X4_nextName_71 {lo : Lo} {st : List Value} {h : Hp} {Q : Option Value → Hp → Prop} : Run 23 71 lo st h Q = Cnt 23 Q (xo_const (.int (-9)) 73 lo st h) := run_s rfl
theorem rq_X4_nextName_73 {lo : Lo} {st : List Value} {h : Hp} {Q : Option Value → Hp → Prop} : Run 23 73 lo st h Q = Cnt 23 Q (xo_if2 (fun x y => decide (x = y)) 85 76 lo st h) := run_s rfl
theorem rq_X4_nextName_76 {lo : Lo} {st : List Value} {h : Hp} {Q : Option Value → Hp → Prop} : Run 23 76 lo st h Q = Cnt 23 Q (xo_iload 7 78 lo st h) := run_s rfl
theorem rq_X4_nextName_78 {lo : Lo} {st : List Value} {h : Hp} {Q : Option Value → Hp → Prop} : Run 23 78 lo st h Q = Cnt 23 Q (xo_aload 0 79 lo st h) := run_s rfl
theorem rq_X4_nextName_79 {lo : Lo} {st : List Value} {h : Hp} {Q : Option Value → Hp → Prop} : Run 23 79 lo st h Q = Cnt 23 Q (xo_getf 4 2 82 lo st h) := run_s rfl
theorem rq_X4_nextName_82 {lo : Lo} {st : List Value} {h : Hp} {Q : Option Value → Hp → Prop} : Run 23 82 lo st h Q = Cnt 23 Q (xo_if2 (fun x y => decide (x ≥ y)) 95 85 lo st h) := run_s rfl
theorem rq_X4_nextName_85 {lo : Lo} {st : List Value} {h : Hp} {Q : Option Value → Hp → Prop} : Run 23 85 lo st h Q = Cnt 23 Q (xo_iload 5 87 lo st h) := run_s rfl
theorem rq_X4_nextName_87 {lo : Lo} {st : List Value} {h : Hp} {Q : Option Value → Hp → Prop} : Run 23 87 lo st h Q = Cnt 23 Q (xo_istore 4 89 lo st h) := run_s rfl
theorem rq_X4_nextName_89 {lo : Lo} {st : List Value} {h : Hp} {Q : Option Value → Hp → Prop} : Run 23 89 lo st h Q = Cnt 23 Q (xo_aload 0 90 lo st h) := run_s rfl
theorem rq_X4_nextName_90 {lo : Lo} {st : List Value} {h : Hp} {Q : Option Value → Hp → Prop} : Run 23 90 lo st h Q = Cnt 23 Q (xo_iload 7 92 lo st h) := run_s rfl
theorem rq_X4_nextName_92 {lo : Lo} {st : List Value} {h : Hp} {Q : Option Value → Hp → Prop} : Run 23 92 lo st h Q = Cnt 23 Q (xo_putf 4 2 true 95 lo st h) := run_s rfl
theorem rq_X4_nextName_95 {lo : Lo} {st : List Value} {h : Hp} {Q : Option Value → Hp → Prop} : Run 23 95 lo st h Q = Cnt 23 Q (xo_iinc 5 1 98 lo st h) := run_s rfl
theorem rq_X4_nextName_98 {lo : Lo} {st : List Value} {h : Hp} {Q : Option Value → Hp → Prop} : Run 23 98 lo st h Q = Cnt 23 Q (xo_goto 7 lo st h) := run_s rfl
theorem rq_X4_nextName_101 {lo : Lo} {st : List Value} {h : Hp} {Q : Option Value → Hp → Prop} : Run 23 101 lo st h Q = Cnt 23 Q (xo_iload 4 103 lo st h) := run_s rfl
theorem rq_X4_nextName_103 {lo : Lo} {st : List Value} {h : Hp} {Q : Option Value → Hp → Prop} : Run 23 103 lo st h Q = Cnt 23 Q (xo_iret lo st h) := run_s rfl
theorem rq_X5_init_0 {lo : Lo} {st : List Value} {h : Hp} {Q : Option Value → Hp → Prop} : Run 24 0 lo st h Q = Cnt 24 Q (xo_aload 0 1 lo st h) := run_s rfl
theorem rq_X5_init_1 {lo : Lo} {st : List Value} {h : Hp} {Q : Option Value → Hp → Prop} : Run 24 1 lo st h Q = Cnt 24 Q (xo_oinit 4 lo st h) := run_s rfl
theorem rq_X5_init_4 {lo : Lo} {st : List Value} {h : Hp} {Q : Option Value → Hp → Prop} : Run 24 4 lo st h Q = Cnt 24 Q (xo_aload 0 5 lo st h) := run_s rfl
theorem rq_X5_init_5 {lo : Lo} {st : List Value} {h : Hp} {Q : Option Value → Hp → Prop} : Run 24 5 lo st h Q = Cnt 24 Q (xo_const (.int 8) 7 lo st h) := run_s rfl
theorem rq_X5_init_7 {lo : Lo} {st : List Value} {h : Hp} {Q : Option Value → Hp → Prop} : Run 24 7 lo st h Q = Cnt 24 Q (xo_newi 0 9 lo st h) := run_s rfl
theorem rq_X5_init_9 {lo : Lo} {st : List Value} {h : Hp} {Q : Option Value → Hp → Prop} : Run 24 9 lo st h Q = Cnt 24 Q (xo_putf 5 0 false 12 lo st h) := run_s rfl
theorem rq_X5_init_12 {lo : Lo} {st : List Value} {h : Hp} {Q : Option Value → Hp → Prop} : Run 24 12 lo st h Q = Cnt 24 Q (xo_aload 0 13 lo st h) := run_s rfl
theorem rq_X5_init_13 {lo : Lo} {st : List Value} {h : Hp} {Q : Option Value → Hp → Prop} : Run 24 13 lo st h Q = Cnt 24 Q (xo_const (.int 8) 15 lo st h) := run_s rfl
theorem rq_X5_init_15 {lo : Lo} {st : List Value} {h : Hp} {Q : Option Value → Hp → Prop} : Run 24 15 lo st h Q = Cnt 24 Q (xo_newi 0 17 lo st h) := run_s rfl
theorem rq_X5_init_17 {lo : Lo} {st : List Value} {h : Hp} {Q : Option Value → Hp → Prop} : Run 24 17 lo st h Q = Cnt 24 Q (xo_putf 5 1 false 20 lo st h) := run_s rfl
theorem rq_X5_init_20 {lo : Lo} {st : List Value} {h : Hp} {Q : Option Value → Hp → Prop} : Run 24 20 lo st h Q = Cnt 24 Q (xo_aload 0 21 lo st h) := run_s rfl
theorem rq_X5_init_21 {lo : Lo} {st : List Value} {h : Hp} {Q : Option Value → Hp → Prop} : Run 24 21 lo st h Q = Cnt 24 Q (xo_const (.int 0) 22 lo st h) := run_s rfl
theorem rq_X5_init_22 {lo : Lo} {st : List Value} {h : Hp} {Q : Option Value → Hp → Prop} : Run 24 22 lo st h Q = Cnt 24 Q (xo_putf 5 2 true 25 lo st h) := run_s rfl
theorem rq_X5_init_25 {lo : Lo} {st : List Value} {h : Hp} {Q : Option Value → Hp → Prop} : Run 24 25 lo st h Q = Cnt 24 Q (xo_vret lo st h) := run_s rfl
theorem rq_X5_endsAt_0 {lo : Lo} {st : List Value} {h : Hp} {Q : Option Value → Hp → Prop} : Run 25 0 lo st h Q = Cnt 25 Q (xo_aload 0 1 lo st h) := run_s rfl
theorem rq_X5_endsAt_1 {lo : Lo} {st : List Value} {h : Hp} {Q : Option Value → Hp → Prop} : Run 25 1 lo st h Q = Cnt 25 Q (xo_getf 5 2 4 lo st h) := run_s rfl
theorem rq_X5_endsAt_4 {lo : Lo} {st : List Value} {h : Hp} {Q : Option Value → Hp → Prop} : Run 25 4 lo st h Q = Cnt 25 Q (xo_if1 (fun x => decide (x ≤ 0)) 41 7 lo st h) := run_s rfl
theorem rq_X5_endsAt_7 {lo : Lo} {st : List Value} {h : Hp} {Q : Option Value → Hp → Prop} : Run 25 7 lo st h Q = Cnt 25 Q (xo_aload 0 8 lo st h) := run_s rfl
theorem rq_X5_endsAt_8 {lo : Lo} {st : List Value} {h : Hp} {Q : Option Value → Hp → Prop} : Run 25 8 lo st h Q = Cnt 25 Q (xo_getf 5 0 11 lo st h) := run_s rfl
theorem rq_X5_endsAt_11 {lo : Lo} {st : List Value} {h : Hp} {Q : Option Value → Hp → Prop} : Run 25 11 lo st h Q = Cnt 25 Q (xo_aload 0 12 lo st h) := run_s rfl
theorem rq_X5_endsAt_12 {lo : Lo} {st : List Value} {h : Hp} {Q : Option Value → Hp → Prop} : Run 25 12 lo st h Q = Cnt 25 Q (xo_getf 5 2 15 lo st h) := run_s rfl
theorem rq_X5_endsAt_15 {lo : Lo} {st : List Value} {h : Hp} {Q : Option Value → Hp → Prop} : Run 25 15 lo st h Q = Cnt 25 Q (xo_const (.int 1) 16 lo st h) := run_s rfl
theorem rq_X5_endsAt_16 {lo : Lo} {st : List Value} {h : Hp} {Q : Option Value → Hp → Prop} : Run 25 16 lo st h Q = Cnt 25 Q (xo_bin (fun x y => x - y) 17 lo st h) := run_s rfl
theorem rq_X5_endsAt_17 {lo : Lo} {st : List Value} {h : Hp} {Q : Option Value → Hp → Prop} : Run 25 17 lo st h Q = Cnt 25 Q (xo_iald 18 lo st h) := run_s rfl
theorem rq_X5_endsAt_18 {lo : Lo} {st : List Value} {h : Hp} {Q : Option Value → Hp → Prop} : Run 25 18 lo st h Q = Cnt 25 Q (xo_iload 1 19 lo st h) := run_s rfl
theorem rq_X5_endsAt_19 {lo : Lo} {st : List Value} {h : Hp} {Q : Option Value → Hp → Prop} : Run 25 19 lo st h Q = Cnt 25 Q (xo_if2 (fun x y => decide (¬ x = y)) 41 22 lo st h) := run_s rfl
theorem rq_X5_endsAt_22 {lo : Lo} {st : List Value} {h : Hp} {Q : Option Value → Hp → Prop} : Run 25 22 lo st h Q = Cnt 25 Q (xo_aload 0 23 lo st h) := run_s rfl
theorem rq_X5_endsAt_23 {lo : Lo} {st : List Value} {h : Hp} {Q : Option Value → Hp → Prop} : Run 25 23 lo st h Q = Cnt 25 Q (xo_getf 5 1 26 lo st h) := run_s rfl
theorem rq_X5_endsAt_26 {lo : Lo} {st : List Value} {h : Hp} {Q : Option Value → Hp → Prop} : Run 25 26 lo st h Q = Cnt 25 Q (xo_aload 0 27 lo st h) := run_s rfl
theorem rq_X5_endsAt_27 {lo : Lo} {st : List Value} {h : Hp} {Q : Option Value → Hp → Prop} : Run 25 27 lo st h Q = Cnt 25 Q (xo_getf 5 2 30 lo st h) := run_s rfl
theorem rq_X5_endsAt_30 {lo : Lo} {st : List Value} {h : Hp} {Q : Option Value → Hp → Prop} : Run 25 30 lo st h Q = Cnt 25 Q (xo_const (.int 1) 31 lo st h) := run_s rfl
theorem rq_X5_endsAt_31 {lo : Lo} {st : List Value} {h : Hp} {Q : Option Value → Hp → Prop} : Run 25 31 lo st h Q = Cnt 25 Q (xo_bin (fun x y => x - y) 32 lo st h) := run_s rfl
theorem rq_X5_endsAt_32 {lo : Lo} {st : List Value} {h : Hp} {Q : Option Value → Hp → Prop} : Run 25 32 lo st h Q = Cnt 25 Q (xo_iald 33 lo st h) := run_s rfl
theorem rq_X5_endsAt_33 {lo : Lo} {st : List Value} {h : Hp} {Q : Option Value → Hp → Prop} : Run 25 33 lo st h Q = Cnt 25 Q (xo_iload 2 34 lo st h) := run_s rfl
theorem rq_X5_endsAt_34 {lo : Lo} {st : List Value} {h : Hp} {Q : Option Value → Hp → Prop} : Run 25 34 lo st h Q = Cnt 25 Q (xo_if2 (fun x y => decide (¬ x = y)) 41 37 lo st h) := run_s rfl
theorem rq_X5_endsAt_37 {lo : Lo} {st : List Value} {h : Hp} {Q : Option Value → Hp → Prop} : Run 25 37 lo st h Q = Cnt 25 Q (xo_const (.int 1) 38 lo st h) := run_s rfl
theorem rq_X5_endsAt_38 {lo : Lo} {st : List Value} {h : Hp} {Q : Option Value → Hp → Prop} : Run 25 38 lo st h Q = Cnt 25 Q (xo_goto 42 lo st h) := run_s rfl
theorem rq_X5_endsAt_41 {lo : Lo} {st : List Value} {h : Hp} {Q : Option Value → Hp → Prop} : Run 25 41 lo st h Q = Cnt 25 Q (xo_const (.int 0) 42 lo st h) := run_s rfl
theorem rq_X5_endsAt_42 {lo : Lo} {st : List Value} {h : Hp} {Q : Option Value → Hp → Prop} : Run 25 42 lo st h Q = Cnt 25 Q (xo_zret lo st h) := run_s rfl
theorem rq_X5_add_0 {lo : Lo} {st : List Value} {h : Hp} {Q : Option Value → Hp → Prop} : Run 26 0 lo st h Q = Cnt 26 Q (xo_aload 0 1 lo st h) := run_s rfl
theorem rq_X5_add_1 {lo : Lo} {st : List Value} {h : Hp} {Q : Option Value → Hp → Prop} : Run 26 1 lo st h Q = Cnt 26 Q (xo_getf 5 2 4 lo st h) := run_s rfl
theorem rq_X5_add_4 {lo : Lo} {st : List Value} {h : Hp} {Q : Option Value → Hp → Prop} : Run 26 4 lo st h Q = Cnt 26 Q (xo_const (.int 8) 6 lo st h) := run_s rfl
theorem rq_X5_add_6 {lo : Lo} {st : List Value} {h : Hp} {Q : Option Value → Hp → Prop} : Run 26 6 lo st h Q = Cnt 26 Q (xo_if2 (fun x y => decide (x < y)) 11 9 lo st h) := run_s rfl
theorem rq_X5_add_9 {lo : Lo} {st : List Value} {h : Hp} {Q : Option Value → Hp → Prop} : Run 26 9 lo st h Q = Cnt 26 Q (xo_const (.int 0) 10 lo st h) := run_s rfl
theorem rq_X5_add_10 {lo : Lo} {st : List Value} {h : Hp} {Q : Option Value → Hp → Prop} : Run 26 10 lo st h Q = Cnt 26 Q (xo_zret lo st h) := run_s rfl
theorem rq_X5_add_11 {lo : Lo} {st : List Value} {h : Hp} {Q : Option Value → Hp → Prop} : Run 26 11 lo st h Q = Cnt 26 Q (xo_aload 0 12 lo st h) := run_s rfl
theorem rq_X5_add_12 {lo : Lo} {st : List Value} {h : Hp} {Q : Option Value → Hp → Prop} : Run 26 12 lo st h Q = Cnt 26 Q (xo_getf 5 0 15 lo st h) := run_s rfl
theorem rq_X5_add_15 {lo : Lo} {st : List Value} {h : Hp} {Q : Option Value → Hp → Prop} : Run 26 15 lo st h Q = Cnt 26 Q (xo_aload 0 16 lo st h) := run_s rfl
theorem rq_X5_add_16 {lo : Lo} {st : List Value} {h : Hp} {Q : Option Value → Hp → Prop} : Run 26 16 lo st h Q = Cnt 26 Q (xo_getf 5 2 19 lo st h) := run_s rfl
theorem rq_X5_add_19 {lo : Lo} {st : List Value} {h : Hp} {Q : Option Value → Hp → Prop} : Run 26 19 lo st h Q = Cnt 26 Q (xo_iload 1 20 lo st h) := run_s rfl
theorem rq_X5_add_20 {lo : Lo} {st : List Value} {h : Hp} {Q : Option Value → Hp → Prop} : Run 26 20 lo st h Q = Cnt 26 Q (xo_iast 21 lo st h) := run_s rfl
theorem rq_X5_add_21 {lo : Lo} {st : List Value} {h : Hp} {Q : Option Value → Hp → Prop} : Run 26 21 lo st h Q = Cnt 26 Q (xo_aload 0 22 lo st h) := run_s rfl
theorem rq_X5_add_22 {lo : Lo} {st : List Value} {h : Hp} {Q : Option Value → Hp → Prop} : Run 26 22 lo st h Q = Cnt 26 Q (xo_getf 5 1 25 lo st h) := run_s rfl
theorem rq_X5_add_25 {lo : Lo} {st : List Value} {h : Hp} {Q : Option Value → Hp → Prop} : Run 26 25 lo st h Q = Cnt 26 Q (xo_aload 0 26 lo st h) := run_s rfl
theorem rq_X5_add_26 {lo : Lo} {st : List Value} {h : Hp} {Q : Option Value → Hp → Prop} : Run 26 26 lo st h Q = Cnt 26 Q (xo_getf 5 2 29 lo st h) := run_s rfl
theorem rq_X5_add_29 {lo : Lo} {st : List Value} {h : Hp} {Q : Option Value → Hp → Prop} : Run 26 29 lo st h Q = Cnt 26 Q (xo_iload 2 30 lo st h) := run_s rfl
theorem rq_X5_add_30 {lo : Lo} {st : List Value} {h : Hp} {Q : Option Value → Hp → Prop} : Run 26 30 lo st h Q = Cnt 26 Q (xo_iast 31 lo st h) := run_s rfl
theorem rq_X5_add_31 {lo : Lo} {st : List Value} {h : Hp} {Q : Option Value → Hp → Prop} : Run 26 31 lo st h Q = Cnt 26 Q (xo_aload 0 32 lo st h) := run_s rfl
theorem rq_X5_add_32 {lo : Lo} {st : List Value} {h : Hp} {Q : Option Value → Hp → Prop} : Run 26 32 lo st h Q = Cnt 26 Q (xo_dup 33 lo st h) := run_s rfl
theorem rq_X5_add_33 {lo : Lo} {st : List Value} {h : Hp} {Q : Option Value → Hp → Prop} : Run 26 33 lo st h Q = Cnt 26 Q (xo_getf 5 2 36 lo st h) := run_s rfl
theorem rq_X5_add_36 {lo : Lo} {st : List Value} {h : Hp} {Q : Option Value → Hp → Prop} : Run 26 36 lo st h Q = Cnt 26 Q (xo_const (.int 1) 37 lo st h) := run_s rfl
theorem rq_X5_add_37 {lo : Lo} {st : List Value} {h : Hp} {Q : Option Value → Hp → Prop} : Run 26 37 lo st h Q = Cnt 26 Q (xo_bin (fun x y => x + y) 38 lo st h) := run_s rfl
theorem rq_X5_add_38 {lo : Lo} {st : List Value} {h : Hp} {Q : Option Value → Hp → Prop} : Run 26 38 lo st h Q = Cnt 26 Q (xo_putf 5 2 true 41 lo st h) := run_s rfl
theorem rq_X5_add_41 {lo : Lo} {st : List Value} {h : Hp} {Q : Option Value → Hp → Prop} : Run 26 41 lo st h Q = Cnt 26 Q (xo_const (.int 1) 42 lo st h) := run_s rfl
theorem rq_X5_add_42 {lo : Lo} {st : List Value} {h : Hp} {Q : Option Value → Hp → Prop} : Run 26 42 lo st h Q = Cnt 26 Q (xo_zret lo st h) := run_s rfl
theorem rq_X5_clear_0 {lo : Lo} {st : List Value} {h : Hp} {Q : Option Value → Hp → Prop} : Run 27 0 lo st h Q = Cnt 27 Q (xo_aload 0 1 lo st h) := run_s rfl
theorem rq_X5_clear_1 {lo : Lo} {st : List Value} {h : Hp} {Q : Option Value → Hp → Prop} : Run 27 1 lo st h Q = Cnt 27 Q (xo_const (.int 0) 2 lo st h) := run_s rfl
theorem rq_X5_clear_2 {lo : Lo} {st : List Value} {h : Hp} {Q : Option Value → Hp → Prop} : Run 27 2 lo st h Q = Cnt 27 Q (xo_putf 5 2 true 5 lo st h) := run_s rfl
theorem rq_X5_clear_5 {lo : Lo} {st : List Value} {h : Hp} {Q : Option Value → Hp → Prop} : Run 27 5 lo st h Q = Cnt 27 Q (xo_vret lo st h) := run_s rfl
theorem rq_X6_init_0 {lo : Lo} {st : List Value} {h : Hp} {Q : Option Value → Hp → Prop} : Run 28 0 lo st h Q = Cnt 28 Q (xo_aload 0 1 lo st h) := run_s rfl
theorem rq_X6_init_1 {lo : Lo} {st : List Value} {h : Hp} {Q : Option Value → Hp → Prop} : Run 28 1 lo st h Q = Cnt 28 Q (xo_oinit 4 lo st h) := run_s rfl
theorem rq_X6_init_4 {lo : Lo} {st : List Value} {h : Hp} {Q : Option Value → Hp → Prop} : Run 28 4 lo st h Q = Cnt 28 Q (xo_aload 0 5 lo st h) := run_s rfl
theorem rq_X6_init_5 {lo : Lo} {st : List Value} {h : Hp} {Q : Option Value → Hp → Prop} : Run 28 5 lo st h Q = Cnt 28 Q (xo_const (.int 6) 7 lo st h) := run_s rfl
theorem rq_X6_init_7 {lo : Lo} {st : List Value} {h : Hp} {Q : Option Value → Hp → Prop} : Run 28 7 lo st h Q = Cnt 28 Q (xo_newr 3 10 lo st h) := run_s rfl
theorem rq_X6_init_10 {lo : Lo} {st : List Value} {h : Hp} {Q : Option Value → Hp → Prop} : Run 28 10 lo st h Q = Cnt 28 Q (xo_putf 6 0 false 13 lo st h) := run_s rfl
theorem rq_X6_init_13 {lo : Lo} {st : List Value} {h : Hp} {Q : Option Value → Hp → Prop} : Run 28 13 lo st h Q = Cnt 28 Q (xo_aload 0 14 lo st h) := run_s rfl
theorem rq_X6_init_14 {lo : Lo} {st : List Value} {h : Hp} {Q : Option Value → Hp → Prop} : Run 28 14 lo st h Q = Cnt 28 Q (xo_const (.int 0) 15 lo st h) := run_s rfl
theorem rq_X6_init_15 {lo : Lo} {st : List Value} {h : Hp} {Q : Option Value → Hp → Prop} : Run 28 15 lo st h Q = Cnt 28 Q (xo_putf 6 1 true 18 lo st h) := run_s rfl
theorem rq_X6_init_18 {lo : Lo} {st : List Value} {h : Hp} {Q : Option Value → Hp → Prop} : Run 28 18 lo st h Q = Cnt 28 Q (xo_vret lo st h) := run_s rfl
theorem rq_X6_at_0 {lo : Lo} {st : List Value} {h : Hp} {Q : Option Value → Hp → Prop} : Run 29 0 lo st h Q = Cnt 29 Q (xo_iload 1 1 lo st h) := run_s rfl
theorem rq_X6_at_1 {lo : Lo} {st : List Value} {h : Hp} {Q : Option Value → Hp → Prop} : Run 29 1 lo st h Q = Cnt 29 Q (xo_const (.int 0) 2 lo st h) := run_s rfl
theorem rq_X6_at_2 {lo : Lo} {st : List Value} {h : Hp} {Q : Option Value → Hp → Prop} : Run 29 2 lo st h Q = Cnt 29 Q (xo_const (.int 5) 3 lo st h) := run_s rfl
theorem rq_X6_at_3 {lo : Lo} {st : List Value} {h : Hp} {Q : Option Value → Hp → Prop} : Run 29 3 lo st h Q = CCall 98 3 none st h (Knt 29 6 lo (st.drop 3) Q) := run_c rfl
theorem rq_X6_at_6 {lo : Lo} {st : List Value} {h : Hp} {Q : Option Value → Hp → Prop} : Run 29 6 lo st h Q = Cnt 29 Q (xo_if1 (fun x => decide (x = 0)) 18 9 lo st h) := run_s rfl
theorem rq_X6_at_9 {lo : Lo} {st : List Value} {h : Hp} {Q : Option Value → Hp → Prop} : Run 29 9 lo st h Q = Cnt 29 Q (xo_aload 0 10 lo st h) := run_s rfl
theorem rq_X6_at_10 {lo : Lo} {st : List Value} {h : Hp} {Q : Option Value → Hp → Prop} : Run 29 10 lo st h Q = Cnt 29 Q (xo_getf 6 0 13 lo st h) := run_s rfl
theorem rq_X6_at_13 {lo : Lo} {st : List Value} {h : Hp} {Q : Option Value → Hp → Prop} : Run 29 13 lo st h Q = Cnt 29 Q (xo_iload 1 14 lo st h) := run_s rfl
theorem rq_X6_at_14 {lo : Lo} {st : List Value} {h : Hp} {Q : Option Value → Hp → Prop} : Run 29 14 lo st h Q = Cnt 29 Q (xo_aald 15 lo st h) := run_s rfl
theorem rq_X6_at_15 {lo : Lo} {st : List Value} {h : Hp} {Q : Option Value → Hp → Prop} : Run 29 15 lo st h Q = Cnt 29 Q (xo_goto 19 lo st h) := run_s rfl
theorem rq_X6_at_18 {lo : Lo} {st : List Value} {h : Hp} {Q : Option Value → Hp → Prop} : Run 29 18 lo st h Q = Cnt 29 Q (xo_const .null 19 lo st h) := run_s rfl
theorem rq_X6_at_19 {lo : Lo} {st : List Value} {h : Hp} {Q : Option Value → Hp → Prop} : Run 29 19 lo st h Q = Cnt 29 Q (xo_aret lo st h) := run_s rfl
theorem rq_X6_add_0 {lo : Lo} {st : List Value} {h : Hp} {Q : Option Value → Hp → Prop} : Run 30 0 lo st h Q = Cnt 30 Q (xo_aload 0 1 lo st h) := run_s rfl
theorem rq_X6_add_1 {lo : Lo} {st : List Value} {h : Hp} {Q : Option Value → Hp → Prop} : Run 30 1 lo st h Q = Cnt 30 Q (xo_getf 6 1 4 lo st h) := run_s rfl
theorem rq_X6_add_4 {lo : Lo} {st : List Value} {h : Hp} {Q : Option Value → Hp → Prop} : Run 30 4 lo st h Q = Cnt 30 Q (xo_const (.int 6) 6 lo st h) := run_s rfl
theorem rq_X6_add_6 {lo : Lo} {st : List Value} {h : Hp} {Q : Option Value → Hp → Prop} : Run 30 6 lo st h Q = Cnt 30 Q (xo_if2 (fun x y => decide (x ≥ y)) 29 9 lo st h) := run_s rfl
theorem rq_X6_add_9 {lo : Lo} {st : List Value} {h : Hp} {Q : Option Value → Hp → Prop} : Run 30 9 lo st h Q = Cnt 30 Q (xo_aload 0 10 lo st h) := run_s rfl
theorem rq_X6_add_10 {lo : Lo} {st : List Value} {h : Hp} {Q : Option Value → Hp → Prop} : Run 30 10 lo st h Q = Cnt 30 Q (xo_getf 6 0 13 lo st h) := run_s rfl
theorem rq_X6_add_13 {lo : Lo} {st : List Value} {h : Hp} {Q : Option Value → Hp → Prop} : Run 30 13 lo st h Q = Cnt 30 Q (xo_aload 0 14 lo st h) := run_s rfl
theorem rq_X6_add_14 {lo : Lo} {st : List Value} {h : Hp} {Q : Option Value → Hp → Prop} : Run 30 14 lo st h Q = Cnt 30 Q (xo_getf 6 1 17 lo st h) := run_s rfl
theorem rq_X6_add_17 {lo : Lo} {st : List Value} {h : Hp} {Q : Option Value → Hp → Prop} : Run 30 17 lo st h Q = Cnt 30 Q (xo_aload 1 18 lo st h) := run_s rfl
theorem rq_X6_add_18 {lo : Lo} {st : List Value} {h : Hp} {Q : Option Value → Hp → Prop} : Run 30 18 lo st h Q = Cnt 30 Q (xo_aast 19 lo st h) := run_s rfl
theorem rq_X6_add_19 {lo : Lo} {st : List Value} {h : Hp} {Q : Option Value → Hp → Prop} : Run 30 19 lo st h Q = Cnt 30 Q (xo_aload 0 20 lo st h) := run_s rfl
theorem rq_X6_add_20 {lo : Lo} {st : List Value} {h : Hp} {Q : Option Value → Hp → Prop} : Run 30 20 lo st h Q = Cnt 30 Q (xo_dup 21 lo st h) := run_s rfl
theorem rq_X6_add_21 {lo : Lo} {st : List Value} {h : Hp} {Q : Option Value → Hp → Prop} : Run 30 21 lo st h Q = Cnt 30 Q (xo_getf 6 1 24 lo st h) := run_s rfl
theorem rq_X6_add_24 {lo : Lo} {st : List Value} {h : Hp} {Q : Option Value → Hp → Prop} : Run 30 24 lo st h Q = Cnt 30 Q (xo_const (.int 1) 25 lo st h) := run_s rfl
theorem rq_X6_add_25 {lo : Lo} {st : List Value} {h : Hp} {Q : Option Value → Hp → Prop} : Run 30 25 lo st h Q = Cnt 30 Q (xo_bin (fun x y => x + y) 26 lo st h) := run_s rfl
theorem rq_X6_add_26 {lo : Lo} {st : List Value} {h : Hp} {Q : Option Value → Hp → Prop} : Run 30 26 lo st h Q = Cnt 30 Q (xo_putf 6 1 true 29 lo st h) := run_s rfl
theorem rq_X6_add_29 {lo : Lo} {st : List Value} {h : Hp} {Q : Option Value → Hp → Prop} : Run 30 29 lo st h Q = Cnt 30 Q (xo_vret lo st h) := run_s rfl
theorem rq_X6_removeLast_0 {lo : Lo} {st : List Value} {h : Hp} {Q : Option Value → Hp → Prop} : Run 31 0 lo st h Q = Cnt 31 Q (xo_aload 0 1 lo st h) := run_s rfl
theorem rq_X6_removeLast_1 {lo : Lo} {st : List Value} {h : Hp} {Q : Option Value → Hp → Prop} : Run 31 1 lo st h Q = Cnt 31 Q (xo_getf 6 1 4 lo st h) := run_s rfl
theorem rq_X6_removeLast_4 {lo : Lo} {st : List Value} {h : Hp} {Q : Option Value → Hp → Prop} : Run 31 4 lo st h Q = Cnt 31 Q (xo_if1 (fun x => decide (x ≤ 0)) 27 7 lo st h) := run_s rfl
theorem rq_X6_removeLast_7 {lo : Lo} {st : List Value} {h : Hp} {Q : Option Value → Hp → Prop} : Run 31 7 lo st h Q = Cnt 31 Q (xo_aload 0 8 lo st h) := run_s rfl
theorem rq_X6_removeLast_8 {lo : Lo} {st : List Value} {h : Hp} {Q : Option Value → Hp → Prop} : Run 31 8 lo st h Q = Cnt 31 Q (xo_dup 9 lo st h) := run_s rfl
theorem rq_X6_removeLast_9 {lo : Lo} {st : List Value} {h : Hp} {Q : Option Value → Hp → Prop} : Run 31 9 lo st h Q = Cnt 31 Q (xo_getf 6 1 12 lo st h) := run_s rfl
theorem rq_X6_removeLast_12 {lo : Lo} {st : List Value} {h : Hp} {Q : Option Value → Hp → Prop} : Run 31 12 lo st h Q = Cnt 31 Q (xo_const (.int 1) 13 lo st h) := run_s rfl
theorem rq_X6_removeLast_13 {lo : Lo} {st : List Value} {h : Hp} {Q : Option Value → Hp → Prop} : Run 31 13 lo st h Q = Cnt 31 Q (xo_bin (fun x y => x - y) 14 lo st h) := run_s rfl
theorem rq_X6_removeLast_14 {lo : Lo} {st : List Value} {h : Hp} {Q : Option Value → Hp → Prop} : Run 31 14 lo st h Q = Cnt 31 Q (xo_putf 6 1 true 17 lo st h) := run_s rfl
theorem rq_X6_removeLast_17 {lo : Lo} {st : List Value} {h : Hp} {Q : Option Value → Hp → Prop} : Run 31 17 lo st h Q = Cnt 31 Q (xo_aload 0 18 lo st h) := run_s rfl
theorem rq_X6_removeLast_18 {lo : Lo} {st : List Value} {h : Hp} {Q : Option Value → Hp → Prop} : Run 31 18 lo st h Q = Cnt 31 Q (xo_getf 6 0 21 lo st h) := run_s rfl
theorem rq_X6_removeLast_21 {lo : Lo} {st : List Value} {h : Hp} {Q : Option Value → Hp → Prop} : Run 31 21 lo st h Q = Cnt 31 Q (xo_aload 0 22 lo st h) := run_s rfl
theorem rq_X6_removeLast_22 {lo : Lo} {st : List Value} {h : Hp} {Q : Option Value → Hp → Prop} : Run 31 22 lo st h Q = Cnt 31 Q (xo_getf 6 1 25 lo st h) := run_s rfl
theorem rq_X6_removeLast_25 {lo : Lo} {st : List Value} {h : Hp} {Q : Option Value → Hp → Prop} : Run 31 25 lo st h Q = Cnt 31 Q (xo_const .null 26 lo st h) := run_s rfl
theorem rq_X6_removeLast_26 {lo : Lo} {st : List Value} {h : Hp} {Q : Option Value → Hp → Prop} : Run 31 26 lo st h Q = Cnt 31 Q (xo_aast 27 lo st h) := run_s rfl
theorem rq_X6_removeLast_27 {lo : Lo} {st : List Value} {h : Hp} {Q : Option Value → Hp → Prop} : Run 31 27 lo st h Q = Cnt 31 Q (xo_vret lo st h) := run_s rfl
theorem rq_X6_clear_0 {lo : Lo} {st : List Value} {h : Hp} {Q : Option Value → Hp → Prop} : Run 32 0 lo st h Q = Cnt 32 Q (xo_const (.int 0) 1 lo st h) := run_s rfl
theorem rq_X6_clear_1 {lo : Lo} {st : List Value} {h : Hp} {Q : Option Value → Hp → Prop} : Run 32 1 lo st h Q = Cnt 32 Q (xo_istore 1 2 lo st h) := run_s rfl
theorem rq_X6_clear_2 {lo : Lo} {st : List Value} {h : Hp} {Q : Option Value → Hp → Prop} : Run 32 2 lo st h Q = Cnt 32 Q (xo_iload 1 3 lo st h) := run_s rfl
theorem rq_X6_clear_3 {lo : Lo} {st : List Value} {h : Hp} {Q : Option Value → Hp → Prop} : Run 32 3 lo st h Q = Cnt 32 Q (xo_const (.int 6) 5 lo st h) := run_s rfl
theorem rq_X6_clear_5 {lo : Lo} {st : List Value} {h : Hp} {Q : Option Value → Hp → Prop} : Run 32 5 lo st h Q = Cnt 32 Q (xo_if2 (fun x y => decide (x ≥ y)) 21 8 lo st h) := run_s rfl
theorem rq_X6_clear_8 {lo : Lo} {st : List Value} {h : Hp} {Q : Option Value → Hp → Prop} : Run 32 8 lo st h Q = Cnt 32 Q (xo_aload 0 9 lo st h) := run_s rfl
theorem rq_X6_clear_9 {lo : Lo} {st : List Value} {h : Hp} {Q : Option Value → Hp → Prop} : Run 32 9 lo st h Q = Cnt 32 Q (xo_getf 6 0 12 lo st h) := run_s rfl
theorem rq_X6_clear_12 {lo : Lo} {st : List Value} {h : Hp} {Q : Option Value → Hp → Prop} : Run 32 12 lo st h Q = Cnt 32 Q (xo_iload 1 13 lo st h) := run_s rfl
theorem rq_X6_clear_13 {lo : Lo} {st : List Value} {h : Hp} {Q : Option Value → Hp → Prop} : Run 32 13 lo st h Q = Cnt 32 Q (xo_const .null 14 lo st h) := run_s rfl
theorem rq_X6_clear_14 {lo : Lo} {st : List Value} {h : Hp} {Q : Option Value → Hp → Prop} : Run 32 14 lo st h Q = Cnt 32 Q (xo_aast 15 lo st h) := run_s rfl
theorem rq_X6_clear_15 {lo : Lo} {st : List Value} {h : Hp} {Q : Option Value → Hp → Prop} : Run 32 15 lo st h Q = Cnt 32 Q (xo_iinc 1 1 18 lo st h) := run_s rfl
theorem rq_X6_clear_18 {lo : Lo} {st : List Value} {h : Hp} {Q : Option Value → Hp → Prop} : Run 32 18 lo st h Q = Cnt 32 Q (xo_goto 2 lo st h) := run_s rfl
theorem rq_X6_clear_21 {lo : Lo} {st : List Value} {h : Hp} {Q : Option Value → Hp → Prop} : Run 32 21 lo st h Q = Cnt 32 Q (xo_aload 0 22 lo st h) := run_s rfl
theorem rq_X6_clear_22 {lo : Lo} {st : List Value} {h : Hp} {Q : Option Value → Hp → Prop} : Run 32 22 lo st h Q = Cnt 32 Q (xo_const (.int 0) 23 lo st h) := run_s rfl
theorem rq_X6_clear_23 {lo : Lo} {st : List Value} {h : Hp} {Q : Option Value → Hp → Prop} : Run 32 23 lo st h Q = Cnt 32 Q (xo_putf 6 1 true 26 lo st h) := run_s rfl
theorem rq_X6_clear_26 {lo : Lo} {st : List Value} {h : Hp} {Q : Option Value → Hp → Prop} : Run 32 26 lo st h Q = Cnt 32 Q (xo_vret lo st h) := run_s rfl
theorem rq_X6_copyFrom_0 {lo : Lo} {st : List Value} {h : Hp} {Q : Option Value → Hp → Prop} : Run 33 0 lo st h Q = Cnt 33 Q (xo_const (.int 0) 1 lo st h) := run_s rfl
theorem rq_X6_copyFrom_1 {lo : Lo} {st : List Value} {h : Hp} {Q : Option Value → Hp → Prop} : Run 33 1 lo st h Q = Cnt 33 Q (xo_istore 2 2 lo st h) := run_s rfl
theorem rq_X6_copyFrom_2 {lo : Lo} {st : List Value} {h : Hp} {Q : Option Value → Hp → Prop} : Run 33 2 lo st h Q = Cnt 33 Q (xo_iload 2 3 lo st h) := run_s rfl
theorem rq_X6_copyFrom_3 {lo : Lo} {st : List Value} {h : Hp} {Q : Option Value → Hp → Prop} : Run 33 3 lo st h Q = Cnt 33 Q (xo_const (.int 6) 5 lo st h) := run_s rfl
theorem rq_X6_copyFrom_5 {lo : Lo} {st : List Value} {h : Hp} {Q : Option Value → Hp → Prop} : Run 33 5 lo st h Q = Cnt 33 Q (xo_if2 (fun x y => decide (x ≥ y)) 26 8 lo st h) := run_s rfl
theorem rq_X6_copyFrom_8 {lo : Lo} {st : List Value} {h : Hp} {Q : Option Value → Hp → Prop} : Run 33 8 lo st h Q = Cnt 33 Q (xo_aload 0 9 lo st h) := run_s rfl
theorem rq_X6_copyFrom_9 {lo : Lo} {st : List Value} {h : Hp} {Q : Option Value → Hp → Prop} : Run 33 9 lo st h Q = Cnt 33 Q (xo_getf 6 0 12 lo st h) := run_s rfl
theorem rq_X6_copyFrom_12 {lo : Lo} {st : List Value} {h : Hp} {Q : Option Value → Hp → Prop} : Run 33 12 lo st h Q = Cnt 33 Q (xo_iload 2 13 lo st h) := run_s rfl
theorem rq_X6_copyFrom_13 {lo : Lo} {st : List Value} {h : Hp} {Q : Option Value → Hp → Prop} : Run 33 13 lo st h Q = Cnt 33 Q (xo_aload 1 14 lo st h) := run_s rfl
theorem rq_X6_copyFrom_14 {lo : Lo} {st : List Value} {h : Hp} {Q : Option Value → Hp → Prop} : Run 33 14 lo st h Q = Cnt 33 Q (xo_getf 6 0 17 lo st h) := run_s rfl
theorem rq_X6_copyFrom_17 {lo : Lo} {st : List Value} {h : Hp} {Q : Option Value → Hp → Prop} : Run 33 17 lo st h Q = Cnt 33 Q (xo_iload 2 18 lo st h) := run_s rfl
theorem rq_X6_copyFrom_18 {lo : Lo} {st : List Value} {h : Hp} {Q : Option Value → Hp → Prop} : Run 33 18 lo st h Q = Cnt 33 Q (xo_aald 19 lo st h) := run_s rfl
theorem rq_X6_copyFrom_19 {lo : Lo} {st : List Value} {h : Hp} {Q : Option Value → Hp → Prop} : Run 33 19 lo st h Q = Cnt 33 Q (xo_aast 20 lo st h) := run_s rfl
theorem rq_X6_copyFrom_20 {lo : Lo} {st : List Value} {h : Hp} {Q : Option Value → Hp → Prop} : Run 33 20 lo st h Q = Cnt 33 Q (xo_iinc 2 1 23 lo st h) := run_s rfl
theorem rq_X6_copyFrom_23 {lo : Lo} {st : List Value} {h : Hp} {Q : Option Value → Hp → Prop} : Run 33 23 lo st h Q = Cnt 33 Q (xo_goto 2 lo st h) := run_s rfl
theorem rq_X6_copyFrom_26 {lo : Lo} {st : List Value} {h : Hp} {Q : Option Value → Hp → Prop} : Run 33 26 lo st h Q = Cnt 33 Q (xo_aload 0 27 lo st h) := run_s rfl
theorem rq_X6_copyFrom_27 {lo : Lo} {st : List Value} {h : Hp} {Q : Option Value → Hp → Prop} : Run 33 27 lo st h Q = Cnt 33 Q (xo_aload 1 28 lo st h) := run_s rfl
theorem rq_X6_copyFrom_28 {lo : Lo} {st : List Value} {h : Hp} {Q : Option Value → Hp → Prop} : Run 33 28 lo st h Q = Cnt 33 Q (xo_getf 6 1 31 lo st h) := run_s rfl
theorem rq_X6_copyFrom_31 {lo : Lo} {st : List Value} {h : Hp} {Q : Option Value → Hp → Prop} : Run 33 31 lo st h Q = Cnt 33 Q (xo_putf 6 1 true 34 lo st h) := run_s rfl
theorem rq_X6_copyFrom_34 {lo : Lo} {st : List Value} {h : Hp} {Q : Option Value → Hp → Prop} : Run 33 34 lo st h Q = Cnt 33 Q (xo_vret lo st h) := run_s rfl
theorem rq_X6_gatherInk_0 {lo : Lo} {st : List Value} {h : Hp} {Q : Option Value → Hp → Prop} : Run 34 0 lo st h Q = Cnt 34 Q (xo_aload 1 1 lo st h) := run_s rfl
theorem rq_X6_gatherInk_1 {lo : Lo} {st : List Value} {h : Hp} {Q : Option Value → Hp → Prop} : Run 34 1 lo st h Q = Cnt 34 Q (xo_const (.int 0) 2 lo st h) := run_s rfl
theorem rq_X6_gatherInk_2 {lo : Lo} {st : List Value} {h : Hp} {Q : Option Value → Hp → Prop} : Run 34 2 lo st h Q = CCall 194 2 none st h (Knt 34 5 lo (st.drop 2) Q) := run_c rfl
theorem rq_X6_gatherInk_5 {lo : Lo} {st : List Value} {h : Hp} {Q : Option Value → Hp → Prop} : Run 34 5 lo st h Q = Cnt 34 Q (xo_aload 0 6 lo st h) := run_s rfl
theorem rq_X6_gatherInk_6 {lo : Lo} {st : List Value} {h : Hp} {Q : Option Value → Hp → Prop} : Run 34 6 lo st h Q = Cnt 34 Q (xo_getf 6 0 9 lo st h) := run_s rfl
theorem rq_X6_gatherInk_9 {lo : Lo} {st : List Value} {h : Hp} {Q : Option Value → Hp → Prop} : Run 34 9 lo st h Q = Cnt 34 Q (xo_astore 2 10 lo st h) := run_s rfl
theorem rq_X6_gatherInk_10 {lo : Lo} {st : List Value} {h : Hp} {Q : Option Value → Hp → Prop} : Run 34 10 lo st h Q = Cnt 34 Q (xo_aload 2 11 lo st h) := run_s rfl
theorem rq_X6_gatherInk_11 {lo : Lo} {st : List Value} {h : Hp} {Q : Option Value → Hp → Prop} : Run 34 11 lo st h Q = Cnt 34 Q (xo_alen 12 lo st h) := run_s rfl
theorem rq_X6_gatherInk_12 {lo : Lo} {st : List Value} {h : Hp} {Q : Option Value → Hp → Prop} : Run 34 12 lo st h Q = Cnt 34 Q (xo_istore 3 13 lo st h) := run_s rfl
theorem rq_X6_gatherInk_13 {lo : Lo} {st : List Value} {h : Hp} {Q : Option Value → Hp → Prop} : Run 34 13 lo st h Q = Cnt 34 Q (xo_const (.int 0) 14 lo st h) := run_s rfl
theorem rq_X6_gatherInk_14 {lo : Lo} {st : List Value} {h : Hp} {Q : Option Value → Hp → Prop} : Run 34 14 lo st h Q = Cnt 34 Q (xo_istore 4 16 lo st h) := run_s rfl
theorem rq_X6_gatherInk_16 {lo : Lo} {st : List Value} {h : Hp} {Q : Option Value → Hp → Prop} : Run 34 16 lo st h Q = Cnt 34 Q (xo_iload 4 18 lo st h) := run_s rfl
theorem rq_X6_gatherInk_18 {lo : Lo} {st : List Value} {h : Hp} {Q : Option Value → Hp → Prop} : Run 34 18 lo st h Q = Cnt 34 Q (xo_iload 3 19 lo st h) := run_s rfl
theorem rq_X6_gatherInk_19 {lo : Lo} {st : List Value} {h : Hp} {Q : Option Value → Hp → Prop} : Run 34 19 lo st h Q = Cnt 34 Q (xo_if2 (fun x y => decide (x ≥ y)) 45 22 lo st h) := run_s rfl
theorem rq_X6_gatherInk_22 {lo : Lo} {st : List Value} {h : Hp} {Q : Option Value → Hp → Prop} : Run 34 22 lo st h Q = Cnt 34 Q (xo_aload 2 23 lo st h) := run_s rfl
theorem rq_X6_gatherInk_23 {lo : Lo} {st : List Value} {h : Hp} {Q : Option Value → Hp → Prop} : Run 34 23 lo st h Q = Cnt 34 Q (xo_iload 4 25 lo st h) := run_s rfl
theorem rq_X6_gatherInk_25 {lo : Lo} {st : List Value} {h : Hp} {Q : Option Value → Hp → Prop} : Run 34 25 lo st h Q = Cnt 34 Q (xo_aald 26 lo st h) := run_s rfl
theorem rq_X6_gatherInk_26 {lo : Lo} {st : List Value} {h : Hp} {Q : Option Value → Hp → Prop} : Run 34 26 lo st h Q = Cnt 34 Q (xo_astore 5 28 lo st h) := run_s rfl
theorem rq_X6_gatherInk_28 {lo : Lo} {st : List Value} {h : Hp} {Q : Option Value → Hp → Prop} : Run 34 28 lo st h Q = Cnt 34 Q (xo_aload 5 30 lo st h) := run_s rfl
theorem rq_X6_gatherInk_30 {lo : Lo} {st : List Value} {h : Hp} {Q : Option Value → Hp → Prop} : Run 34 30 lo st h Q = Cnt 34 Q (xo_null 39 33 lo st h) := run_s rfl
theorem rq_X6_gatherInk_33 {lo : Lo} {st : List Value} {h : Hp} {Q : Option Value → Hp → Prop} : Run 34 33 lo st h Q = Cnt 34 Q (xo_aload 5 35 lo st h) := run_s rfl
theorem rq_X6_gatherInk_35 {lo : Lo} {st : List Value} {h : Hp} {Q : Option Value → Hp → Prop} : Run 34 35 lo st h Q = Cnt 34 Q (xo_aload 1 36 lo st h) := run_s rfl
theorem rq_X6_gatherInk_36 {lo : Lo} {st : List Value} {h : Hp} {Q : Option Value → Hp → Prop} : Run 34 36 lo st h Q = CCall 61 2 (some 8) st h (Knt 34 39 lo (st.drop 2) Q) := run_c rfl
theorem rq_X6_gatherInk_39 {lo : Lo} {st : List Value} {h : Hp} {Q : Option Value → Hp → Prop} : Run 34 39 lo st h Q = Cnt 34 Q (xo_iinc 4 1 42 lo st h) := run_s rfl
theorem rq_X6_gatherInk_42 {lo : Lo} {st : List Value} {h : Hp} {Q : Option Value → Hp → Prop} : Run 34 42 lo st h Q = Cnt 34 Q (xo_goto 16 lo st h) := run_s rfl
theorem rq_X6_gatherInk_45 {lo : Lo} {st : List Value} {h : Hp} {Q : Option Value → Hp → Prop} : Run 34 45 lo st h Q = Cnt 34 Q (xo_vret lo st h) := run_s rfl
theorem rq_X6_countSteps_0 {lo : Lo} {st : List Value} {h : Hp} {Q : Option Value → Hp → Prop} : Run 35 0 lo st h Q = Cnt 35 Q (xo_const (.int 0) 1 lo st h) := run_s rfl
theorem rq_X6_countSteps_1 {lo : Lo} {st : List Value} {h : Hp} {Q : Option Value → Hp → Prop} : Run 35 1 lo st h Q = Cnt 35 Q (xo_istore 1 2 lo st h) := run_s rfl
theorem rq_X6_countSteps_2 {lo : Lo} {st : List Value} {h : Hp} {Q : Option Value → Hp → Prop} : Run 35 2 lo st h Q = Cnt 35 Q (xo_aload 0 3 lo st h) := run_s rfl
theorem rq_X6_countSteps_3 {lo : Lo} {st : List Value} {h : Hp} {Q : Option Value → Hp → Prop} : Run 35 3 lo st h Q = Cnt 35 Q (xo_getf 6 0 6 lo st h) := run_s rfl
theorem rq_X6_countSteps_6 {lo : Lo} {st : List Value} {h : Hp} {Q : Option Value → Hp → Prop} : Run 35 6 lo st h Q = Cnt 35 Q (xo_astore 2 7 lo st h) := run_s rfl
theorem rq_X6_countSteps_7 {lo : Lo} {st : List Value} {h : Hp} {Q : Option Value → Hp → Prop} : Run 35 7 lo st h Q = Cnt 35 Q (xo_aload 2 8 lo st h) := run_s rfl
theorem rq_X6_countSteps_8 {lo : Lo} {st : List Value} {h : Hp} {Q : Option Value → Hp → Prop} : Run 35 8 lo st h Q = Cnt 35 Q (xo_alen 9 lo st h) := run_s rfl
theorem rq_X6_countSteps_9 {lo : Lo} {st : List Value} {h : Hp} {Q : Option Value → Hp → Prop} : Run 35 9 lo st h Q = Cnt 35 Q (xo_istore 3 10 lo st h) := run_s rfl
theorem rq_X6_countSteps_10 {lo : Lo} {st : List Value} {h : Hp} {Q : Option Value → Hp → Prop} : Run 35 10 lo st h Q = Cnt 35 Q (xo_const (.int 0) 11 lo st h) := run_s rfl
theorem rq_X6_countSteps_11 {lo : Lo} {st : List Value} {h : Hp} {Q : Option Value → Hp → Prop} : Run 35 11 lo st h Q = Cnt 35 Q (xo_istore 4 13 lo st h) := run_s rfl
theorem rq_X6_countSteps_13 {lo : Lo} {st : List Value} {h : Hp} {Q : Option Value → Hp → Prop} : Run 35 13 lo st h Q = Cnt 35 Q (xo_iload 4 15 lo st h) := run_s rfl
theorem rq_X6_countSteps_15 {lo : Lo} {st : List Value} {h : Hp} {Q : Option Value → Hp → Prop} : Run 35 15 lo st h Q = Cnt 35 Q (xo_iload 3 16 lo st h) := run_s rfl
theorem rq_X6_countSteps_16 {lo : Lo} {st : List Value} {h : Hp} {Q : Option Value → Hp → Prop} : Run 35 16 lo st h Q = Cnt 35 Q (xo_if2 (fun x y => decide (x ≥ y)) 44 19 lo st h) := run_s rfl
theorem rq_X6_countSteps_19 {lo : Lo} {st : List Value} {h : Hp} {Q : Option Value → Hp → Prop} : Run 35 19 lo st h Q = Cnt 35 Q (xo_aload 2 20 lo st h) := run_s rfl
theorem rq_X6_countSteps_20 {lo : Lo} {st : List Value} {h : Hp} {Q : Option Value → Hp → Prop} : Run 35 20 lo st h Q = Cnt 35 Q (xo_iload 4 22 lo st h) := run_s rfl
theorem rq_X6_countSteps_22 {lo : Lo} {st : List Value} {h : Hp} {Q : Option Value → Hp → Prop} : Run 35 22 lo st h Q = Cnt 35 Q (xo_aald 23 lo st h) := run_s rfl
theorem rq_X6_countSteps_23 {lo : Lo} {st : List Value} {h : Hp} {Q : Option Value → Hp → Prop} : Run 35 23 lo st h Q = Cnt 35 Q (xo_astore 5 25 lo st h) := run_s rfl
theorem rq_X6_countSteps_25 {lo : Lo} {st : List Value} {h : Hp} {Q : Option Value → Hp → Prop} : Run 35 25 lo st h Q = Cnt 35 Q (xo_aload 5 27 lo st h) := run_s rfl
theorem rq_X6_countSteps_27 {lo : Lo} {st : List Value} {h : Hp} {Q : Option Value → Hp → Prop} : Run 35 27 lo st h Q = Cnt 35 Q (xo_null 38 30 lo st h) := run_s rfl
theorem rq_X6_countSteps_30 {lo : Lo} {st : List Value} {h : Hp} {Q : Option Value → Hp → Prop} : Run 35 30 lo st h Q = Cnt 35 Q (xo_iload 1 31 lo st h) := run_s rfl
theorem rq_X6_countSteps_31 {lo : Lo} {st : List Value} {h : Hp} {Q : Option Value → Hp → Prop} : Run 35 31 lo st h Q = Cnt 35 Q (xo_aload 5 33 lo st h) := run_s rfl
theorem rq_X6_countSteps_33 {lo : Lo} {st : List Value} {h : Hp} {Q : Option Value → Hp → Prop} : Run 35 33 lo st h Q = CCall 47 1 (some 8) st h (Knt 35 36 lo (st.drop 1) Q) := run_c rfl
theorem rq_X6_countSteps_36 {lo : Lo} {st : List Value} {h : Hp} {Q : Option Value → Hp → Prop} : Run 35 36 lo st h Q = Cnt 35 Q (xo_bin (fun x y => x + y) 37 lo st h) := run_s rfl
theorem rq_X6_countSteps_37 {lo : Lo} {st : List Value} {h : Hp} {Q : Option Value → Hp → Prop} : Run 35 37 lo st h Q = Cnt 35 Q (xo_istore 1 38 lo st h) := run_s rfl
theorem rq_X6_countSteps_38 {lo : Lo} {st : List Value} {h : Hp} {Q : Option Value → Hp → Prop} : Run 35 38 lo st h Q = Cnt 35 Q (xo_iinc 4 1 41 lo st h) := run_s rfl
theorem rq_X6_countSteps_41 {lo : Lo} {st : List Value} {h : Hp} {Q : Option Value → Hp → Prop} : Run 35 41 lo st h Q = Cnt 35 Q (xo_goto 13 lo st h) := run_s rfl
theorem rq_X6_countSteps_44 {lo : Lo} {st : List Value} {h : Hp} {Q : Option Value → Hp → Prop} : Run 35 44 lo st h Q = Cnt 35 Q (xo_iload 1 45 lo st h) := run_s rfl
theorem rq_X6_countSteps_45 {lo : Lo} {st : List Value} {h : Hp} {Q : Option Value → Hp → Prop} : Run 35 45 lo st h Q = Cnt 35 Q (xo_iret lo st h) := run_s rfl
theorem rq_X6_countWrong_0 {lo : Lo} {st : List Value} {h : Hp} {Q : Option Value → Hp → Prop} : Run 36 0 lo st h Q = Cnt 36 Q (xo_const (.int 0) 1 lo st h) := run_s rfl
theorem rq_X6_countWrong_1 {lo : Lo} {st : List Value} {h : Hp} {Q : Option Value → Hp → Prop} : Run 36 1 lo st h Q = Cnt 36 Q (xo_istore 2 2 lo st h) := run_s rfl
theorem rq_X6_countWrong_2 {lo : Lo} {st : List Value} {h : Hp} {Q : Option Value → Hp → Prop} : Run 36 2 lo st h Q = Cnt 36 Q (xo_aload 0 3 lo st h) := run_s rfl
theorem rq_X6_countWrong_3 {lo : Lo} {st : List Value} {h : Hp} {Q : Option Value → Hp → Prop} : Run 36 3 lo st h Q = Cnt 36 Q (xo_getf 6 0 6 lo st h) := run_s rfl
theorem rq_X6_countWrong_6 {lo : Lo} {st : List Value} {h : Hp} {Q : Option Value → Hp → Prop} : Run 36 6 lo st h Q = Cnt 36 Q (xo_astore 3 7 lo st h) := run_s rfl
theorem rq_X6_countWrong_7 {lo : Lo} {st : List Value} {h : Hp} {Q : Option Value → Hp → Prop} : Run 36 7 lo st h Q = Cnt 36 Q (xo_aload 3 8 lo st h) := run_s rfl
theorem rq_X6_countWrong_8 {lo : Lo} {st : List Value} {h : Hp} {Q : Option Value → Hp → Prop} : Run 36 8 lo st h Q = Cnt 36 Q (xo_alen 9 lo st h) := run_s rfl
theorem rq_X6_countWrong_9 {lo : Lo} {st : List Value} {h : Hp} {Q : Option Value → Hp → Prop} : Run 36 9 lo st h Q = Cnt 36 Q (xo_istore 4 11 lo st h) := run_s rfl
theorem rq_X6_countWrong_11 {lo : Lo} {st : List Value} {h : Hp} {Q : Option Value → Hp → Prop} : Run 36 11 lo st h Q = Cnt 36 Q (xo_const (.int 0) 12 lo st h) := run_s rfl
theorem rq_X6_countWrong_12 {lo : Lo} {st : List Value} {h : Hp} {Q : Option Value → Hp → Prop} : Run 36 12 lo st h Q = Cnt 36 Q (xo_istore 5 14 lo st h) := run_s rfl
theorem rq_X6_countWrong_14 {lo : Lo} {st : List Value} {h : Hp} {Q : Option Value → Hp → Prop} : Run 36 14 lo st h Q = Cnt 36 Q (xo_iload 5 16 lo st h) := run_s rfl
theorem rq_X6_countWrong_16 {lo : Lo} {st : List Value} {h : Hp} {Q : Option Value → Hp → Prop} : Run 36 16 lo st h Q = Cnt 36 Q (xo_iload 4 18 lo st h) := run_s rfl
theorem rq_X6_countWrong_18 {lo : Lo} {st : List Value} {h : Hp} {Q : Option Value → Hp → Prop} : Run 36 18 lo st h Q = Cnt 36 Q (xo_if2 (fun x y => decide (x ≥ y)) 57 21 lo st h) := run_s rfl
theorem rq_X6_countWrong_21 {lo : Lo} {st : List Value} {h : Hp} {Q : Option Value → Hp → Prop} : Run 36 21 lo st h Q = Cnt 36 Q (xo_aload 3 22 lo st h) := run_s rfl
theorem rq_X6_countWrong_22 {lo : Lo} {st : List Value} {h : Hp} {Q : Option Value → Hp → Prop} : Run 36 22 lo st h Q = Cnt 36 Q (xo_iload 5 24 lo st h) := run_s rfl
theorem rq_X6_countWrong_24 {lo : Lo} {st : List Value} {h : Hp} {Q : Option Value → Hp → Prop} : Run 36 24 lo st h Q = Cnt 36 Q (xo_aald 25 lo st h) := run_s rfl
theorem rq_X6_countWrong_25 {lo : Lo} {st : List Value} {h : Hp} {Q : Option Value → Hp → Prop} : Run 36 25 lo st h Q = Cnt 36 Q (xo_astore 6 27 lo st h) := run_s rfl
theorem rq_X6_countWrong_27 {lo : Lo} {st : List Value} {h : Hp} {Q : Option Value → Hp → Prop} : Run 36 27 lo st h Q = Cnt 36 Q (xo_aload 6 29 lo st h) := run_s rfl
theorem rq_X6_countWrong_29 {lo : Lo} {st : List Value} {h : Hp} {Q : Option Value → Hp → Prop} : Run 36 29 lo st h Q = Cnt 36 Q (xo_null 51 32 lo st h) := run_s rfl
theorem rq_X6_countWrong_32 {lo : Lo} {st : List Value} {h : Hp} {Q : Option Value → Hp → Prop} : Run 36 32 lo st h Q = Cnt 36 Q (xo_iload 2 33 lo st h) := run_s rfl
theorem rq_X6_countWrong_33 {lo : Lo} {st : List Value} {h : Hp} {Q : Option Value → Hp → Prop} : Run 36 33 lo st h Q = Cnt 36 Q (xo_aload 6 35 lo st h) := run_s rfl
theorem rq_X6_countWrong_35 {lo : Lo} {st : List Value} {h : Hp} {Q : Option Value → Hp → Prop} : Run 36 35 lo st h Q = Cnt 36 Q (xo_aload 6 37 lo st h) := run_s rfl
theorem rq_X6_countWrong_37 {lo : Lo} {st : List Value} {h : Hp} {Q : Option Value → Hp → Prop} : Run 36 37 lo st h Q = Cnt 36 Q (xo_getf 8 1 40 lo st h) := run_s rfl
theorem rq_X6_countWrong_40 {lo : Lo} {st : List Value} {h : Hp} {Q : Option Value → Hp → Prop} : Run 36 40 lo st h Q = Cnt 36 Q (xo_aload 6 42 lo st h) := run_s rfl
theorem rq_X6_countWrong_42 {lo : Lo} {st : List Value} {h : Hp} {Q : Option Value → Hp → Prop} : Run 36 42 lo st h Q = Cnt 36 Q (xo_getf 8 2 45 lo st h) := run_s rfl
theorem rq_X6_countWrong_45 {lo : Lo} {st : List Value} {h : Hp} {Q : Option Value → Hp → Prop} : Run 36 45 lo st h Q = Cnt 36 Q (xo_iload 1 46 lo st h) := run_s rfl
theorem rq_X6_countWrong_46 {lo : Lo} {st : List Value} {h : Hp} {Q : Option Value → Hp → Prop} : Run 36 46 lo st h Q = CCall 55 4 (some 8) st h (Knt 36 49 lo (st.drop 4) Q) := run_c rfl
theorem rq_X6_countWrong_49 {lo : Lo} {st : List Value} {h : Hp} {Q : Option Value → Hp → Prop} : Run 36 49 lo st h Q = Cnt 36 Q (xo_bin (fun x y => x + y) 50 lo st h) := run_s rfl
theorem rq_X6_countWrong_50 {lo : Lo} {st : List Value} {h : Hp} {Q : Option Value → Hp → Prop} : Run 36 50 lo st h Q = Cnt 36 Q (xo_istore 2 51 lo st h) := run_s rfl
theorem rq_X6_countWrong_51 {lo : Lo} {st : List Value} {h : Hp} {Q : Option Value → Hp → Prop} : Run 36 51 lo st h Q = Cnt 36 Q (xo_iinc 5 1 54 lo st h) := run_s rfl
theorem rq_X6_countWrong_54 {lo : Lo} {st : List Value} {h : Hp} {Q : Option Value → Hp → Prop} : Run 36 54 lo st h Q = Cnt 36 Q (xo_goto 14 lo st h) := run_s rfl
theorem rq_X6_countWrong_57 {lo : Lo} {st : List Value} {h : Hp} {Q : Option Value → Hp → Prop} : Run 36 57 lo st h Q = Cnt 36 Q (xo_iload 2 58 lo st h) := run_s rfl
theorem rq_X6_countWrong_58 {lo : Lo} {st : List Value} {h : Hp} {Q : Option Value → Hp → Prop} : Run 36 58 lo st h Q = Cnt 36 Q (xo_iret lo st h) := run_s rfl
theorem rq_X6_countWrongWithNib_0 {lo : Lo} {st : List Value} {h : Hp} {Q : Option Value → Hp → Prop} : Run 37 0 lo st h Q = Cnt 37 Q (xo_const (.int 0) 1 lo st h) := run_s rfl
theorem rq_X6_countWrongWithNib_1 {lo : Lo} {st : List Value} {h : Hp} {Q : Option Value → Hp → Prop} : Run 37 1 lo st h Q = Cnt 37 Q (xo_istore 4 3 lo st h) := run_s rfl
theorem rq_X6_countWrongWithNib_3 {lo : Lo} {st : List Value} {h : Hp} {Q : Option Value → Hp → Prop} : Run 37 3 lo st h Q = Cnt 37 Q (xo_aload 0 4 lo st h) := run_s rfl
theorem rq_X6_countWrongWithNib_4 {lo : Lo} {st : List Value} {h : Hp} {Q : Option Value → Hp → Prop} : Run 37 4 lo st h Q = Cnt 37 Q (xo_getf 6 0 7 lo st h) := run_s rfl
theorem rq_X6_countWrongWithNib_7 {lo : Lo} {st : List Value} {h : Hp} {Q : Option Value → Hp → Prop} : Run 37 7 lo st h Q = Cnt 37 Q (xo_astore 5 9 lo st h) := run_s rfl
theorem rq_X6_countWrongWithNib_9 {lo : Lo} {st : List Value} {h : Hp} {Q : Option Value → Hp → Prop} : Run 37 9 lo st h Q = Cnt 37 Q (xo_aload 5 11 lo st h) := run_s rfl
theorem rq_X6_countWrongWithNib_11 {lo : Lo} {st : List Value} {h : Hp} {Q : Option Value → Hp → Prop} : Run 37 11 lo st h Q = Cnt 37 Q (xo_alen 12 lo st h) := run_s rfl
theorem rq_X6_countWrongWithNib_12 {lo : Lo} {st : List Value} {h : Hp} {Q : Option Value → Hp → Prop} : Run 37 12 lo st h Q = Cnt 37 Q (xo_istore 6 14 lo st h) := run_s rfl
theorem rq_X6_countWrongWithNib_14 {lo : Lo} {st : List Value} {h : Hp} {Q : Option Value → Hp → Prop} : Run 37 14 lo st h Q = Cnt 37 Q (xo_const (.int 0) 15 lo st h) := run_s rfl
theorem rq_X6_countWrongWithNib_15 {lo : Lo} {st : List Value} {h : Hp} {Q : Option Value → Hp → Prop} : Run 37 15 lo st h Q = Cnt 37 Q (xo_istore 7 17 lo st h) := run_s rfl
theorem rq_X6_countWrongWithNib_17 {lo : Lo} {st : List Value} {h : Hp} {Q : Option Value → Hp → Prop} : Run 37 17 lo st h Q = Cnt 37 Q (xo_iload 7 19 lo st h) := run_s rfl
theorem rq_X6_countWrongWithNib_19 {lo : Lo} {st : List Value} {h : Hp} {Q : Option Value → Hp → Prop} : Run 37 19 lo st h Q = Cnt 37 Q (xo_iload 6 21 lo st h) := run_s rfl
theorem rq_X6_countWrongWithNib_21 {lo : Lo} {st : List Value} {h : Hp} {Q : Option Value → Hp → Prop} : Run 37 21 lo st h Q = Cnt 37 Q (xo_if2 (fun x y => decide (x ≥ y)) 55 24 lo st h) := run_s rfl
theorem rq_X6_countWrongWithNib_24 {lo : Lo} {st : List Value} {h : Hp} {Q : Option Value → Hp → Prop} : Run 37 24 lo st h Q = Cnt 37 Q (xo_aload 5 26 lo st h) := run_s rfl
theorem rq_X6_countWrongWithNib_26 {lo : Lo} {st : List Value} {h : Hp} {Q : Option Value → Hp → Prop} : Run 37 26 lo st h Q = Cnt 37 Q (xo_iload 7 28 lo st h) := run_s rfl
theorem rq_X6_countWrongWithNib_28 {lo : Lo} {st : List Value} {h : Hp} {Q : Option Value → Hp → Prop} : Run 37 28 lo st h Q = Cnt 37 Q (xo_aald 29 lo st h) := run_s rfl
theorem rq_X6_countWrongWithNib_29 {lo : Lo} {st : List Value} {h : Hp} {Q : Option Value → Hp → Prop} : Run 37 29 lo st h Q = Cnt 37 Q (xo_astore 8 31 lo st h) := run_s rfl
theorem rq_X6_countWrongWithNib_31 {lo : Lo} {st : List Value} {h : Hp} {Q : Option Value → Hp → Prop} : Run 37 31 lo st h Q = Cnt 37 Q (xo_aload 8 33 lo st h) := run_s rfl
theorem rq_X6_countWrongWithNib_33 {lo : Lo} {st : List Value} {h : Hp} {Q : Option Value → Hp → Prop} : Run 37 33 lo st h Q = Cnt 37 Q (xo_null 49 36 lo st h) := run_s rfl
theorem rq_X6_countWrongWithNib_36 {lo : Lo} {st : List Value} {h : Hp} {Q : Option Value → Hp → Prop} : Run 37 36 lo st h Q = Cnt 37 Q (xo_iload 4 38 lo st h) := run_s rfl
theorem rq_X6_countWrongWithNib_38 {lo : Lo} {st : List Value} {h : Hp} {Q : Option Value → Hp → Prop} : Run 37 38 lo st h Q = Cnt 37 Q (xo_aload 8 40 lo st h) := run_s rfl
theorem rq_X6_countWrongWithNib_40 {lo : Lo} {st : List Value} {h : Hp} {Q : Option Value → Hp → Prop} : Run 37 40 lo st h Q = Cnt 37 Q (xo_iload 1 41 lo st h) := run_s rfl
theorem rq_X6_countWrongWithNib_41 {lo : Lo} {st : List Value} {h : Hp} {Q : Option Value → Hp → Prop} : Run 37 41 lo st h Q = Cnt 37 Q (xo_iload 2 42 lo st h) := run_s rfl
theorem rq_X6_countWrongWithNib_42 {lo : Lo} {st : List Value} {h : Hp} {Q : Option Value → Hp → Prop} : Run 37 42 lo st h Q = Cnt 37 Q (xo_iload 3 43 lo st h) := run_s rfl
theorem rq_X6_countWrongWithNib_43 {lo : Lo} {st : List Value} {h : Hp} {Q : Option Value → Hp → Prop} : Run 37 43 lo st h Q = CCall 55 4 (some 8) st h (Knt 37 46 lo (st.drop 4) Q) := run_c rfl
theorem rq_X6_countWrongWithNib_46 {lo : Lo} {st : List Value} {h : Hp} {Q : Option Value → Hp → Prop} : Run 37 46 lo st h Q = Cnt 37 Q (xo_bin (fun x y => x + y) 47 lo st h) := run_s rfl
theorem rq_X6_countWrongWithNib_47 {lo : Lo} {st : List Value} {h : Hp} {Q : Option Value → Hp → Prop} : Run 37 47 lo st h Q = Cnt 37 Q (xo_istore 4 49 lo st h) := run_s rfl
theorem rq_X6_countWrongWithNib_49 {lo : Lo} {st : List Value} {h : Hp} {Q : Option Value → Hp → Prop} : Run 37 49 lo st h Q = Cnt 37 Q (xo_iinc 7 1 52 lo st h) := run_s rfl
theorem rq_X6_countWrongWithNib_52 {lo : Lo} {st : List Value} {h : Hp} {Q : Option Value → Hp → Prop} : Run 37 52 lo st h Q = Cnt 37 Q (xo_goto 17 lo st h) := run_s rfl
theorem rq_X6_countWrongWithNib_55 {lo : Lo} {st : List Value} {h : Hp} {Q : Option Value → Hp → Prop} : Run 37 55 lo st h Q = Cnt 37 Q (xo_iload 4 57 lo st h) := run_s rfl
theorem rq_X6_countWrongWithNib_57 {lo : Lo} {st : List Value} {h : Hp} {Q : Option Value → Hp → Prop} : Run 37 57 lo st h Q = Cnt 37 Q (xo_iret lo st h) := run_s rfl
theorem rq_X7_init_0 {lo : Lo} {st : List Value} {h : Hp} {Q : Option Value → Hp → Prop} : Run 38 0 lo st h Q = Cnt 38 Q (xo_aload 0 1 lo st h) := run_s rfl
theorem rq_X7_init_1 {lo : Lo} {st : List Value} {h : Hp} {Q : Option Value → Hp → Prop} : Run 38 1 lo st h Q = Cnt 38 Q (xo_oinit 4 lo st h) := run_s rfl
theorem rq_X7_init_4 {lo : Lo} {st : List Value} {h : Hp} {Q : Option Value → Hp → Prop} : Run 38 4 lo st h Q = Cnt 38 Q (xo_aload 0 5 lo st h) := run_s rfl
theorem rq_X7_init_5 {lo : Lo} {st : List Value} {h : Hp} {Q : Option Value → Hp → Prop} : Run 38 5 lo st h Q = Cnt 38 Q (xo_const (.int 26) 7 lo st h) := run_s rfl
theorem rq_X7_init_7 {lo : Lo} {st : List Value} {h : Hp} {Q : Option Value → Hp → Prop} : Run 38 7 lo st h Q = Cnt 38 Q (xo_newr 4 10 lo st h) := run_s rfl
theorem rq_X7_init_10 {lo : Lo} {st : List Value} {h : Hp} {Q : Option Value → Hp → Prop} : Run 38 10 lo st h Q = Cnt 38 Q (xo_putf 7 0 false 13 lo st h) := run_s rfl
theorem rq_X7_init_13 {lo : Lo} {st : List Value} {h : Hp} {Q : Option Value → Hp → Prop} : Run 38 13 lo st h Q = Cnt 38 Q (xo_aload 0 14 lo st h) := run_s rfl
theorem rq_X7_init_14 {lo : Lo} {st : List Value} {h : Hp} {Q : Option Value → Hp → Prop} : Run 38 14 lo st h Q = Cnt 38 Q (xo_const (.int 0) 15 lo st h) := run_s rfl
theorem rq_X7_init_15 {lo : Lo} {st : List Value} {h : Hp} {Q : Option Value → Hp → Prop} : Run 38 15 lo st h Q = Cnt 38 Q (xo_putf 7 1 true 18 lo st h) := run_s rfl
theorem rq_X7_init_18 {lo : Lo} {st : List Value} {h : Hp} {Q : Option Value → Hp → Prop} : Run 38 18 lo st h Q = Cnt 38 Q (xo_vret lo st h) := run_s rfl
theorem rq_X7_at_0 {lo : Lo} {st : List Value} {h : Hp} {Q : Option Value → Hp → Prop} : Run 39 0 lo st h Q = Cnt 39 Q (xo_iload 1 1 lo st h) := run_s rfl
theorem rq_X7_at_1 {lo : Lo} {st : List Value} {h : Hp} {Q : Option Value → Hp → Prop} : Run 39 1 lo st h Q = Cnt 39 Q (xo_const (.int 0) 2 lo st h) := run_s rfl
theorem rq_X7_at_2 {lo : Lo} {st : List Value} {h : Hp} {Q : Option Value → Hp → Prop} : Run 39 2 lo st h Q = Cnt 39 Q (xo_const (.int 25) 4 lo st h) := run_s rfl
theorem rq_X7_at_4 {lo : Lo} {st : List Value} {h : Hp} {Q : Option Value → Hp → Prop} : Run 39 4 lo st h Q = CCall 98 3 none st h (Knt 39 7 lo (st.drop 3) Q) := run_c rfl
theorem rq_X7_at_7 {lo : Lo} {st : List Value} {h : Hp} {Q : Option Value → Hp → Prop} : Run 39 7 lo st h Q = Cnt 39 Q (xo_if1 (fun x => decide (x = 0)) 19 10 lo st h) := run_s rfl
theorem rq_X7_at_10 {lo : Lo} {st : List Value} {h : Hp} {Q : Option Value → Hp → Prop} : Run 39 10 lo st h Q = Cnt 39 Q (xo_aload 0 11 lo st h) := run_s rfl
theorem rq_X7_at_11 {lo : Lo} {st : List Value} {h : Hp} {Q : Option Value → Hp → Prop} : Run 39 11 lo st h Q = Cnt 39 Q (xo_getf 7 0 14 lo st h) := run_s rfl
theorem rq_X7_at_14 {lo : Lo} {st : List Value} {h : Hp} {Q : Option Value → Hp → Prop} : Run 39 14 lo st h Q = Cnt 39 Q (xo_iload 1 15 lo st h) := run_s rfl
theorem rq_X7_at_15 {lo : Lo} {st : List Value} {h : Hp} {Q : Option Value → Hp → Prop} : Run 39 15 lo st h Q = Cnt 39 Q (xo_aald 16 lo st h) := run_s rfl
theorem rq_X7_at_16 {lo : Lo} {st : List Value} {h : Hp} {Q : Option Value → Hp → Prop} : Run 39 16 lo st h Q = Cnt 39 Q (xo_goto 20 lo st h) := run_s rfl
theorem rq_X7_at_19 {lo : Lo} {st : List Value} {h : Hp} {Q : Option Value → Hp → Prop} : Run 39 19 lo st h Q = Cnt 39 Q (xo_const .null 20 lo st h) := run_s rfl
theorem rq_X7_at_20 {lo : Lo} {st : List Value} {h : Hp} {Q : Option Value → Hp → Prop} : Run 39 20 lo st h Q = Cnt 39 Q (xo_aret lo st h) := run_s rfl
theorem rq_X7_put_0 {lo : Lo} {st : List Value} {h : Hp} {Q : Option Value → Hp → Prop} : Run 40 0 lo st h Q = Cnt 40 Q (xo_iload 1 1 lo st h) := run_s rfl
theorem rq_X7_put_1 {lo : Lo} {st : List Value} {h : Hp} {Q : Option Value → Hp → Prop} : Run 40 1 lo st h Q = Cnt 40 Q (xo_const (.int 0) 2 lo st h) := run_s rfl
theorem rq_X7_put_2 {lo : Lo} {st : List Value} {h : Hp} {Q : Option Value → Hp → Prop} : Run 40 2 lo st h Q = Cnt 40 Q (xo_const (.int 25) 4 lo st h) := run_s rfl
theorem rq_X7_put_4 {lo : Lo} {st : List Value} {h : Hp} {Q : Option Value → Hp → Prop} : Run 40 4 lo st h Q = CCall 98 3 none st h (Knt 40 7 lo (st.drop 3) Q) := run_c rfl
theorem rq_X7_put_7 {lo : Lo} {st : List Value} {h : Hp} {Q : Option Value → Hp → Prop} : Run 40 7 lo st h Q = Cnt 40 Q (xo_if1 (fun x => decide (¬ x = 0)) 12 10 lo st h) := run_s rfl
theorem rq_X7_put_10 {lo : Lo} {st : List Value} {h : Hp} {Q : Option Value → Hp → Prop} : Run 40 10 lo st h Q = Cnt 40 Q (xo_const (.int 0) 11 lo st h) := run_s rfl
theorem rq_X7_put_11 {lo : Lo} {st : List Value} {h : Hp} {Q : Option Value → Hp → Prop} : Run 40 11 lo st h Q = Cnt 40 Q (xo_zret lo st h) := run_s rfl
theorem rq_X7_put_12 {lo : Lo} {st : List Value} {h : Hp} {Q : Option Value → Hp → Prop} : Run 40 12 lo st h Q = Cnt 40 Q (xo_aload 0 13 lo st h) := run_s rfl
theorem rq_X7_put_13 {lo : Lo} {st : List Value} {h : Hp} {Q : Option Value → Hp → Prop} : Run 40 13 lo st h Q = Cnt 40 Q (xo_getf 7 0 16 lo st h) := run_s rfl
theorem rq_X7_put_16 {lo : Lo} {st : List Value} {h : Hp} {Q : Option Value → Hp → Prop} : Run 40 16 lo st h Q = Cnt 40 Q (xo_iload 1 17 lo st h) := run_s rfl
theorem rq_X7_put_17 {lo : Lo} {st : List Value} {h : Hp} {Q : Option Value → Hp → Prop} : Run 40 17 lo st h Q = Cnt 40 Q (xo_aald 18 lo st h) := run_s rfl
theorem rq_X7_put_18 {lo : Lo} {st : List Value} {h : Hp} {Q : Option Value → Hp → Prop} : Run 40 18 lo st h Q = Cnt 40 Q (xo_null 21 55 lo st h) := run_s rfl
theorem rq_X7_put_21 {lo : Lo} {st : List Value} {h : Hp} {Q : Option Value → Hp → Prop} : Run 40 21 lo st h Q = Cnt 40 Q (xo_aload 0 22 lo st h) := run_s rfl
theorem rq_X7_put_22 {lo : Lo} {st : List Value} {h : Hp} {Q : Option Value → Hp → Prop} : Run 40 22 lo st h Q = Cnt 40 Q (xo_getf 7 1 25 lo st h) := run_s rfl
theorem rq_X7_put_25 {lo : Lo} {st : List Value} {h : Hp} {Q : Option Value → Hp → Prop} : Run 40 25 lo st h Q = Cnt 40 Q (xo_const (.int 10) 27 lo st h) := run_s rfl
theorem rq_X7_put_27 {lo : Lo} {st : List Value} {h : Hp} {Q : Option Value → Hp → Prop} : Run 40 27 lo st h Q = Cnt 40 Q (xo_if2 (fun x y => decide (x < y)) 32 30 lo st h) := run_s rfl
theorem rq_X7_put_30 {lo : Lo} {st : List Value} {h : Hp} {Q : Option Value → Hp → Prop} : Run 40 30 lo st h Q = Cnt 40 Q (xo_const (.int 0) 31 lo st h) := run_s rfl
theorem rq_X7_put_31 {lo : Lo} {st : List Value} {h : Hp} {Q : Option Value → Hp → Prop} : Run 40 31 lo st h Q = Cnt 40 Q (xo_zret lo st h) := run_s rfl
theorem rq_X7_put_32 {lo : Lo} {st : List Value} {h : Hp} {Q : Option Value → Hp → Prop} : Run 40 32 lo st h Q = Cnt 40 Q (xo_aload 0 33 lo st h) := run_s rfl
theorem rq_X7_put_33 {lo : Lo} {st : List Value} {h : Hp} {Q : Option Value → Hp → Prop} : Run 40 33 lo st h Q = Cnt 40 Q (xo_getf 7 0 36 lo st h) := run_s rfl
theorem rq_X7_put_36 {lo : Lo} {st : List Value} {h : Hp} {Q : Option Value → Hp → Prop} : Run 40 36 lo st h Q = Cnt 40 Q (xo_iload 1 37 lo st h) := run_s rfl
theorem rq_X7_put_37 {lo : Lo} {st : List Value} {h : Hp} {Q : Option Value → Hp → Prop} : Run 40 37 lo st h Q = Cnt 40 Q (xo_new 6 [.null, .int 0] 40 lo st h) := run_s rfl
theorem rq_X7_put_40 {lo : Lo} {st : List Value} {h : Hp} {Q : Option Value → Hp → Prop} : Run 40 40 lo st h Q = Cnt 40 Q (xo_dup 41 lo st h) := run_s rfl
theorem rq_X7_put_41 {lo : Lo} {st : List Value} {h : Hp} {Q : Option Value → Hp → Prop} : Run 40 41 lo st h Q = CCall 28 1 (some 6) st h (Knt 40 44 lo (st.drop 1) Q) := run_c rfl
theorem rq_X7_put_44 {lo : Lo} {st : List Value} {h : Hp} {Q : Option Value → Hp → Prop} : Run 40 44 lo st h Q = Cnt 40 Q (xo_aast 45 lo st h) := run_s rfl
theorem rq_X7_put_45 {lo : Lo} {st : List Value} {h : Hp} {Q : Option Value → Hp → Prop} : Run 40 45 lo st h Q = Cnt 40 Q (xo_aload 0 46 lo st h) := run_s rfl
theorem rq_X7_put_46 {lo : Lo} {st : List Value} {h : Hp} {Q : Option Value → Hp → Prop} : Run 40 46 lo st h Q = Cnt 40 Q (xo_dup 47 lo st h) := run_s rfl
theorem rq_X7_put_47 {lo : Lo} {st : List Value} {h : Hp} {Q : Option Value → Hp → Prop} : Run 40 47 lo st h Q = Cnt 40 Q (xo_getf 7 1 50 lo st h) := run_s rfl
theorem rq_X7_put_50 {lo : Lo} {st : List Value} {h : Hp} {Q : Option Value → Hp → Prop} : Run 40 50 lo st h Q = Cnt 40 Q (xo_const (.int 1) 51 lo st h) := run_s rfl
theorem rq_X7_put_51 {lo : Lo} {st : List Value} {h : Hp} {Q : Option Value → Hp → Prop} : Run 40 51 lo st h Q = Cnt 40 Q (xo_bin (fun x y => x + y) 52 lo st h) := run_s rfl
theorem rq_X7_put_52 {lo : Lo} {st : List Value} {h : Hp} {Q : Option Value → Hp → Prop} : Run 40 52 lo st h Q = Cnt 40 Q (xo_putf 7 1 true 55 lo st h) := run_s rfl
theorem rq_X7_put_55 {lo : Lo} {st : List Value} {h : Hp} {Q : Option Value → Hp → Prop} : Run 40 55 lo st h Q = Cnt 40 Q (xo_aload 0 56 lo st h) := run_s rfl
theorem rq_X7_put_56 {lo : Lo} {st : List Value} {h : Hp} {Q : Option Value → Hp → Prop} : Run 40 56 lo st h Q = Cnt 40 Q (xo_getf 7 0 59 lo st h) := run_s rfl
theorem rq_X7_put_59 {lo : Lo} {st : List Value} {h : Hp} {Q : Option Value → Hp → Prop} : Run 40 59 lo st h Q = Cnt 40 Q (xo_iload 1 60 lo st h) := run_s rfl
theorem rq_X7_put_60 {lo : Lo} {st : List Value} {h : Hp} {Q : Option Value → Hp → Prop} : Run 40 60 lo st h Q = Cnt 40 Q (xo_aald 61 lo st h) := run_s rfl
theorem rq_X7_put_61 {lo : Lo} {st : List Value} {h : Hp} {Q : Option Value → Hp → Prop} : Run 40 61 lo st h Q = Cnt 40 Q (xo_aload 2 62 lo st h) := run_s rfl
theorem rq_X7_put_62 {lo : Lo} {st : List Value} {h : Hp} {Q : Option Value → Hp → Prop} : Run 40 62 lo st h Q = CCall 33 2 (some 6) st h (Knt 40 65 lo (st.drop 2) Q) := run_c rfl
theorem rq_X7_put_65 {lo : Lo} {st : List Value} {h : Hp} {Q : Option Value → Hp → Prop} : Run 40 65 lo st h Q = Cnt 40 Q (xo_const (.int 1) 66 lo st h) := run_s rfl
theorem rq_X7_put_66 {lo : Lo} {st : List Value} {h : Hp} {Q : Option Value → Hp → Prop} : Run 40 66 lo st h Q = Cnt 40 Q (xo_zret lo st h) := run_s rfl
theorem rq_X7_remove_0 {lo : Lo} {st : List Value} {h : Hp} {Q : Option Value → Hp → Prop} : Run 41 0 lo st h Q = Cnt 41 Q (xo_aload 0 1 lo st h) := run_s rfl
theorem rq_X7_remove_1 {lo : Lo} {st : List Value} {h : Hp} {Q : Option Value → Hp → Prop} : Run 41 1 lo st h Q = Cnt 41 Q (xo_iload 1 2 lo st h) := run_s rfl
theorem rq_X7_remove_2 {lo : Lo} {st : List Value} {h : Hp} {Q : Option Value → Hp → Prop} : Run 41 2 lo st h Q = CCall 39 2 (some 7) st h (Knt 41 5 lo (st.drop 2) Q) := run_c rfl
theorem rq_X7_remove_5 {lo : Lo} {st : List Value} {h : Hp} {Q : Option Value → Hp → Prop} : Run 41 5 lo st h Q = Cnt 41 Q (xo_null 25 8 lo st h) := run_s rfl
theorem rq_X7_remove_8 {lo : Lo} {st : List Value} {h : Hp} {Q : Option Value → Hp → Prop} : Run 41 8 lo st h Q = Cnt 41 Q (xo_aload 0 9 lo st h) := run_s rfl
theorem rq_X7_remove_9 {lo : Lo} {st : List Value} {h : Hp} {Q : Option Value → Hp → Prop} : Run 41 9 lo st h Q = Cnt 41 Q (xo_getf 7 0 12 lo st h) := run_s rfl
theorem rq_X7_remove_12 {lo : Lo} {st : List Value} {h : Hp} {Q : Option Value → Hp → Prop} : Run 41 12 lo st h Q = Cnt 41 Q (xo_iload 1 13 lo st h) := run_s rfl
theorem rq_X7_remove_13 {lo : Lo} {st : List Value} {h : Hp} {Q : Option Value → Hp → Prop} : Run 41 13 lo st h Q = Cnt 41 Q (xo_const .null 14 lo st h) := run_s rfl
theorem rq_X7_remove_14 {lo : Lo} {st : List Value} {h : Hp} {Q : Option Value → Hp → Prop} : Run 41 14 lo st h Q = Cnt 41 Q (xo_aast 15 lo st h) := run_s rfl
theorem rq_X7_remove_15 {lo : Lo} {st : List Value} {h : Hp} {Q : Option Value → Hp → Prop} : Run 41 15 lo st h Q = Cnt 41 Q (xo_aload 0 16 lo st h) := run_s rfl
theorem rq_X7_remove_16 {lo : Lo} {st : List Value} {h : Hp} {Q : Option Value → Hp → Prop} : Run 41 16 lo st h Q = Cnt 41 Q (xo_dup 17 lo st h) := run_s rfl
theorem rq_X7_remove_17 {lo : Lo} {st : List Value} {h : Hp} {Q : Option Value → Hp → Prop} : Run 41 17 lo st h Q = Cnt 41 Q (xo_getf 7 1 20 lo st h) := run_s rfl
theorem rq_X7_remove_20 {lo : Lo} {st : List Value} {h : Hp} {Q : Option Value → Hp → Prop} : Run 41 20 lo st h Q = Cnt 41 Q (xo_const (.int 1) 21 lo st h) := run_s rfl
theorem rq_X7_remove_21 {lo : Lo} {st : List Value} {h : Hp} {Q : Option Value → Hp → Prop} : Run 41 21 lo st h Q = Cnt 41 Q (xo_bin (fun x y => x - y) 22 lo st h) := run_s rfl
theorem rq_X7_remove_22 {lo : Lo} {st : List Value} {h : Hp} {Q : Option Value → Hp → Prop} : Run 41 22 lo st h Q = Cnt 41 Q (xo_putf 7 1 true 25 lo st h) := run_s rfl
theorem rq_X7_remove_25 {lo : Lo} {st : List Value} {h : Hp} {Q : Option Value → Hp → Prop} : Run 41 25 lo st h Q = Cnt 41 Q (xo_vret lo st h) := run_s rfl
theorem rq_X7_nameAt_0 {lo : Lo} {st : List Value} {h : Hp} {Q : Option Value → Hp → Prop} : Run 42 0 lo st h Q = Cnt 42 Q (xo_const (.int 0) 1 lo st h) := run_s rfl
theorem rq_X7_nameAt_1 {lo : Lo} {st : List Value} {h : Hp} {Q : Option Value → Hp → Prop} : Run 42 1 lo st h Q = Cnt 42 Q (xo_istore 2 2 lo st h) := run_s rfl
theorem rq_X7_nameAt_2 {lo : Lo} {st : List Value} {h : Hp} {Q : Option Value → Hp → Prop} : Run 42 2 lo st h Q = Cnt 42 Q (xo_const (.int 0) 3 lo st h) := run_s rfl
theorem rq_X7_nameAt_3 {lo : Lo} {st : List Value} {h : Hp} {Q : Option Value → Hp → Prop} : Run 42 3 lo st h Q = Cnt 42 Q (xo_istore 3 4 lo st h) := run_s rfl
theorem rq_X7_nameAt_4 {lo : Lo} {st : List Value} {h : Hp} {Q : Option Value → Hp → Prop} : Run 42 4 lo st h Q = Cnt 42 Q (xo_iload 3 5 lo st h) := run_s rfl
theorem rq_X7_nameAt_5 {lo : Lo} {st : List Value} {h : Hp} {Q : Option Value → Hp → Prop} : Run 42 5 lo st h Q = Cnt 42 Q (xo_const (.int 26) 7 lo st h) := run_s rfl
theorem rq_X7_nameAt_7 {lo : Lo} {st : List Value} {h : Hp} {Q : Option Value → Hp → Prop} : Run 42 7 lo st h Q = Cnt 42 Q (xo_if2 (fun x y => decide (x ≥ y)) 35 10 lo st h) := run_s rfl
theorem rq_X7_nameAt_10 {lo : Lo} {st : List Value} {h : Hp} {Q : Option Value → Hp → Prop} : Run 42 10 lo st h Q = Cnt 42 Q (xo_aload 0 11 lo st h) := run_s rfl
theorem rq_X7_nameAt_11 {lo : Lo} {st : List Value} {h : Hp} {Q : Option Value → Hp → Prop} : Run 42 11 lo st h Q = Cnt 42 Q (xo_getf 7 0 14 lo st h) := run_s rfl
theorem rq_X7_nameAt_14 {lo : Lo} {st : List Value} {h : Hp} {Q : Option Value → Hp → Prop} : Run 42 14 lo st h Q = Cnt 42 Q (xo_iload 3 15 lo st h) := run_s rfl
theorem rq_X7_nameAt_15 {lo : Lo} {st : List Value} {h : Hp} {Q : Option Value → Hp → Prop} : Run 42 15 lo st h Q = Cnt 42 Q (xo_aald 16 lo st h) := run_s rfl
theorem rq_X7_nameAt_16 {lo : Lo} {st : List Value} {h : Hp} {Q : Option Value → Hp → Prop} : Run 42 16 lo st h Q = Cnt 42 Q (xo_null 29 19 lo st h) := run_s rfl
theorem rq_X7_nameAt_19 {lo : Lo} {st : List Value} {h : Hp} {Q : Option Value → Hp → Prop} : Run 42 19 lo st h Q = Cnt 42 Q (xo_iload 2 20 lo st h) := run_s rfl
theorem rq_X7_nameAt_20 {lo : Lo} {st : List Value} {h : Hp} {Q : Option Value → Hp → Prop} : Run 42 20 lo st h Q = Cnt 42 Q (xo_iload 1 21 lo st h) := run_s rfl
theorem rq_X7_nameAt_21 {lo : Lo} {st : List Value} {h : Hp} {Q : Option Value → Hp → Prop} : Run 42 21 lo st h Q = Cnt 42 Q (xo_if2 (fun x y => decide (¬ x = y)) 26 24 lo st h) := run_s rfl
theorem rq_X7_nameAt_24 {lo : Lo} {st : List Value} {h : Hp} {Q : Option Value → Hp → Prop} : Run 42 24 lo st h Q = Cnt 42 Q (xo_iload 3 25 lo st h) := run_s rfl
theorem rq_X7_nameAt_25 {lo : Lo} {st : List Value} {h : Hp} {Q : Option Value → Hp → Prop} : Run 42 25 lo st h Q = Cnt 42 Q (xo_iret lo st h) := run_s rfl
theorem rq_X7_nameAt_26 {lo : Lo} {st : List Value} {h : Hp} {Q : Option Value → Hp → Prop} : Run 42 26 lo st h Q = Cnt 42 Q (xo_iinc 2 1 29 lo st h) := run_s rfl
theorem rq_X7_nameAt_29 {lo : Lo} {st : List Value} {h : Hp} {Q : Option Value → Hp → Prop} : Run 42 29 lo st h Q = Cnt 42 Q (xo_iinc 3 1 32 lo st h) := run_s rfl
theorem rq_X7_nameAt_32 {lo : Lo} {st : List Value} {h : Hp} {Q : Option Value → Hp → Prop} : Run 42 32 lo st h Q = Cnt 42 Q (xo_goto 4 lo st h) := run_s rfl
theorem rq_X7_nameAt_35 {lo : Lo} {st : List Value} {h : Hp} {Q : Option Value → Hp → Prop} : Run 42 35 lo st h Q = Cnt 42 Q (xo_const (.int (-9)) 37 lo st h) := run_s rfl
theorem rq_X7_nameAt_37 {lo : Lo} {st : List Value} {h : Hp} {Q : Option Value → Hp → Prop} : Run 42 37 lo st h Q = Cnt 42 Q (xo_iret lo st h) := run_s rfl
theorem rq_X8_init_0 {lo : Lo} {st : List Value} {h : Hp} {Q : Option Value → Hp → Prop} : Run 43 0 lo st h Q = Cnt 43 Q (xo_aload 0 1 lo st h) := run_s rfl
theorem rq_X8_init_1 {lo : Lo} {st : List Value} {h : Hp} {Q : Option Value → Hp → Prop} : Run 43 1 lo st h Q = Cnt 43 Q (xo_oinit 4 lo st h) := run_s rfl
theorem rq_X8_init_4 {lo : Lo} {st : List Value} {h : Hp} {Q : Option Value → Hp → Prop} : Run 43 4 lo st h Q = Cnt 43 Q (xo_aload 0 5 lo st h) := run_s rfl
theorem rq_X8_init_5 {lo : Lo} {st : List Value} {h : Hp} {Q : Option Value → Hp → Prop} : Run 43 5 lo st h Q = Cnt 43 Q (xo_const (.int 32) 7 lo st h) := run_s rfl
theorem rq_X8_init_7 {lo : Lo} {st : List Value} {h : Hp} {Q : Option Value → Hp → Prop} : Run 43 7 lo st h Q = Cnt 43 Q (xo_newi 0 9 lo st h) := run_s rfl
theorem rq_X8_init_9 {lo : Lo} {st : List Value} {h : Hp} {Q : Option Value → Hp → Prop} : Run 43 9 lo st h Q = Cnt 43 Q (xo_putf 8 5 false 12 lo st h) := run_s rfl
theorem rq_X8_init_12 {lo : Lo} {st : List Value} {h : Hp} {Q : Option Value → Hp → Prop} : Run 43 12 lo st h Q = Cnt 43 Q (xo_aload 0 13 lo st h) := run_s rfl
theorem rq_X8_init_13 {lo : Lo} {st : List Value} {h : Hp} {Q : Option Value → Hp → Prop} : Run 43 13 lo st h Q = Cnt 43 Q (xo_aload 1 14 lo st h) := run_s rfl
theorem rq_X8_init_14 {lo : Lo} {st : List Value} {h : Hp} {Q : Option Value → Hp → Prop} : Run 43 14 lo st h Q = Cnt 43 Q (xo_getf 5 2 17 lo st h) := run_s rfl
theorem rq_X8_init_17 {lo : Lo} {st : List Value} {h : Hp} {Q : Option Value → Hp → Prop} : Run 43 17 lo st h Q = Cnt 43 Q (xo_putf 8 0 true 20 lo st h) := run_s rfl
theorem rq_X8_init_20 {lo : Lo} {st : List Value} {h : Hp} {Q : Option Value → Hp → Prop} : Run 43 20 lo st h Q = Cnt 43 Q (xo_aload 0 21 lo st h) := run_s rfl
theorem rq_X8_init_21 {lo : Lo} {st : List Value} {h : Hp} {Q : Option Value → Hp → Prop} : Run 43 21 lo st h Q = Cnt 43 Q (xo_iload 2 22 lo st h) := run_s rfl
theorem rq_X8_init_22 {lo : Lo} {st : List Value} {h : Hp} {Q : Option Value → Hp → Prop} : Run 43 22 lo st h Q = Cnt 43 Q (xo_putf 8 1 true 25 lo st h) := run_s rfl
theorem rq_X8_init_25 {lo : Lo} {st : List Value} {h : Hp} {Q : Option Value → Hp → Prop} : Run 43 25 lo st h Q = Cnt 43 Q (xo_aload 0 26 lo st h) := run_s rfl
theorem rq_X8_init_26 {lo : Lo} {st : List Value} {h : Hp} {Q : Option Value → Hp → Prop} : Run 43 26 lo st h Q = Cnt 43 Q (xo_iload 3 27 lo st h) := run_s rfl
theorem rq_X8_init_27 {lo : Lo} {st : List Value} {h : Hp} {Q : Option Value → Hp → Prop} : Run 43 27 lo st h Q = Cnt 43 Q (xo_putf 8 2 true 30 lo st h) := run_s rfl
theorem rq_X8_init_30 {lo : Lo} {st : List Value} {h : Hp} {Q : Option Value → Hp → Prop} : Run 43 30 lo st h Q = Cnt 43 Q (xo_aload 0 31 lo st h) := run_s rfl
theorem rq_X8_init_31 {lo : Lo} {st : List Value} {h : Hp} {Q : Option Value → Hp → Prop} : Run 43 31 lo st h Q = Cnt 43 Q (xo_aload 1 32 lo st h) := run_s rfl
theorem rq_X8_init_32 {lo : Lo} {st : List Value} {h : Hp} {Q : Option Value → Hp → Prop} : Run 43 32 lo st h Q = Cnt 43 Q (xo_getf 5 0 35 lo st h) := run_s rfl
theorem rq_X8_init_35 {lo : Lo} {st : List Value} {h : Hp} {Q : Option Value → Hp → Prop} : Run 43 35 lo st h Q = Cnt 43 Q (xo_const (.int 8) 37 lo st h) := run_s rfl
theorem rq_X8_init_37 {lo : Lo} {st : List Value} {h : Hp} {Q : Option Value → Hp → Prop} : Run 43 37 lo st h Q = CCall 195 2 none st h (Knt 43 40 lo (st.drop 2) Q) := run_c rfl
theorem rq_X8_init_40 {lo : Lo} {st : List Value} {h : Hp} {Q : Option Value → Hp → Prop} : Run 43 40 lo st h Q = Cnt 43 Q (xo_putf 8 3 false 43 lo st h) := run_s rfl
theorem rq_X8_init_43 {lo : Lo} {st : List Value} {h : Hp} {Q : Option Value → Hp → Prop} : Run 43 43 lo st h Q = Cnt 43 Q (xo_aload 0 44 lo st h) := run_s rfl
theorem rq_X8_init_44 {lo : Lo} {st : List Value} {h : Hp} {Q : Option Value → Hp → Prop} : Run 43 44 lo st h Q = Cnt 43 Q (xo_aload 1 45 lo st h) := run_s rfl
theorem rq_X8_init_45 {lo : Lo} {st : List Value} {h : Hp} {Q : Option Value → Hp → Prop} : Run 43 45 lo st h Q = Cnt 43 Q (xo_getf 5 1 48 lo st h) := run_s rfl
theorem rq_X8_init_48 {lo : Lo} {st : List Value} {h : Hp} {Q : Option Value → Hp → Prop} : Run 43 48 lo st h Q = Cnt 43 Q (xo_const (.int 8) 50 lo st h) := run_s rfl
theorem rq_X8_init_50 {lo : Lo} {st : List Value} {h : Hp} {Q : Option Value → Hp → Prop} : Run 43 50 lo st h Q = CCall 195 2 none st h (Knt 43 53 lo (st.drop 2) Q) := run_c rfl
theorem rq_X8_init_53 {lo : Lo} {st : List Value} {h : Hp} {Q : Option Value → Hp → Prop} : Run 43 53 lo st h Q = Cnt 43 Q (xo_putf 8 4 false 56 lo st h) := run_s rfl
theorem rq_X8_init_56 {lo : Lo} {st : List Value} {h : Hp} {Q : Option Value → Hp → Prop} : Run 43 56 lo st h Q = Cnt 43 Q (xo_aload 0 57 lo st h) := run_s rfl
theorem rq_X8_init_57 {lo : Lo} {st : List Value} {h : Hp} {Q : Option Value → Hp → Prop} : Run 43 57 lo st h Q = Cnt 43 Q (xo_getf 8 0 60 lo st h) := run_s rfl
theorem rq_X8_init_60 {lo : Lo} {st : List Value} {h : Hp} {Q : Option Value → Hp → Prop} : Run 43 60 lo st h Q = Cnt 43 Q (xo_const (.int 1) 61 lo st h) := run_s rfl
theorem rq_X8_init_61 {lo : Lo} {st : List Value} {h : Hp} {Q : Option Value → Hp → Prop} : Run 43 61 lo st h Q = Cnt 43 Q (xo_if2 (fun x y => decide (¬ x = y)) 70 64 lo st h) := run_s rfl
theorem rq_X8_init_64 {lo : Lo} {st : List Value} {h : Hp} {Q : Option Value → Hp → Prop} : Run 43 64 lo st h Q = Cnt 43 Q (xo_aload 0 65 lo st h) := run_s rfl
theorem rq_X8_init_65 {lo : Lo} {st : List Value} {h : Hp} {Q : Option Value → Hp → Prop} : Run 43 65 lo st h Q = Cnt 43 Q (xo_const (.int 0) 66 lo st h) := run_s rfl
theorem rq_X8_init_66 {lo : Lo} {st : List Value} {h : Hp} {Q : Option Value → Hp → Prop} : Run 43 66 lo st h Q = Cnt 43 Q (xo_const (.int 0) 67 lo st h) := run_s rfl
theorem rq_X8_init_67 {lo : Lo} {st : List Value} {h : Hp} {Q : Option Value → Hp → Prop} : Run 43 67 lo st h Q = CCall 44 3 (some 8) st h (Knt 43 70 lo (st.drop 3) Q) := run_c rfl
theorem rq_X8_init_70 {lo : Lo} {st : List Value} {h : Hp} {Q : Option Value → Hp → Prop} : Run 43 70 lo st h Q = Cnt 43 Q (xo_const (.int 0) 71 lo st h) := run_s rfl
theorem rq_X8_init_71 {lo : Lo} {st : List Value} {h : Hp} {Q : Option Value → Hp → Prop} : Run 43 71 lo st h Q = Cnt 43 Q (xo_istore 4 73 lo st h) := run_s rfl
theorem rq_X8_init_73 {lo : Lo} {st : List Value} {h : Hp} {Q : Option Value → Hp → Prop} : Run 43 73 lo st h Q = Cnt 43 Q (xo_iload 4 75 lo st h) := run_s rfl
theorem rq_X8_init_75 {lo : Lo} {st : List Value} {h : Hp} {Q : Option Value → Hp → Prop} : Run 43 75 lo st h Q = Cnt 43 Q (xo_const (.int 1) 76 lo st h) := run_s rfl
theorem rq_X8_init_76 {lo : Lo} {st : List Value} {h : Hp} {Q : Option Value → Hp → Prop} : Run 43 76 lo st h Q = Cnt 43 Q (xo_bin (fun x y => x + y) 77 lo st h) := run_s rfl
theorem rq_X8_init_77 {lo : Lo} {st : List Value} {h : Hp} {Q : Option Value → Hp → Prop} : Run 43 77 lo st h Q = Cnt 43 Q (xo_aload 0 78 lo st h) := run_s rfl
theorem rq_X8_init_78 {lo : Lo} {st : List Value} {h : Hp} {Q : Option Value → Hp → Prop} : Run 43 78 lo st h Q = Cnt 43 Q (xo_getf 8 0 81 lo st h) := run_s rfl
theorem rq_X8_init_81 {lo : Lo} {st : List Value} {h : Hp} {Q : Option Value → Hp → Prop} : Run 43 81 lo st h Q = Cnt 43 Q (xo_if2 (fun x y => decide (x ≥ y)) 100 84 lo st h) := run_s rfl
theorem rq_X8_init_84 {lo : Lo} {st : List Value} {h : Hp} {Q : Option Value → Hp → Prop} : Run 43 84 lo st h Q = Cnt 43 Q (xo_aload 0 85 lo st h) := run_s rfl
theorem rq_X8_init_85 {lo : Lo} {st : List Value} {h : Hp} {Q : Option Value → Hp → Prop} : Run 43 85 lo st h Q = Cnt 43 Q (xo_iload 4 87 lo st h) := run_s rfl
theorem rq_X8_init_87 {lo : Lo} {st : List Value} {h : Hp} {Q : Option Value → Hp → Prop} : Run 43 87 lo st h Q = Cnt 43 Q (xo_iload 4 89 lo st h) := run_s rfl
theorem rq_X8_init_89 {lo : Lo} {st : List Value} {h : Hp} {Q : Option Value → Hp → Prop} : Run 43 89 lo st h Q = Cnt 43 Q (xo_const (.int 1) 90 lo st h) := run_s rfl
theorem rq_X8_init_90 {lo : Lo} {st : List Value} {h : Hp} {Q : Option Value → Hp → Prop} : Run 43 90 lo st h Q = Cnt 43 Q (xo_bin (fun x y => x + y) 91 lo st h) := run_s rfl
theorem rq_X8_init_91 {lo : Lo} {st : List Value} {h : Hp} {Q : Option Value → Hp → Prop} : Run 43 91 lo st h Q = CCall 44 3 (some 8) st h (Knt 43 94 lo (st.drop 3) Q) := run_c rfl
theorem rq_X8_init_94 {lo : Lo} {st : List Value} {h : Hp} {Q : Option Value → Hp → Prop} : Run 43 94 lo st h Q = Cnt 43 Q (xo_iinc 4 1 97 lo st h) := run_s rfl
theorem rq_X8_init_97 {lo : Lo} {st : List Value} {h : Hp} {Q : Option Value → Hp → Prop} : Run 43 97 lo st h Q = Cnt 43 Q (xo_goto 73 lo st h) := run_s rfl
theorem rq_X8_init_100 {lo : Lo} {st : List Value} {h : Hp} {Q : Option Value → Hp → Prop} : Run 43 100 lo st h Q = Cnt 43 Q (xo_vret lo st h) := run_s rfl
theorem rq_X8_inkBetween_0 {lo : Lo} {st : List Value} {h : Hp} {Q : Option Value → Hp → Prop} : Run 44 0 lo st h Q = Cnt 44 Q (xo_aload 0 1 lo st h) := run_s rfl
theorem rq_X8_inkBetween_1 {lo : Lo} {st : List Value} {h : Hp} {Q : Option Value → Hp → Prop} : Run 44 1 lo st h Q = Cnt 44 Q (xo_getf 8 3 4 lo st h) := run_s rfl
theorem rq_X8_inkBetween_4 {lo : Lo} {st : List Value} {h : Hp} {Q : Option Value → Hp → Prop} : Run 44 4 lo st h Q = Cnt 44 Q (xo_iload 1 5 lo st h) := run_s rfl
theorem rq_X8_inkBetween_5 {lo : Lo} {st : List Value} {h : Hp} {Q : Option Value → Hp → Prop} : Run 44 5 lo st h Q = Cnt 44 Q (xo_iald 6 lo st h) := run_s rfl
theorem rq_X8_inkBetween_6 {lo : Lo} {st : List Value} {h : Hp} {Q : Option Value → Hp → Prop} : Run 44 6 lo st h Q = Cnt 44 Q (xo_istore 3 7 lo st h) := run_s rfl
theorem rq_X8_inkBetween_7 {lo : Lo} {st : List Value} {h : Hp} {Q : Option Value → Hp → Prop} : Run 44 7 lo st h Q = Cnt 44 Q (xo_aload 0 8 lo st h) := run_s rfl
theorem rq_X8_inkBetween_8 {lo : Lo} {st : List Value} {h : Hp} {Q : Option Value → Hp → Prop} : Run 44 8 lo st h Q = Cnt 44 Q (xo_getf 8 4 11 lo st h) := run_s rfl
theorem rq_X8_inkBetween_11 {lo : Lo} {st : List Value} {h : Hp} {Q : Option Value → Hp → Prop} : Run 44 11 lo st h Q = Cnt 44 Q (xo_iload 1 12 lo st h) := run_s rfl
theorem rq_X8_inkBetween_12 {lo : Lo} {st : List Value} {h : Hp} {Q : Option Value → Hp → Prop} : Run 44 12 lo st h Q = Cnt 44 Q (xo_iald 13 lo st h) := run_s rfl
theorem rq_X8_inkBetween_13 {lo : Lo} {st : List Value} {h : Hp} {Q : Option Value → Hp → Prop} : Run 44 13 lo st h Q = Cnt 44 Q (xo_istore 4 15 lo st h) := run_s rfl
theorem rq_X8_inkBetween_15 {lo : Lo} {st : List Value} {h : Hp} {Q : Option Value → Hp → Prop} : Run 44 15 lo st h Q = Cnt 44 Q (xo_aload 0 16 lo st h) := run_s rfl
theorem rq_X8_inkBetween_16 {lo : Lo} {st : List Value} {h : Hp} {Q : Option Value → Hp → Prop} : Run 44 16 lo st h Q = Cnt 44 Q (xo_getf 8 3 19 lo st h) := run_s rfl
theorem rq_X8_inkBetween_19 {lo : Lo} {st : List Value} {h : Hp} {Q : Option Value → Hp → Prop} : Run 44 19 lo st h Q = Cnt 44 Q (xo_iload 2 20 lo st h) := run_s rfl
theorem rq_X8_inkBetween_20 {lo : Lo} {st : List Value} {h : Hp} {Q : Option Value → Hp → Prop} : Run 44 20 lo st h Q = Cnt 44 Q (xo_iald 21 lo st h) := run_s rfl
theorem rq_X8_inkBetween_21 {lo : Lo} {st : List Value} {h : Hp} {Q : Option Value → Hp → Prop} : Run 44 21 lo st h Q = Cnt 44 Q (xo_iload 3 22 lo st h) := run_s rfl
theorem rq_X8_inkBetween_22 {lo : Lo} {st : List Value} {h : Hp} {Q : Option Value → Hp → Prop} : Run 44 22 lo st h Q = Cnt 44 Q (xo_bin (fun x y => x - y) 23 lo st h) := run_s rfl
theorem rq_X8_inkBetween_23 {lo : Lo} {st : List Value} {h : Hp} {Q : Option Value → Hp → Prop} : Run 44 23 lo st h Q = Cnt 44 Q (xo_istore 5 25 lo st h) := run_s rfl
theorem rq_X8_inkBetween_25 {lo : Lo} {st : List Value} {h : Hp} {Q : Option Value → Hp → Prop} : Run 44 25 lo st h Q = Cnt 44 Q (xo_aload 0 26 lo st h) := run_s rfl
theorem rq_X8_inkBetween_26 {lo : Lo} {st : List Value} {h : Hp} {Q : Option Value → Hp → Prop} : Run 44 26 lo st h Q = Cnt 44 Q (xo_getf 8 4 29 lo st h) := run_s rfl
theorem rq_X8_inkBetween_29 {lo : Lo} {st : List Value} {h : Hp} {Q : Option Value → Hp → Prop} : Run 44 29 lo st h Q = Cnt 44 Q (xo_iload 2 30 lo st h) := run_s rfl
theorem rq_X8_inkBetween_30 {lo : Lo} {st : List Value} {h : Hp} {Q : Option Value → Hp → Prop} : Run 44 30 lo st h Q = Cnt 44 Q (xo_iald 31 lo st h) := run_s rfl
theorem rq_X8_inkBetween_31 {lo : Lo} {st : List Value} {h : Hp} {Q : Option Value → Hp → Prop} : Run 44 31 lo st h Q = Cnt 44 Q (xo_iload 4 33 lo st h) := run_s rfl
theorem rq_X8_inkBetween_33 {lo : Lo} {st : List Value} {h : Hp} {Q : Option Value → Hp → Prop} : Run 44 33 lo st h Q = Cnt 44 Q (xo_bin (fun x y => x - y) 34 lo st h) := run_s rfl
theorem rq_X8_inkBetween_34 {lo : Lo} {st : List Value} {h : Hp} {Q : Option Value → Hp → Prop} : Run 44 34 lo st h Q = Cnt 44 Q (xo_istore 6 36 lo st h) := run_s rfl
theorem rq_X8_inkBetween_36 {lo : Lo} {st : List Value} {h : Hp} {Q : Option Value → Hp → Prop} : Run 44 36 lo st h Q = Cnt 44 Q (xo_const (.int 0) 37 lo st h) := run_s rfl
theorem rq_X8_inkBetween_37 {lo : Lo} {st : List Value} {h : Hp} {Q : Option Value → Hp → Prop} : Run 44 37 lo st h Q = Cnt 44 Q (xo_iload 3 38 lo st h) := run_s rfl
theorem rq_X8_inkBetween_38 {lo : Lo} {st : List Value} {h : Hp} {Q : Option Value → Hp → Prop} : Run 44 38 lo st h Q = Cnt 44 Q (xo_aload 0 39 lo st h) := run_s rfl
theorem rq_X8_inkBetween_39 {lo : Lo} {st : List Value} {h : Hp} {Q : Option Value → Hp → Prop} : Run 44 39 lo st h Q = Cnt 44 Q (xo_getf 8 3 42 lo st h) := run_s rfl
theorem rq_X8_inkBetween_42 {lo : Lo} {st : List Value} {h : Hp} {Q : Option Value → Hp → Prop} : Run 44 42 lo st h Q = Cnt 44 Q (xo_iload 2 43 lo st h) := run_s rfl
theorem rq_X8_inkBetween_43 {lo : Lo} {st : List Value} {h : Hp} {Q : Option Value → Hp → Prop} : Run 44 43 lo st h Q = Cnt 44 Q (xo_iald 44 lo st h) := run_s rfl
theorem rq_X8_inkBetween_44 {lo : Lo} {st : List Value} {h : Hp} {Q : Option Value → Hp → Prop} : Run 44 44 lo st h Q = Cnt 44 Q (xo_m2 (fun x y => if y < x then y else x) 47 lo st h) := run_s rfl
theorem rq_X8_inkBetween_47 {lo : Lo} {st : List Value} {h : Hp} {Q : Option Value → Hp → Prop} : Run 44 47 lo st h Q = Cnt 44 Q (xo_aload 0 48 lo st h) := run_s rfl
theorem rq_X8_inkBetween_48 {lo : Lo} {st : List Value} {h : Hp} {Q : Option Value → Hp → Prop} : Run 44 48 lo st h Q = Cnt 44 Q (xo_getf 8 1 51 lo st h) := run_s rfl
theorem rq_X8_inkBetween_51 {lo : Lo} {st : List Value} {h : Hp} {Q : Option Value → Hp → Prop} : Run 44 51 lo st h Q = Cnt 44 Q (xo_bin (fun x y => x - y) 52 lo st h) := run_s rfl
theorem rq_X8_inkBetween_52 {lo : Lo} {st : List Value} {h : Hp} {Q : Option Value → Hp → Prop} : Run 44 52 lo st h Q = Cnt 44 Q (xo_m2 (fun x y => if x < y then y else x) 55 lo st h) := run_s rfl
theorem rq_X8_inkBetween_55 {lo : Lo} {st : List Value} {h : Hp} {Q : Option Value → Hp → Prop} : Run 44 55 lo st h Q = Cnt 44 Q (xo_istore 7 57 lo st h) := run_s rfl
theorem rq_X8_inkBetween_57 {lo : Lo} {st : List Value} {h : Hp} {Q : Option Value → Hp → Prop} : Run 44 57 lo st h Q = Cnt 44 Q (xo_const (.int 31) 59 lo st h) := run_s rfl
theorem rq_X8_inkBetween_59 {lo : Lo} {st : List Value} {h : Hp} {Q : Option Value → Hp → Prop} : Run 44 59 lo st h Q = Cnt 44 Q (xo_iload 3 60 lo st h) := run_s rfl
theorem rq_X8_inkBetween_60 {lo : Lo} {st : List Value} {h : Hp} {Q : Option Value → Hp → Prop} : Run 44 60 lo st h Q = Cnt 44 Q (xo_aload 0 61 lo st h) := run_s rfl
theorem rq_X8_inkBetween_61 {lo : Lo} {st : List Value} {h : Hp} {Q : Option Value → Hp → Prop} : Run 44 61 lo st h Q = Cnt 44 Q (xo_getf 8 3 64 lo st h) := run_s rfl
theorem rq_X8_inkBetween_64 {lo : Lo} {st : List Value} {h : Hp} {Q : Option Value → Hp → Prop} : Run 44 64 lo st h Q = Cnt 44 Q (xo_iload 2 65 lo st h) := run_s rfl
theorem rq_X8_inkBetween_65 {lo : Lo} {st : List Value} {h : Hp} {Q : Option Value → Hp → Prop} : Run 44 65 lo st h Q = Cnt 44 Q (xo_iald 66 lo st h) := run_s rfl
theorem rq_X8_inkBetween_66 {lo : Lo} {st : List Value} {h : Hp} {Q : Option Value → Hp → Prop} : Run 44 66 lo st h Q = Cnt 44 Q (xo_m2 (fun x y => if x < y then y else x) 69 lo st h) := run_s rfl
theorem rq_X8_inkBetween_69 {lo : Lo} {st : List Value} {h : Hp} {Q : Option Value → Hp → Prop} : Run 44 69 lo st h Q = Cnt 44 Q (xo_aload 0 70 lo st h) := run_s rfl
theorem rq_X8_inkBetween_70 {lo : Lo} {st : List Value} {h : Hp} {Q : Option Value → Hp → Prop} : Run 44 70 lo st h Q = Cnt 44 Q (xo_getf 8 1 73 lo st h) := run_s rfl
theorem rq_X8_inkBetween_73 {lo : Lo} {st : List Value} {h : Hp} {Q : Option Value → Hp → Prop} : Run 44 73 lo st h Q = Cnt 44 Q (xo_bin (fun x y => x + y) 74 lo st h) := run_s rfl
theorem rq_X8_inkBetween_74 {lo : Lo} {st : List Value} {h : Hp} {Q : Option Value → Hp → Prop} : Run 44 74 lo st h Q = Cnt 44 Q (xo_m2 (fun x y => if y < x then y else x) 77 lo st h) := run_s rfl
theorem rq_X8_inkBetween_77 {lo : Lo} {st : List Value} {h : Hp} {Q : Option Value → Hp → Prop} : Run 44 77 lo st h Q = Cnt 44 Q (xo_istore 8 79 lo st h) := run_s rfl
theorem rq_X8_inkBetween_79 {lo : Lo} {st : List Value} {h : Hp} {Q : Option Value → Hp → Prop} : Run 44 79 lo st h Q = Cnt 44 Q (xo_const (.int 0) 80 lo st h) := run_s rfl
theorem rq_X8_inkBetween_80 {lo : Lo} {st : List Value} {h : Hp} {Q : Option Value → Hp → Prop} : Run 44 80 lo st h Q = Cnt 44 Q (xo_iload 4 82 lo st h) := run_s rfl
theorem rq_X8_inkBetween_82 {lo : Lo} {st : List Value} {h : Hp} {Q : Option Value → Hp → Prop} : Run 44 82 lo st h Q = Cnt 44 Q (xo_aload 0 83 lo st h) := run_s rfl
theorem rq_X8_inkBetween_83 {lo : Lo} {st : List Value} {h : Hp} {Q : Option Value → Hp → Prop} : Run 44 83 lo st h Q = Cnt 44 Q (xo_getf 8 4 86 lo st h) := run_s rfl
theorem rq_X8_inkBetween_86 {lo : Lo} {st : List Value} {h : Hp} {Q : Option Value → Hp → Prop} : Run 44 86 lo st h Q = Cnt 44 Q (xo_iload 2 87 lo st h) := run_s rfl
theorem rq_X8_inkBetween_87 {lo : Lo} {st : List Value} {h : Hp} {Q : Option Value → Hp → Prop} : Run 44 87 lo st h Q = Cnt 44 Q (xo_iald 88 lo st h) := run_s rfl
theorem rq_X8_inkBetween_88 {lo : Lo} {st : List Value} {h : Hp} {Q : Option Value → Hp → Prop} : Run 44 88 lo st h Q = Cnt 44 Q (xo_m2 (fun x y => if y < x then y else x) 91 lo st h) := run_s rfl
theorem rq_X8_inkBetween_91 {lo : Lo} {st : List Value} {h : Hp} {Q : Option Value → Hp → Prop} : Run 44 91 lo st h Q = Cnt 44 Q (xo_aload 0 92 lo st h) := run_s rfl
theorem rq_X8_inkBetween_92 {lo : Lo} {st : List Value} {h : Hp} {Q : Option Value → Hp → Prop} : Run 44 92 lo st h Q = Cnt 44 Q (xo_getf 8 2 95 lo st h) := run_s rfl
theorem rq_X8_inkBetween_95 {lo : Lo} {st : List Value} {h : Hp} {Q : Option Value → Hp → Prop} : Run 44 95 lo st h Q = Cnt 44 Q (xo_m1 (fun x => if 0 ≤ x then x else 0 - x) 98 lo st h) := run_s rfl
theorem rq_X8_inkBetween_98 {lo : Lo} {st : List Value} {h : Hp} {Q : Option Value → Hp → Prop} : Run 44 98 lo st h Q = Cnt 44 Q (xo_bin (fun x y => x - y) 99 lo st h) := run_s rfl
theorem rq_X8_inkBetween_99 {lo : Lo} {st : List Value} {h : Hp} {Q : Option Value → Hp → Prop} : Run 44 99 lo st h Q = Cnt 44 Q (xo_m2 (fun x y => if x < y then y else x) 102 lo st h) := run_s rfl
theorem rq_X8_inkBetween_102 {lo : Lo} {st : List Value} {h : Hp} {Q : Option Value → Hp → Prop} : Run 44 102 lo st h Q = Cnt 44 Q (xo_istore 9 104 lo st h) := run_s rfl
theorem rq_X8_inkBetween_104 {lo : Lo} {st : List Value} {h : Hp} {Q : Option Value → Hp → Prop} : Run 44 104 lo st h Q = Cnt 44 Q (xo_const (.int 31) 106 lo st h) := run_s rfl
theorem rq_X8_inkBetween_106 {lo : Lo} {st : List Value} {h : Hp} {Q : Option Value → Hp → Prop} : Run 44 106 lo st h Q = Cnt 44 Q (xo_iload 4 108 lo st h) := run_s rfl
theorem rq_X8_inkBetween_108 {lo : Lo} {st : List Value} {h : Hp} {Q : Option Value → Hp → Prop} : Run 44 108 lo st h Q = Cnt 44 Q (xo_aload 0 109 lo st h) := run_s rfl
theorem rq_X8_inkBetween_109 {lo : Lo} {st : List Value} {h : Hp} {Q : Option Value → Hp → Prop} : Run 44 109 lo st h Q = Cnt 44 Q (xo_getf 8 4 112 lo st h) := run_s rfl
theorem rq_X8_inkBetween_112 {lo : Lo} {st : List Value} {h : Hp} {Q : Option Value → Hp → Prop} : Run 44 112 lo st h Q = Cnt 44 Q (xo_iload 2 113 lo st h) := run_s rfl
theorem rq_X8_inkBetween_113 {lo : Lo} {st : List Value} {h : Hp} {Q : Option Value → Hp → Prop} : Run 44 113 lo st h Q = Cnt 44 Q (xo_iald 114 lo st h) := run_s rfl
theorem rq_X8_inkBetween_114 {lo : Lo} {st : List Value} {h : Hp} {Q : Option Value → Hp → Prop} : Run 44 114 lo st h Q = Cnt 44 Q (xo_m2 (fun x y => if x < y then y else x) 117 lo st h) := run_s rfl
theorem rq_X8_inkBetween_117 {lo : Lo} {st : List Value} {h : Hp} {Q : Option Value → Hp → Prop} : Run 44 117 lo st h Q = Cnt 44 Q (xo_aload 0 118 lo st h) := run_s rfl
theorem rq_X8_inkBetween_118 {lo : Lo} {st : List Value} {h : Hp} {Q : Option Value → Hp → Prop} : Run 44 118 lo st h Q = Cnt 44 Q (xo_getf 8 2 121 lo st h) := run_s rfl
theorem rq_X8_inkBetween_121 {lo : Lo} {st : List Value} {h : Hp} {Q : Option Value → Hp → Prop} : Run 44 121 lo st h Q = Cnt 44 Q (xo_m1 (fun x => if 0 ≤ x then x else 0 - x) 124 lo st h) := run_s rfl
theorem rq_X8_inkBetween_124 {lo : Lo} {st : List Value} {h : Hp} {Q : Option Value → Hp → Prop} : Run 44 124 lo st h Q = Cnt 44 Q (xo_bin (fun x y => x + y) 125 lo st h) := run_s rfl
theorem rq_X8_inkBetween_125 {lo : Lo} {st : List Value} {h : Hp} {Q : Option Value → Hp → Prop} : Run 44 125 lo st h Q = Cnt 44 Q (xo_m2 (fun x y => if y < x then y else x) 128 lo st h) := run_s rfl
theorem rq_X8_inkBetween_128 {lo : Lo} {st : List Value} {h : Hp} {Q : Option Value → Hp → Prop} : Run 44 128 lo st h Q = Cnt 44 Q (xo_istore 10 130 lo st h) := run_s rfl
theorem rq_X8_inkBetween_130 {lo : Lo} {st : List Value} {h : Hp} {Q : Option Value → Hp → Prop} : Run 44 130 lo st h Q = Cnt 44 Q (xo_iload 9 132 lo st h) := run_s rfl
theorem rq_X8_inkBetween_132 {lo : Lo} {st : List Value} {h : Hp} {Q : Option Value → Hp → Prop} : Run 44 132 lo st h Q = Cnt 44 Q (xo_istore 11 134 lo st h) := run_s rfl
theorem rq_X8_inkBetween_134 {lo : Lo} {st : List Value} {h : Hp} {Q : Option Value → Hp → Prop} : Run 44 134 lo st h Q = Cnt 44 Q (xo_iload 11 136 lo st h) := run_s rfl
theorem rq_X8_inkBetween_136 {lo : Lo} {st : List Value} {h : Hp} {Q : Option Value → Hp → Prop} : Run 44 136 lo st h Q = Cnt 44 Q (xo_iload 10 138 lo st h) := run_s rfl
theorem rq_X8_inkBetween_138 {lo : Lo} {st : List Value} {h : Hp} {Q : Option Value → Hp → Prop} : Run 44 138 lo st h Q = Cnt 44 Q (xo_if2 (fun x y => decide (x > y)) 198 141 lo st h) := run_s rfl
theorem rq_X8_inkBetween_141 {lo : Lo} {st : List Value} {h : Hp} {Q : Option Value → Hp → Prop} : Run 44 141 lo st h Q = Cnt 44 Q (xo_iload 7 143 lo st h) := run_s rfl
theorem rq_X8_inkBetween_143 {lo : Lo} {st : List Value} {h : Hp} {Q : Option Value → Hp → Prop} : Run 44 143 lo st h Q = Cnt 44 Q (xo_istore 12 145 lo st h) := run_s rfl
theorem rq_X8_inkBetween_145 {lo : Lo} {st : List Value} {h : Hp} {Q : Option Value → Hp → Prop} : Run 44 145 lo st h Q = Cnt 44 Q (xo_iload 12 147 lo st h) := run_s rfl
theorem rq_X8_inkBetween_147 {lo : Lo} {st : List Value} {h : Hp} {Q : Option Value → Hp → Prop} : Run 44 147 lo st h Q = Cnt 44 Q (xo_iload 8 149 lo st h) := run_s rfl
theorem rq_X8_inkBetween_149 {lo : Lo} {st : List Value} {h : Hp} {Q : Option Value → Hp → Prop} : Run 44 149 lo st h Q = Cnt 44 Q (xo_if2 (fun x y => decide (x > y)) 192 152 lo st h) := run_s rfl
theorem rq_X8_inkBetween_152 {lo : Lo} {st : List Value} {h : Hp} {Q : Option Value → Hp → Prop} : Run 44 152 lo st h Q = Cnt 44 Q (xo_aload 0 153 lo st h) := run_s rfl
theorem rq_X8_inkBetween_153 {lo : Lo} {st : List Value} {h : Hp} {Q : Option Value → Hp → Prop} : Run 44 153 lo st h Q = Cnt 44 Q (xo_iload 12 155 lo st h) := run_s rfl
theorem rq_X8_inkBetween_155 {lo : Lo} {st : List Value} {h : Hp} {Q : Option Value → Hp → Prop} : Run 44 155 lo st h Q = Cnt 44 Q (xo_iload 3 156 lo st h) := run_s rfl
theorem rq_X8_inkBetween_156 {lo : Lo} {st : List Value} {h : Hp} {Q : Option Value → Hp → Prop} : Run 44 156 lo st h Q = Cnt 44 Q (xo_bin (fun x y => x - y) 157 lo st h) := run_s rfl
theorem rq_X8_inkBetween_157 {lo : Lo} {st : List Value} {h : Hp} {Q : Option Value → Hp → Prop} : Run 44 157 lo st h Q = Cnt 44 Q (xo_iload 11 159 lo st h) := run_s rfl
theorem rq_X8_inkBetween_159 {lo : Lo} {st : List Value} {h : Hp} {Q : Option Value → Hp → Prop} : Run 44 159 lo st h Q = Cnt 44 Q (xo_iload 4 161 lo st h) := run_s rfl
theorem rq_X8_inkBetween_161 {lo : Lo} {st : List Value} {h : Hp} {Q : Option Value → Hp → Prop} : Run 44 161 lo st h Q = Cnt 44 Q (xo_bin (fun x y => x - y) 162 lo st h) := run_s rfl
theorem rq_X8_inkBetween_162 {lo : Lo} {st : List Value} {h : Hp} {Q : Option Value → Hp → Prop} : Run 44 162 lo st h Q = Cnt 44 Q (xo_iload 5 164 lo st h) := run_s rfl
theorem rq_X8_inkBetween_164 {lo : Lo} {st : List Value} {h : Hp} {Q : Option Value → Hp → Prop} : Run 44 164 lo st h Q = Cnt 44 Q (xo_iload 6 166 lo st h) := run_s rfl
theorem rq_X8_inkBetween_166 {lo : Lo} {st : List Value} {h : Hp} {Q : Option Value → Hp → Prop} : Run 44 166 lo st h Q = CCall 45 5 (some 8) st h (Knt 44 169 lo (st.drop 5) Q) := run_c rfl
theorem rq_X8_inkBetween_169 {lo : Lo} {st : List Value} {h : Hp} {Q : Option Value → Hp → Prop} : Run 44 169 lo st h Q = Cnt 44 Q (xo_if1 (fun x => decide (x = 0)) 186 172 lo st h) := run_s rfl
theorem rq_X8_inkBetween_172 {lo : Lo} {st : List Value} {h : Hp} {Q : Option Value → Hp → Prop} : Run 44 172 lo st h Q = Cnt 44 Q (xo_aload 0 173 lo st h) := run_s rfl
theorem rq_X8_inkBetween_173 {lo : Lo} {st : List Value} {h : Hp} {Q : Option Value → Hp → Prop} : Run 44 173 lo st h Q = Cnt 44 Q (xo_getf 8 5 176 lo st h) := run_s rfl
theorem rq_X8_inkBetween_176 {lo : Lo} {st : List Value} {h : Hp} {Q : Option Value → Hp → Prop} : Run 44 176 lo st h Q = Cnt 44 Q (xo_iload 11 178 lo st h) := run_s rfl
theorem rq_X8_inkBetween_178 {lo : Lo} {st : List Value} {h : Hp} {Q : Option Value → Hp → Prop} : Run 44 178 lo st h Q = Cnt 44 Q (xo_dup2 179 lo st h) := run_s rfl
theorem rq_X8_inkBetween_179 {lo : Lo} {st : List Value} {h : Hp} {Q : Option Value → Hp → Prop} : Run 44 179 lo st h Q = Cnt 44 Q (xo_iald 180 lo st h) := run_s rfl
theorem rq_X8_inkBetween_180 {lo : Lo} {st : List Value} {h : Hp} {Q : Option Value → Hp → Prop} : Run 44 180 lo st h Q = Cnt 44 Q (xo_const (.int 1) 181 lo st h) := run_s rfl
theorem rq_X8_inkBetween_181 {lo : Lo} {st : List Value} {h : Hp} {Q : Option Value → Hp → Prop} : Run 44 181 lo st h Q = Cnt 44 Q (xo_iload 12 183 lo st h) := run_s rfl
theorem rq_X8_inkBetween_183 {lo : Lo} {st : List Value} {h : Hp} {Q : Option Value → Hp → Prop} : Run 44 183 lo st h Q = Cnt 44 Q (xo_bin (fun x y => x <<< (y &&& 31)) 184 lo st h) := run_s rfl
theorem rq_X8_inkBetween_184 {lo : Lo} {st : List Value} {h : Hp} {Q : Option Value → Hp → Prop} : Run 44 184 lo st h Q = Cnt 44 Q (xo_bin (fun x y => x ||| y) 185 lo st h) := run_s rfl
theorem rq_X8_inkBetween_185 {lo : Lo} {st : List Value} {h : Hp} {Q : Option Value → Hp → Prop} : Run 44 185 lo st h Q = Cnt 44 Q (xo_iast 186 lo st h) := run_s rfl
theorem rq_X8_inkBetween_186 {lo : Lo} {st : List Value} {h : Hp} {Q : Option Value → Hp → Prop} : Run 44 186 lo st h Q = Cnt 44 Q (xo_iinc 12 1 189 lo st h) := run_s rfl
theorem rq_X8_inkBetween_189 {lo : Lo} {st : List Value} {h : Hp} {Q : Option Value → Hp → Prop} : Run 44 189 lo st h Q = Cnt 44 Q (xo_goto 145 lo st h) := run_s rfl
theorem rq_X8_inkBetween_192 {lo : Lo} {st : List Value} {h : Hp} {Q : Option Value → Hp → Prop} : Run 44 192 lo st h Q = Cnt 44 Q (xo_iinc 11 1 195 lo st h) := run_s rfl
theorem rq_X8_inkBetween_195 {lo : Lo} {st : List Value} {h : Hp} {Q : Option Value → Hp → Prop} : Run 44 195 lo st h Q = Cnt 44 Q (xo_goto 134 lo st h) := run_s rfl
theorem rq_X8_inkBetween_198 {lo : Lo} {st : List Value} {h : Hp} {Q : Option Value → Hp → Prop} : Run 44 198 lo st h Q = Cnt 44 Q (xo_vret lo st h) := run_s rfl
theorem rq_X8_covers_0 {lo : Lo} {st : List Value} {h : Hp} {Q : Option Value → Hp → Prop} : Run 45 0 lo st h Q = Cnt 45 Q (xo_iload 3 1 lo st h) := run_s rfl
theorem rq_X8_covers_1 {lo : Lo} {st : List Value} {h : Hp} {Q : Option Value → Hp → Prop} : Run 45 1 lo st h Q = Cnt 45 Q (xo_aload 0 2 lo st h) := run_s rfl
theorem rq_X8_covers_2 {lo : Lo} {st : List Value} {h : Hp} {Q : Option Value → Hp → Prop} : Run 45 2 lo st h Q = Cnt 45 Q (xo_getf 8 2 5 lo st h) := run_s rfl
theorem rq_X8_covers_5 {lo : Lo} {st : List Value} {h : Hp} {Q : Option Value → Hp → Prop} : Run 45 5 lo st h Q = Cnt 45 Q (xo_bin (fun x y => x * y) 6 lo st h) := run_s rfl
theorem rq_X8_covers_6 {lo : Lo} {st : List Value} {h : Hp} {Q : Option Value → Hp → Prop} : Run 45 6 lo st h Q = Cnt 45 Q (xo_iload 4 8 lo st h) := run_s rfl
theorem rq_X8_covers_8 {lo : Lo} {st : List Value} {h : Hp} {Q : Option Value → Hp → Prop} : Run 45 8 lo st h Q = Cnt 45 Q (xo_aload 0 9 lo st h) := run_s rfl
theorem rq_X8_covers_9 {lo : Lo} {st : List Value} {h : Hp} {Q : Option Value → Hp → Prop} : Run 45 9 lo st h Q = Cnt 45 Q (xo_getf 8 1 12 lo st h) := run_s rfl
theorem rq_X8_covers_12 {lo : Lo} {st : List Value} {h : Hp} {Q : Option Value → Hp → Prop} : Run 45 12 lo st h Q = Cnt 45 Q (xo_bin (fun x y => x * y) 13 lo st h) := run_s rfl
theorem rq_X8_covers_13 {lo : Lo} {st : List Value} {h : Hp} {Q : Option Value → Hp → Prop} : Run 45 13 lo st h Q = Cnt 45 Q (xo_bin (fun x y => x - y) 14 lo st h) := run_s rfl
theorem rq_X8_covers_14 {lo : Lo} {st : List Value} {h : Hp} {Q : Option Value → Hp → Prop} : Run 45 14 lo st h Q = Cnt 45 Q (xo_istore 5 16 lo st h) := run_s rfl
theorem rq_X8_covers_16 {lo : Lo} {st : List Value} {h : Hp} {Q : Option Value → Hp → Prop} : Run 45 16 lo st h Q = Cnt 45 Q (xo_iload 1 17 lo st h) := run_s rfl
theorem rq_X8_covers_17 {lo : Lo} {st : List Value} {h : Hp} {Q : Option Value → Hp → Prop} : Run 45 17 lo st h Q = Cnt 45 Q (xo_aload 0 18 lo st h) := run_s rfl
theorem rq_X8_covers_18 {lo : Lo} {st : List Value} {h : Hp} {Q : Option Value → Hp → Prop} : Run 45 18 lo st h Q = Cnt 45 Q (xo_getf 8 2 21 lo st h) := run_s rfl
theorem rq_X8_covers_21 {lo : Lo} {st : List Value} {h : Hp} {Q : Option Value → Hp → Prop} : Run 45 21 lo st h Q = Cnt 45 Q (xo_bin (fun x y => x * y) 22 lo st h) := run_s rfl
theorem rq_X8_covers_22 {lo : Lo} {st : List Value} {h : Hp} {Q : Option Value → Hp → Prop} : Run 45 22 lo st h Q = Cnt 45 Q (xo_iload 2 23 lo st h) := run_s rfl
theorem rq_X8_covers_23 {lo : Lo} {st : List Value} {h : Hp} {Q : Option Value → Hp → Prop} : Run 45 23 lo st h Q = Cnt 45 Q (xo_aload 0 24 lo st h) := run_s rfl
theorem rq_X8_covers_24 {lo : Lo} {st : List Value} {h : Hp} {Q : Option Value → Hp → Prop} : Run 45 24 lo st h Q = Cnt 45 Q (xo_getf 8 1 27 lo st h) := run_s rfl
theorem rq_X8_covers_27 {lo : Lo} {st : List Value} {h : Hp} {Q : Option Value → Hp → Prop} : Run 45 27 lo st h Q = Cnt 45 Q (xo_bin (fun x y => x * y) 28 lo st h) := run_s rfl
theorem rq_X8_covers_28 {lo : Lo} {st : List Value} {h : Hp} {Q : Option Value → Hp → Prop} : Run 45 28 lo st h Q = Cnt 45 Q (xo_bin (fun x y => x - y) 29 lo st h) := run_s rfl
theorem rq_X8_covers_29 {lo : Lo} {st : List Value} {h : Hp} {Q : Option Value → Hp → Prop} : Run 45 29 lo st h Q = Cnt 45 Q (xo_istore 6 31 lo st h) := run_s rfl
theorem rq_X8_covers_31 {lo : Lo} {st : List Value} {h : Hp} {Q : Option Value → Hp → Prop} : Run 45 31 lo st h Q = Cnt 45 Q (xo_iload 5 33 lo st h) := run_s rfl
theorem rq_X8_covers_33 {lo : Lo} {st : List Value} {h : Hp} {Q : Option Value → Hp → Prop} : Run 45 33 lo st h Q = Cnt 45 Q (xo_if1 (fun x => decide (¬ x = 0)) 81 36 lo st h) := run_s rfl
theorem rq_X8_covers_36 {lo : Lo} {st : List Value} {h : Hp} {Q : Option Value → Hp → Prop} : Run 45 36 lo st h Q = Cnt 45 Q (xo_iload 6 38 lo st h) := run_s rfl
theorem rq_X8_covers_38 {lo : Lo} {st : List Value} {h : Hp} {Q : Option Value → Hp → Prop} : Run 45 38 lo st h Q = Cnt 45 Q (xo_if1 (fun x => decide (¬ x = 0)) 79 41 lo st h) := run_s rfl
theorem rq_X8_covers_41 {lo : Lo} {st : List Value} {h : Hp} {Q : Option Value → Hp → Prop} : Run 45 41 lo st h Q = Cnt 45 Q (xo_aload 0 42 lo st h) := run_s rfl
theorem rq_X8_covers_42 {lo : Lo} {st : List Value} {h : Hp} {Q : Option Value → Hp → Prop} : Run 45 42 lo st h Q = Cnt 45 Q (xo_iload 1 43 lo st h) := run_s rfl
theorem rq_X8_covers_43 {lo : Lo} {st : List Value} {h : Hp} {Q : Option Value → Hp → Prop} : Run 45 43 lo st h Q = Cnt 45 Q (xo_aload 0 44 lo st h) := run_s rfl
theorem rq_X8_covers_44 {lo : Lo} {st : List Value} {h : Hp} {Q : Option Value → Hp → Prop} : Run 45 44 lo st h Q = Cnt 45 Q (xo_getf 8 1 47 lo st h) := run_s rfl
theorem rq_X8_covers_47 {lo : Lo} {st : List Value} {h : Hp} {Q : Option Value → Hp → Prop} : Run 45 47 lo st h Q = Cnt 45 Q (xo_bin (fun x y => x * y) 48 lo st h) := run_s rfl
theorem rq_X8_covers_48 {lo : Lo} {st : List Value} {h : Hp} {Q : Option Value → Hp → Prop} : Run 45 48 lo st h Q = Cnt 45 Q (xo_iload 2 49 lo st h) := run_s rfl
theorem rq_X8_covers_49 {lo : Lo} {st : List Value} {h : Hp} {Q : Option Value → Hp → Prop} : Run 45 49 lo st h Q = Cnt 45 Q (xo_aload 0 50 lo st h) := run_s rfl
theorem rq_X8_covers_50 {lo : Lo} {st : List Value} {h : Hp} {Q : Option Value → Hp → Prop} : Run 45 50 lo st h Q = Cnt 45 Q (xo_getf 8 2 53 lo st h) := run_s rfl
theorem rq_X8_covers_53 {lo : Lo} {st : List Value} {h : Hp} {Q : Option Value → Hp → Prop} : Run 45 53 lo st h Q = Cnt 45 Q (xo_bin (fun x y => x * y) 54 lo st h) := run_s rfl
theorem rq_X8_covers_54 {lo : Lo} {st : List Value} {h : Hp} {Q : Option Value → Hp → Prop} : Run 45 54 lo st h Q = Cnt 45 Q (xo_bin (fun x y => x + y) 55 lo st h) := run_s rfl
theorem rq_X8_covers_55 {lo : Lo} {st : List Value} {h : Hp} {Q : Option Value → Hp → Prop} : Run 45 55 lo st h Q = Cnt 45 Q (xo_iload 3 56 lo st h) := run_s rfl
theorem rq_X8_covers_56 {lo : Lo} {st : List Value} {h : Hp} {Q : Option Value → Hp → Prop} : Run 45 56 lo st h Q = Cnt 45 Q (xo_aload 0 57 lo st h) := run_s rfl
theorem rq_X8_covers_57 {lo : Lo} {st : List Value} {h : Hp} {Q : Option Value → Hp → Prop} : Run 45 57 lo st h Q = Cnt 45 Q (xo_getf 8 1 60 lo st h) := run_s rfl
theorem rq_X8_covers_60 {lo : Lo} {st : List Value} {h : Hp} {Q : Option Value → Hp → Prop} : Run 45 60 lo st h Q = Cnt 45 Q (xo_bin (fun x y => x * y) 61 lo st h) := run_s rfl
theorem rq_X8_covers_61 {lo : Lo} {st : List Value} {h : Hp} {Q : Option Value → Hp → Prop} : Run 45 61 lo st h Q = Cnt 45 Q (xo_iload 4 63 lo st h) := run_s rfl
theorem rq_X8_covers_63 {lo : Lo} {st : List Value} {h : Hp} {Q : Option Value → Hp → Prop} : Run 45 63 lo st h Q = Cnt 45 Q (xo_aload 0 64 lo st h) := run_s rfl
theorem rq_X8_covers_64 {lo : Lo} {st : List Value} {h : Hp} {Q : Option Value → Hp → Prop} : Run 45 64 lo st h Q = Cnt 45 Q (xo_getf 8 2 67 lo st h) := run_s rfl
theorem rq_X8_covers_67 {lo : Lo} {st : List Value} {h : Hp} {Q : Option Value → Hp → Prop} : Run 45 67 lo st h Q = Cnt 45 Q (xo_bin (fun x y => x * y) 68 lo st h) := run_s rfl
theorem rq_X8_covers_68 {lo : Lo} {st : List Value} {h : Hp} {Q : Option Value → Hp → Prop} : Run 45 68 lo st h Q = Cnt 45 Q (xo_bin (fun x y => x + y) 69 lo st h) := run_s rfl
theorem rq_X8_covers_69 {lo : Lo} {st : List Value} {h : Hp} {Q : Option Value → Hp → Prop} : Run 45 69 lo st h Q = CCall 46 3 (some 8) st h (Knt 45 72 lo (st.drop 3) Q) := run_c rfl
theorem rq_X8_covers_72 {lo : Lo} {st : List Value} {h : Hp} {Q : Option Value → Hp → Prop} : Run 45 72 lo st h Q = Cnt 45 Q (xo_if1 (fun x => decide (x = 0)) 79 75 lo st h) := run_s rfl
theorem rq_X8_covers_75 {lo : Lo} {st : List Value} {h : Hp} {Q : Option Value → Hp → Prop} : Run 45 75 lo st h Q = Cnt 45 Q (xo_const (.int 1) 76 lo st h) := run_s rfl
theorem rq_X8_covers_76 {lo : Lo} {st : List Value} {h : Hp} {Q : Option Value → Hp → Prop} : Run 45 76 lo st h Q = Cnt 45 Q (xo_goto 80 lo st h) := run_s rfl
theorem rq_X8_covers_79 {lo : Lo} {st : List Value} {h : Hp} {Q : Option Value → Hp → Prop} : Run 45 79 lo st h Q = Cnt 45 Q (xo_const (.int 0) 80 lo st h) := run_s rfl
theorem rq_X8_covers_80 {lo : Lo} {st : List Value} {h : Hp} {Q : Option Value → Hp → Prop} : Run 45 80 lo st h Q = Cnt 45 Q (xo_zret lo st h) := run_s rfl
theorem rq_X8_covers_81 {lo : Lo} {st : List Value} {h : Hp} {Q : Option Value → Hp → Prop} : Run 45 81 lo st h Q = Cnt 45 Q (xo_iload 3 82 lo st h) := run_s rfl
theorem rq_X8_covers_82 {lo : Lo} {st : List Value} {h : Hp} {Q : Option Value → Hp → Prop} : Run 45 82 lo st h Q = Cnt 45 Q (xo_iload 2 83 lo st h) := run_s rfl
theorem rq_X8_covers_83 {lo : Lo} {st : List Value} {h : Hp} {Q : Option Value → Hp → Prop} : Run 45 83 lo st h Q = Cnt 45 Q (xo_bin (fun x y => x * y) 84 lo st h) := run_s rfl
theorem rq_X8_covers_84 {lo : Lo} {st : List Value} {h : Hp} {Q : Option Value → Hp → Prop} : Run 45 84 lo st h Q = Cnt 45 Q (xo_iload 4 86 lo st h) := run_s rfl
theorem rq_X8_covers_86 {lo : Lo} {st : List Value} {h : Hp} {Q : Option Value → Hp → Prop} : Run 45 86 lo st h Q = Cnt 45 Q (xo_iload 1 87 lo st h) := run_s rfl
theorem rq_X8_covers_87 {lo : Lo} {st : List Value} {h : Hp} {Q : Option Value → Hp → Prop} : Run 45 87 lo st h Q = Cnt 45 Q (xo_bin (fun x y => x * y) 88 lo st h) := run_s rfl
theorem rq_X8_covers_88 {lo : Lo} {st : List Value} {h : Hp} {Q : Option Value → Hp → Prop} : Run 45 88 lo st h Q = Cnt 45 Q (xo_bin (fun x y => x - y) 89 lo st h) := run_s rfl
theorem rq_X8_covers_89 {lo : Lo} {st : List Value} {h : Hp} {Q : Option Value → Hp → Prop} : Run 45 89 lo st h Q = Cnt 45 Q (xo_istore 7 91 lo st h) := run_s rfl
theorem rq_X8_covers_91 {lo : Lo} {st : List Value} {h : Hp} {Q : Option Value → Hp → Prop} : Run 45 91 lo st h Q = Cnt 45 Q (xo_iload 5 93 lo st h) := run_s rfl
theorem rq_X8_covers_93 {lo : Lo} {st : List Value} {h : Hp} {Q : Option Value → Hp → Prop} : Run 45 93 lo st h Q = Cnt 45 Q (xo_if1 (fun x => decide (x ≥ 0)) 106 96 lo st h) := run_s rfl
theorem rq_X8_covers_96 {lo : Lo} {st : List Value} {h : Hp} {Q : Option Value → Hp → Prop} : Run 45 96 lo st h Q = Cnt 45 Q (xo_iload 5 98 lo st h) := run_s rfl
theorem rq_X8_covers_98 {lo : Lo} {st : List Value} {h : Hp} {Q : Option Value → Hp → Prop} : Run 45 98 lo st h Q = Cnt 45 Q (xo_un (fun x => -x) 99 lo st h) := run_s rfl
theorem rq_X8_covers_99 {lo : Lo} {st : List Value} {h : Hp} {Q : Option Value → Hp → Prop} : Run 45 99 lo st h Q = Cnt 45 Q (xo_istore 5 101 lo st h) := run_s rfl
theorem rq_X8_covers_101 {lo : Lo} {st : List Value} {h : Hp} {Q : Option Value → Hp → Prop} : Run 45 101 lo st h Q = Cnt 45 Q (xo_iload 6 103 lo st h) := run_s rfl
theorem rq_X8_covers_103 {lo : Lo} {st : List Value} {h : Hp} {Q : Option Value → Hp → Prop} : Run 45 103 lo st h Q = Cnt 45 Q (xo_un (fun x => -x) 104 lo st h) := run_s rfl
theorem rq_X8_covers_104 {lo : Lo} {st : List Value} {h : Hp} {Q : Option Value → Hp → Prop} : Run 45 104 lo st h Q = Cnt 45 Q (xo_istore 6 106 lo st h) := run_s rfl
theorem rq_X8_covers_106 {lo : Lo} {st : List Value} {h : Hp} {Q : Option Value → Hp → Prop} : Run 45 106 lo st h Q = Cnt 45 Q (xo_iload 6 108 lo st h) := run_s rfl
theorem rq_X8_covers_108 {lo : Lo} {st : List Value} {h : Hp} {Q : Option Value → Hp → Prop} : Run 45 108 lo st h Q = Cnt 45 Q (xo_const (.int 0) 109 lo st h) := run_s rfl
theorem rq_X8_covers_109 {lo : Lo} {st : List Value} {h : Hp} {Q : Option Value → Hp → Prop} : Run 45 109 lo st h Q = Cnt 45 Q (xo_iload 5 111 lo st h) := run_s rfl
theorem rq_X8_covers_111 {lo : Lo} {st : List Value} {h : Hp} {Q : Option Value → Hp → Prop} : Run 45 111 lo st h Q = CCall 98 3 none st h (Knt 45 114 lo (st.drop 3) Q) := run_c rfl
theorem rq_X8_covers_114 {lo : Lo} {st : List Value} {h : Hp} {Q : Option Value → Hp → Prop} : Run 45 114 lo st h Q = Cnt 45 Q (xo_if1 (fun x => decide (x = 0)) 134 117 lo st h) := run_s rfl
theorem rq_X8_covers_117 {lo : Lo} {st : List Value} {h : Hp} {Q : Option Value → Hp → Prop} : Run 45 117 lo st h Q = Cnt 45 Q (xo_iload 7 119 lo st h) := run_s rfl
theorem rq_X8_covers_119 {lo : Lo} {st : List Value} {h : Hp} {Q : Option Value → Hp → Prop} : Run 45 119 lo st h Q = Cnt 45 Q (xo_iload 5 121 lo st h) := run_s rfl
theorem rq_X8_covers_121 {lo : Lo} {st : List Value} {h : Hp} {Q : Option Value → Hp → Prop} : Run 45 121 lo st h Q = Cnt 45 Q (xo_un (fun x => -x) 122 lo st h) := run_s rfl
theorem rq_X8_covers_122 {lo : Lo} {st : List Value} {h : Hp} {Q : Option Value → Hp → Prop} : Run 45 122 lo st h Q = Cnt 45 Q (xo_iload 5 124 lo st h) := run_s rfl
theorem rq_X8_covers_124 {lo : Lo} {st : List Value} {h : Hp} {Q : Option Value → Hp → Prop} : Run 45 124 lo st h Q = CCall 98 3 none st h (Knt 45 127 lo (st.drop 3) Q) := run_c rfl
theorem rq_X8_covers_127 {lo : Lo} {st : List Value} {h : Hp} {Q : Option Value → Hp → Prop} : Run 45 127 lo st h Q = Cnt 45 Q (xo_if1 (fun x => decide (x = 0)) 134 130 lo st h) := run_s rfl
theorem rq_X8_covers_130 {lo : Lo} {st : List Value} {h : Hp} {Q : Option Value → Hp → Prop} : Run 45 130 lo st h Q = Cnt 45 Q (xo_const (.int 1) 131 lo st h) := run_s rfl
theorem rq_X8_covers_131 {lo : Lo} {st : List Value} {h : Hp} {Q : Option Value → Hp → Prop} : Run 45 131 lo st h Q = Cnt 45 Q (xo_goto 135 lo st h) := run_s rfl
theorem rq_X8_covers_134 {lo : Lo} {st : List Value} {h : Hp} {Q : Option Value → Hp → Prop} : Run 45 134 lo st h Q = Cnt 45 Q (xo_const (.int 0) 135 lo st h) := run_s rfl
theorem rq_X8_covers_135 {lo : Lo} {st : List Value} {h : Hp} {Q : Option Value → Hp → Prop} : Run 45 135 lo st h Q = Cnt 45 Q (xo_zret lo st h) := run_s rfl
theorem rq_X8_coversOnItsLine_0 {lo : Lo} {st : List Value} {h : Hp} {Q : Option Value → Hp → Prop} : Run 46 0 lo st h Q = Cnt 46 Q (xo_aload 0 1 lo st h) := run_s rfl
theorem rq_X8_coversOnItsLine_1 {lo : Lo} {st : List Value} {h : Hp} {Q : Option Value → Hp → Prop} : Run 46 1 lo st h Q = Cnt 46 Q (xo_getf 8 1 4 lo st h) := run_s rfl
theorem rq_X8_coversOnItsLine_4 {lo : Lo} {st : List Value} {h : Hp} {Q : Option Value → Hp → Prop} : Run 46 4 lo st h Q = Cnt 46 Q (xo_aload 0 5 lo st h) := run_s rfl
theorem rq_X8_coversOnItsLine_5 {lo : Lo} {st : List Value} {h : Hp} {Q : Option Value → Hp → Prop} : Run 46 5 lo st h Q = Cnt 46 Q (xo_getf 8 1 8 lo st h) := run_s rfl
theorem rq_X8_coversOnItsLine_8 {lo : Lo} {st : List Value} {h : Hp} {Q : Option Value → Hp → Prop} : Run 46 8 lo st h Q = Cnt 46 Q (xo_bin (fun x y => x * y) 9 lo st h) := run_s rfl
theorem rq_X8_coversOnItsLine_9 {lo : Lo} {st : List Value} {h : Hp} {Q : Option Value → Hp → Prop} : Run 46 9 lo st h Q = Cnt 46 Q (xo_aload 0 10 lo st h) := run_s rfl
theorem rq_X8_coversOnItsLine_10 {lo : Lo} {st : List Value} {h : Hp} {Q : Option Value → Hp → Prop} : Run 46 10 lo st h Q = Cnt 46 Q (xo_getf 8 2 13 lo st h) := run_s rfl
theorem rq_X8_coversOnItsLine_13 {lo : Lo} {st : List Value} {h : Hp} {Q : Option Value → Hp → Prop} : Run 46 13 lo st h Q = Cnt 46 Q (xo_aload 0 14 lo st h) := run_s rfl
theorem rq_X8_coversOnItsLine_14 {lo : Lo} {st : List Value} {h : Hp} {Q : Option Value → Hp → Prop} : Run 46 14 lo st h Q = Cnt 46 Q (xo_getf 8 2 17 lo st h) := run_s rfl
theorem rq_X8_coversOnItsLine_17 {lo : Lo} {st : List Value} {h : Hp} {Q : Option Value → Hp → Prop} : Run 46 17 lo st h Q = Cnt 46 Q (xo_bin (fun x y => x * y) 18 lo st h) := run_s rfl
theorem rq_X8_coversOnItsLine_18 {lo : Lo} {st : List Value} {h : Hp} {Q : Option Value → Hp → Prop} : Run 46 18 lo st h Q = Cnt 46 Q (xo_bin (fun x y => x + y) 19 lo st h) := run_s rfl
theorem rq_X8_coversOnItsLine_19 {lo : Lo} {st : List Value} {h : Hp} {Q : Option Value → Hp → Prop} : Run 46 19 lo st h Q = Cnt 46 Q (xo_istore 3 20 lo st h) := run_s rfl
theorem rq_X8_coversOnItsLine_20 {lo : Lo} {st : List Value} {h : Hp} {Q : Option Value → Hp → Prop} : Run 46 20 lo st h Q = Cnt 46 Q (xo_iload 1 21 lo st h) := run_s rfl
theorem rq_X8_coversOnItsLine_21 {lo : Lo} {st : List Value} {h : Hp} {Q : Option Value → Hp → Prop} : Run 46 21 lo st h Q = Cnt 46 Q (xo_const (.int 0) 22 lo st h) := run_s rfl
theorem rq_X8_coversOnItsLine_22 {lo : Lo} {st : List Value} {h : Hp} {Q : Option Value → Hp → Prop} : Run 46 22 lo st h Q = Cnt 46 Q (xo_iload 2 23 lo st h) := run_s rfl
theorem rq_X8_coversOnItsLine_23 {lo : Lo} {st : List Value} {h : Hp} {Q : Option Value → Hp → Prop} : Run 46 23 lo st h Q = Cnt 46 Q (xo_m2 (fun x y => if y < x then y else x) 26 lo st h) := run_s rfl
theorem rq_X8_coversOnItsLine_26 {lo : Lo} {st : List Value} {h : Hp} {Q : Option Value → Hp → Prop} : Run 46 26 lo st h Q = Cnt 46 Q (xo_iload 3 27 lo st h) := run_s rfl
theorem rq_X8_coversOnItsLine_27 {lo : Lo} {st : List Value} {h : Hp} {Q : Option Value → Hp → Prop} : Run 46 27 lo st h Q = Cnt 46 Q (xo_bin (fun x y => x - y) 28 lo st h) := run_s rfl
theorem rq_X8_coversOnItsLine_28 {lo : Lo} {st : List Value} {h : Hp} {Q : Option Value → Hp → Prop} : Run 46 28 lo st h Q = Cnt 46 Q (xo_const (.int 0) 29 lo st h) := run_s rfl
theorem rq_X8_coversOnItsLine_29 {lo : Lo} {st : List Value} {h : Hp} {Q : Option Value → Hp → Prop} : Run 46 29 lo st h Q = Cnt 46 Q (xo_iload 2 30 lo st h) := run_s rfl
theorem rq_X8_coversOnItsLine_30 {lo : Lo} {st : List Value} {h : Hp} {Q : Option Value → Hp → Prop} : Run 46 30 lo st h Q = Cnt 46 Q (xo_m2 (fun x y => if x < y then y else x) 33 lo st h) := run_s rfl
theorem rq_X8_coversOnItsLine_33 {lo : Lo} {st : List Value} {h : Hp} {Q : Option Value → Hp → Prop} : Run 46 33 lo st h Q = Cnt 46 Q (xo_iload 3 34 lo st h) := run_s rfl
theorem rq_X8_coversOnItsLine_34 {lo : Lo} {st : List Value} {h : Hp} {Q : Option Value → Hp → Prop} : Run 46 34 lo st h Q = Cnt 46 Q (xo_bin (fun x y => x + y) 35 lo st h) := run_s rfl
theorem rq_X8_coversOnItsLine_35 {lo : Lo} {st : List Value} {h : Hp} {Q : Option Value → Hp → Prop} : Run 46 35 lo st h Q = CCall 98 3 none st h (Knt 46 38 lo (st.drop 3) Q) := run_c rfl
theorem rq_X8_coversOnItsLine_38 {lo : Lo} {st : List Value} {h : Hp} {Q : Option Value → Hp → Prop} : Run 46 38 lo st h Q = Cnt 46 Q (xo_zret lo st h) := run_s rfl
theorem rq_X8_countSteps_0 {lo : Lo} {st : List Value} {h : Hp} {Q : Option Value → Hp → Prop} : Run 47 0 lo st h Q = Cnt 47 Q (xo_aload 0 1 lo st h) := run_s rfl
theorem rq_X8_countSteps_1 {lo : Lo} {st : List Value} {h : Hp} {Q : Option Value → Hp → Prop} : Run 47 1 lo st h Q = Cnt 47 Q (xo_getf 8 0 4 lo st h) := run_s rfl
theorem rq_X8_countSteps_4 {lo : Lo} {st : List Value} {h : Hp} {Q : Option Value → Hp → Prop} : Run 47 4 lo st h Q = Cnt 47 Q (xo_const (.int 1) 5 lo st h) := run_s rfl
theorem rq_X8_countSteps_5 {lo : Lo} {st : List Value} {h : Hp} {Q : Option Value → Hp → Prop} : Run 47 5 lo st h Q = Cnt 47 Q (xo_bin (fun x y => x - y) 6 lo st h) := run_s rfl
theorem rq_X8_countSteps_6 {lo : Lo} {st : List Value} {h : Hp} {Q : Option Value → Hp → Prop} : Run 47 6 lo st h Q = Cnt 47 Q (xo_iret lo st h) := run_s rfl
theorem rq_X8_hasStep_0 {lo : Lo} {st : List Value} {h : Hp} {Q : Option Value → Hp → Prop} : Run 48 0 lo st h Q = Cnt 48 Q (xo_iload 1 1 lo st h) := run_s rfl
theorem rq_X8_hasStep_1 {lo : Lo} {st : List Value} {h : Hp} {Q : Option Value → Hp → Prop} : Run 48 1 lo st h Q = Cnt 48 Q (xo_if1 (fun x => decide (x < 0)) 18 4 lo st h) := run_s rfl
theorem rq_X8_hasStep_4 {lo : Lo} {st : List Value} {h : Hp} {Q : Option Value → Hp → Prop} : Run 48 4 lo st h Q = Cnt 48 Q (xo_iload 1 5 lo st h) := run_s rfl
theorem rq_X8_hasStep_5 {lo : Lo} {st : List Value} {h : Hp} {Q : Option Value → Hp → Prop} : Run 48 5 lo st h Q = Cnt 48 Q (xo_aload 0 6 lo st h) := run_s rfl
theorem rq_X8_hasStep_6 {lo : Lo} {st : List Value} {h : Hp} {Q : Option Value → Hp → Prop} : Run 48 6 lo st h Q = Cnt 48 Q (xo_getf 8 0 9 lo st h) := run_s rfl
theorem rq_X8_hasStep_9 {lo : Lo} {st : List Value} {h : Hp} {Q : Option Value → Hp → Prop} : Run 48 9 lo st h Q = Cnt 48 Q (xo_const (.int 1) 10 lo st h) := run_s rfl
theorem rq_X8_hasStep_10 {lo : Lo} {st : List Value} {h : Hp} {Q : Option Value → Hp → Prop} : Run 48 10 lo st h Q = Cnt 48 Q (xo_bin (fun x y => x - y) 11 lo st h) := run_s rfl
theorem rq_X8_hasStep_11 {lo : Lo} {st : List Value} {h : Hp} {Q : Option Value → Hp → Prop} : Run 48 11 lo st h Q = Cnt 48 Q (xo_if2 (fun x y => decide (x ≥ y)) 18 14 lo st h) := run_s rfl
theorem rq_X8_hasStep_14 {lo : Lo} {st : List Value} {h : Hp} {Q : Option Value → Hp → Prop} : Run 48 14 lo st h Q = Cnt 48 Q (xo_const (.int 1) 15 lo st h) := run_s rfl
theorem rq_X8_hasStep_15 {lo : Lo} {st : List Value} {h : Hp} {Q : Option Value → Hp → Prop} : Run 48 15 lo st h Q = Cnt 48 Q (xo_goto 19 lo st h) := run_s rfl
theorem rq_X8_hasStep_18 {lo : Lo} {st : List Value} {h : Hp} {Q : Option Value → Hp → Prop} : Run 48 18 lo st h Q = Cnt 48 Q (xo_const (.int 0) 19 lo st h) := run_s rfl
theorem rq_X8_hasStep_19 {lo : Lo} {st : List Value} {h : Hp} {Q : Option Value → Hp → Prop} : Run 48 19 lo st h Q = Cnt 48 Q (xo_zret lo st h) := run_s rfl
theorem rq_X8_stepX_0 {lo : Lo} {st : List Value} {h : Hp} {Q : Option Value → Hp → Prop} : Run 49 0 lo st h Q = Cnt 49 Q (xo_aload 0 1 lo st h) := run_s rfl
theorem rq_X8_stepX_1 {lo : Lo} {st : List Value} {h : Hp} {Q : Option Value → Hp → Prop} : Run 49 1 lo st h Q = Cnt 49 Q (xo_iload 1 2 lo st h) := run_s rfl
theorem rq_X8_stepX_2 {lo : Lo} {st : List Value} {h : Hp} {Q : Option Value → Hp → Prop} : Run 49 2 lo st h Q = CCall 48 2 (some 8) st h (Knt 49 5 lo (st.drop 2) Q) := run_c rfl
theorem rq_X8_stepX_5 {lo : Lo} {st : List Value} {h : Hp} {Q : Option Value → Hp → Prop} : Run 49 5 lo st h Q = Cnt 49 Q (xo_if1 (fun x => decide (x = 0)) 26 8 lo st h) := run_s rfl
theorem rq_X8_stepX_8 {lo : Lo} {st : List Value} {h : Hp} {Q : Option Value → Hp → Prop} : Run 49 8 lo st h Q = Cnt 49 Q (xo_aload 0 9 lo st h) := run_s rfl
theorem rq_X8_stepX_9 {lo : Lo} {st : List Value} {h : Hp} {Q : Option Value → Hp → Prop} : Run 49 9 lo st h Q = Cnt 49 Q (xo_getf 8 3 12 lo st h) := run_s rfl
theorem rq_X8_stepX_12 {lo : Lo} {st : List Value} {h : Hp} {Q : Option Value → Hp → Prop} : Run 49 12 lo st h Q = Cnt 49 Q (xo_iload 1 13 lo st h) := run_s rfl
theorem rq_X8_stepX_13 {lo : Lo} {st : List Value} {h : Hp} {Q : Option Value → Hp → Prop} : Run 49 13 lo st h Q = Cnt 49 Q (xo_const (.int 1) 14 lo st h) := run_s rfl
theorem rq_X8_stepX_14 {lo : Lo} {st : List Value} {h : Hp} {Q : Option Value → Hp → Prop} : Run 49 14 lo st h Q = Cnt 49 Q (xo_bin (fun x y => x + y) 15 lo st h) := run_s rfl
theorem rq_X8_stepX_15 {lo : Lo} {st : List Value} {h : Hp} {Q : Option Value → Hp → Prop} : Run 49 15 lo st h Q = Cnt 49 Q (xo_iald 16 lo st h) := run_s rfl
theorem rq_X8_stepX_16 {lo : Lo} {st : List Value} {h : Hp} {Q : Option Value → Hp → Prop} : Run 49 16 lo st h Q = Cnt 49 Q (xo_aload 0 17 lo st h) := run_s rfl
theorem rq_X8_stepX_17 {lo : Lo} {st : List Value} {h : Hp} {Q : Option Value → Hp → Prop} : Run 49 17 lo st h Q = Cnt 49 Q (xo_getf 8 3 20 lo st h) := run_s rfl
theorem rq_X8_stepX_20 {lo : Lo} {st : List Value} {h : Hp} {Q : Option Value → Hp → Prop} : Run 49 20 lo st h Q = Cnt 49 Q (xo_iload 1 21 lo st h) := run_s rfl
theorem rq_X8_stepX_21 {lo : Lo} {st : List Value} {h : Hp} {Q : Option Value → Hp → Prop} : Run 49 21 lo st h Q = Cnt 49 Q (xo_iald 22 lo st h) := run_s rfl
theorem rq_X8_stepX_22 {lo : Lo} {st : List Value} {h : Hp} {Q : Option Value → Hp → Prop} : Run 49 22 lo st h Q = Cnt 49 Q (xo_bin (fun x y => x - y) 23 lo st h) := run_s rfl
theorem rq_X8_stepX_23 {lo : Lo} {st : List Value} {h : Hp} {Q : Option Value → Hp → Prop} : Run 49 23 lo st h Q = Cnt 49 Q (xo_goto 27 lo st h) := run_s rfl
theorem rq_X8_stepX_26 {lo : Lo} {st : List Value} {h : Hp} {Q : Option Value → Hp → Prop} : Run 49 26 lo st h Q = Cnt 49 Q (xo_const (.int 0) 27 lo st h) := run_s rfl
theorem rq_X8_stepX_27 {lo : Lo} {st : List Value} {h : Hp} {Q : Option Value → Hp → Prop} : Run 49 27 lo st h Q = Cnt 49 Q (xo_iret lo st h) := run_s rfl
theorem rq_X8_stepY_0 {lo : Lo} {st : List Value} {h : Hp} {Q : Option Value → Hp → Prop} : Run 50 0 lo st h Q = Cnt 50 Q (xo_aload 0 1 lo st h) := run_s rfl
theorem rq_X8_stepY_1 {lo : Lo} {st : List Value} {h : Hp} {Q : Option Value → Hp → Prop} : Run 50 1 lo st h Q = Cnt 50 Q (xo_iload 1 2 lo st h) := run_s rfl
theorem rq_X8_stepY_2 {lo : Lo} {st : List Value} {h : Hp} {Q : Option Value → Hp → Prop} : Run 50 2 lo st h Q = CCall 48 2 (some 8) st h (Knt 50 5 lo (st.drop 2) Q) := run_c rfl
theorem rq_X8_stepY_5 {lo : Lo} {st : List Value} {h : Hp} {Q : Option Value → Hp → Prop} : Run 50 5 lo st h Q = Cnt 50 Q (xo_if1 (fun x => decide (x = 0)) 26 8 lo st h) := run_s rfl
theorem rq_X8_stepY_8 {lo : Lo} {st : List Value} {h : Hp} {Q : Option Value → Hp → Prop} : Run 50 8 lo st h Q = Cnt 50 Q (xo_aload 0 9 lo st h) := run_s rfl
theorem rq_X8_stepY_9 {lo : Lo} {st : List Value} {h : Hp} {Q : Option Value → Hp → Prop} : Run 50 9 lo st h Q = Cnt 50 Q (xo_getf 8 4 12 lo st h) := run_s rfl
theorem rq_X8_stepY_12 {lo : Lo} {st : List Value} {h : Hp} {Q : Option Value → Hp → Prop} : Run 50 12 lo st h Q = Cnt 50 Q (xo_iload 1 13 lo st h) := run_s rfl
theorem rq_X8_stepY_13 {lo : Lo} {st : List Value} {h : Hp} {Q : Option Value → Hp → Prop} : Run 50 13 lo st h Q = Cnt 50 Q (xo_const (.int 1) 14 lo st h) := run_s rfl
theorem rq_X8_stepY_14 {lo : Lo} {st : List Value} {h : Hp} {Q : Option Value → Hp → Prop} : Run 50 14 lo st h Q = Cnt 50 Q (xo_bin (fun x y => x + y) 15 lo st h) := run_s rfl
theorem rq_X8_stepY_15 {lo : Lo} {st : List Value} {h : Hp} {Q : Option Value → Hp → Prop} : Run 50 15 lo st h Q = Cnt 50 Q (xo_iald 16 lo st h) := run_s rfl
theorem rq_X8_stepY_16 {lo : Lo} {st : List Value} {h : Hp} {Q : Option Value → Hp → Prop} : Run 50 16 lo st h Q = Cnt 50 Q (xo_aload 0 17 lo st h) := run_s rfl
theorem rq_X8_stepY_17 {lo : Lo} {st : List Value} {h : Hp} {Q : Option Value → Hp → Prop} : Run 50 17 lo st h Q = Cnt 50 Q (xo_getf 8 4 20 lo st h) := run_s rfl
theorem rq_X8_stepY_20 {lo : Lo} {st : List Value} {h : Hp} {Q : Option Value → Hp → Prop} : Run 50 20 lo st h Q = Cnt 50 Q (xo_iload 1 21 lo st h) := run_s rfl
theorem rq_X8_stepY_21 {lo : Lo} {st : List Value} {h : Hp} {Q : Option Value → Hp → Prop} : Run 50 21 lo st h Q = Cnt 50 Q (xo_iald 22 lo st h) := run_s rfl
theorem rq_X8_stepY_22 {lo : Lo} {st : List Value} {h : Hp} {Q : Option Value → Hp → Prop} : Run 50 22 lo st h Q = Cnt 50 Q (xo_bin (fun x y => x - y) 23 lo st h) := run_s rfl
theorem rq_X8_stepY_23 {lo : Lo} {st : List Value} {h : Hp} {Q : Option Value → Hp → Prop} : Run 50 23 lo st h Q = Cnt 50 Q (xo_goto 27 lo st h) := run_s rfl
theorem rq_X8_stepY_26 {lo : Lo} {st : List Value} {h : Hp} {Q : Option Value → Hp → Prop} : Run 50 26 lo st h Q = Cnt 50 Q (xo_const (.int 0) 27 lo st h) := run_s rfl
theorem rq_X8_stepY_27 {lo : Lo} {st : List Value} {h : Hp} {Q : Option Value → Hp → Prop} : Run 50 27 lo st h Q = Cnt 50 Q (xo_iret lo st h) := run_s rfl
theorem rq_X8_thickUpper_0 {lo : Lo} {st : List Value} {h : Hp} {Q : Option Value → Hp → Prop} : Run 51 0 lo st h Q = Cnt 51 Q (xo_iload 0 1 lo st h) := run_s rfl
theorem rq_X8_thickUpper_1 {lo : Lo} {st : List Value} {h : Hp} {Q : Option Value → Hp → Prop} : Run 51 1 lo st h Q = Cnt 51 Q (xo_iload 3 2 lo st h) := run_s rfl
theorem rq_X8_thickUpper_2 {lo : Lo} {st : List Value} {h : Hp} {Q : Option Value → Hp → Prop} : Run 51 2 lo st h Q = Cnt 51 Q (xo_bin (fun x y => x * y) 3 lo st h) := run_s rfl
theorem rq_X8_thickUpper_3 {lo : Lo} {st : List Value} {h : Hp} {Q : Option Value → Hp → Prop} : Run 51 3 lo st h Q = Cnt 51 Q (xo_iload 1 4 lo st h) := run_s rfl
theorem rq_X8_thickUpper_4 {lo : Lo} {st : List Value} {h : Hp} {Q : Option Value → Hp → Prop} : Run 51 4 lo st h Q = Cnt 51 Q (xo_iload 2 5 lo st h) := run_s rfl
theorem rq_X8_thickUpper_5 {lo : Lo} {st : List Value} {h : Hp} {Q : Option Value → Hp → Prop} : Run 51 5 lo st h Q = Cnt 51 Q (xo_bin (fun x y => x * y) 6 lo st h) := run_s rfl
theorem rq_X8_thickUpper_6 {lo : Lo} {st : List Value} {h : Hp} {Q : Option Value → Hp → Prop} : Run 51 6 lo st h Q = Cnt 51 Q (xo_bin (fun x y => x - y) 7 lo st h) := run_s rfl
theorem rq_X8_thickUpper_7 {lo : Lo} {st : List Value} {h : Hp} {Q : Option Value → Hp → Prop} : Run 51 7 lo st h Q = Cnt 51 Q (xo_istore 4 9 lo st h) := run_s rfl
theorem rq_X8_thickUpper_9 {lo : Lo} {st : List Value} {h : Hp} {Q : Option Value → Hp → Prop} : Run 51 9 lo st h Q = Cnt 51 Q (xo_const (.int 4) 10 lo st h) := run_s rfl
theorem rq_X8_thickUpper_10 {lo : Lo} {st : List Value} {h : Hp} {Q : Option Value → Hp → Prop} : Run 51 10 lo st h Q = Cnt 51 Q (xo_iload 4 12 lo st h) := run_s rfl
theorem rq_X8_thickUpper_12 {lo : Lo} {st : List Value} {h : Hp} {Q : Option Value → Hp → Prop} : Run 51 12 lo st h Q = Cnt 51 Q (xo_bin (fun x y => x * y) 13 lo st h) := run_s rfl
theorem rq_X8_thickUpper_13 {lo : Lo} {st : List Value} {h : Hp} {Q : Option Value → Hp → Prop} : Run 51 13 lo st h Q = Cnt 51 Q (xo_iload 4 15 lo st h) := run_s rfl
theorem rq_X8_thickUpper_15 {lo : Lo} {st : List Value} {h : Hp} {Q : Option Value → Hp → Prop} : Run 51 15 lo st h Q = Cnt 51 Q (xo_bin (fun x y => x * y) 16 lo st h) := run_s rfl
theorem rq_X8_thickUpper_16 {lo : Lo} {st : List Value} {h : Hp} {Q : Option Value → Hp → Prop} : Run 51 16 lo st h Q = Cnt 51 Q (xo_iret lo st h) := run_s rfl
theorem rq_X8_thickLower_0 {lo : Lo} {st : List Value} {h : Hp} {Q : Option Value → Hp → Prop} : Run 52 0 lo st h Q = Cnt 52 Q (xo_iload 0 1 lo st h) := run_s rfl
theorem rq_X8_thickLower_1 {lo : Lo} {st : List Value} {h : Hp} {Q : Option Value → Hp → Prop} : Run 52 1 lo st h Q = Cnt 52 Q (xo_iload 0 2 lo st h) := run_s rfl
theorem rq_X8_thickLower_2 {lo : Lo} {st : List Value} {h : Hp} {Q : Option Value → Hp → Prop} : Run 52 2 lo st h Q = Cnt 52 Q (xo_bin (fun x y => x * y) 3 lo st h) := run_s rfl
theorem rq_X8_thickLower_3 {lo : Lo} {st : List Value} {h : Hp} {Q : Option Value → Hp → Prop} : Run 52 3 lo st h Q = Cnt 52 Q (xo_iload 1 4 lo st h) := run_s rfl
theorem rq_X8_thickLower_4 {lo : Lo} {st : List Value} {h : Hp} {Q : Option Value → Hp → Prop} : Run 52 4 lo st h Q = Cnt 52 Q (xo_iload 1 5 lo st h) := run_s rfl
theorem rq_X8_thickLower_5 {lo : Lo} {st : List Value} {h : Hp} {Q : Option Value → Hp → Prop} : Run 52 5 lo st h Q = Cnt 52 Q (xo_bin (fun x y => x * y) 6 lo st h) := run_s rfl
theorem rq_X8_thickLower_6 {lo : Lo} {st : List Value} {h : Hp} {Q : Option Value → Hp → Prop} : Run 52 6 lo st h Q = Cnt 52 Q (xo_bin (fun x y => x + y) 7 lo st h) := run_s rfl
theorem rq_X8_thickLower_7 {lo : Lo} {st : List Value} {h : Hp} {Q : Option Value → Hp → Prop} : Run 52 7 lo st h Q = Cnt 52 Q (xo_iret lo st h) := run_s rfl
theorem rq_X8_sortOf_0 {lo : Lo} {st : List Value} {h : Hp} {Q : Option Value → Hp → Prop} : Run 53 0 lo st h Q = Cnt 53 Q (xo_iload 0 1 lo st h) := run_s rfl
theorem rq_X8_sortOf_1 {lo : Lo} {st : List Value} {h : Hp} {Q : Option Value → Hp → Prop} : Run 53 1 lo st h Q = Cnt 53 Q (xo_iload 1 2 lo st h) := run_s rfl
theorem rq_X8_sortOf_2 {lo : Lo} {st : List Value} {h : Hp} {Q : Option Value → Hp → Prop} : Run 53 2 lo st h Q = Cnt 53 Q (xo_iload 2 3 lo st h) := run_s rfl
theorem rq_X8_sortOf_3 {lo : Lo} {st : List Value} {h : Hp} {Q : Option Value → Hp → Prop} : Run 53 3 lo st h Q = Cnt 53 Q (xo_iload 3 4 lo st h) := run_s rfl
theorem rq_X8_sortOf_4 {lo : Lo} {st : List Value} {h : Hp} {Q : Option Value → Hp → Prop} : Run 53 4 lo st h Q = CCall 51 4 none st h (Knt 53 7 lo (st.drop 4) Q) := run_c rfl
theorem rq_X8_sortOf_7 {lo : Lo} {st : List Value} {h : Hp} {Q : Option Value → Hp → Prop} : Run 53 7 lo st h Q = Cnt 53 Q (xo_istore 5 9 lo st h) := run_s rfl
theorem rq_X8_sortOf_9 {lo : Lo} {st : List Value} {h : Hp} {Q : Option Value → Hp → Prop} : Run 53 9 lo st h Q = Cnt 53 Q (xo_iload 5 11 lo st h) := run_s rfl
theorem rq_X8_sortOf_11 {lo : Lo} {st : List Value} {h : Hp} {Q : Option Value → Hp → Prop} : Run 53 11 lo st h Q = Cnt 53 Q (xo_if1 (fun x => decide (¬ x = 0)) 16 14 lo st h) := run_s rfl
theorem rq_X8_sortOf_14 {lo : Lo} {st : List Value} {h : Hp} {Q : Option Value → Hp → Prop} : Run 53 14 lo st h Q = Cnt 53 Q (xo_const (.int 0) 15 lo st h) := run_s rfl
theorem rq_X8_sortOf_15 {lo : Lo} {st : List Value} {h : Hp} {Q : Option Value → Hp → Prop} : Run 53 15 lo st h Q = Cnt 53 Q (xo_iret lo st h) := run_s rfl
theorem rq_X8_sortOf_16 {lo : Lo} {st : List Value} {h : Hp} {Q : Option Value → Hp → Prop} : Run 53 16 lo st h Q = Cnt 53 Q (xo_iload 5 18 lo st h) := run_s rfl
theorem rq_X8_sortOf_18 {lo : Lo} {st : List Value} {h : Hp} {Q : Option Value → Hp → Prop} : Run 53 18 lo st h Q = Cnt 53 Q (xo_iload 4 20 lo st h) := run_s rfl
theorem rq_X8_sortOf_20 {lo : Lo} {st : List Value} {h : Hp} {Q : Option Value → Hp → Prop} : Run 53 20 lo st h Q = Cnt 53 Q (xo_iload 4 22 lo st h) := run_s rfl
theorem rq_X8_sortOf_22 {lo : Lo} {st : List Value} {h : Hp} {Q : Option Value → Hp → Prop} : Run 53 22 lo st h Q = Cnt 53 Q (xo_bin (fun x y => x * y) 23 lo st h) := run_s rfl
theorem rq_X8_sortOf_23 {lo : Lo} {st : List Value} {h : Hp} {Q : Option Value → Hp → Prop} : Run 53 23 lo st h Q = Cnt 53 Q (xo_iload 0 24 lo st h) := run_s rfl
theorem rq_X8_sortOf_24 {lo : Lo} {st : List Value} {h : Hp} {Q : Option Value → Hp → Prop} : Run 53 24 lo st h Q = Cnt 53 Q (xo_iload 1 25 lo st h) := run_s rfl
theorem rq_X8_sortOf_25 {lo : Lo} {st : List Value} {h : Hp} {Q : Option Value → Hp → Prop} : Run 53 25 lo st h Q = CCall 52 2 none st h (Knt 53 28 lo (st.drop 2) Q) := run_c rfl
theorem rq_X8_sortOf_28 {lo : Lo} {st : List Value} {h : Hp} {Q : Option Value → Hp → Prop} : Run 53 28 lo st h Q = Cnt 53 Q (xo_bin (fun x y => x * y) 29 lo st h) := run_s rfl
theorem rq_X8_sortOf_29 {lo : Lo} {st : List Value} {h : Hp} {Q : Option Value → Hp → Prop} : Run 53 29 lo st h Q = Cnt 53 Q (xo_if2 (fun x y => decide (x < y)) 36 32 lo st h) := run_s rfl
theorem rq_X8_sortOf_32 {lo : Lo} {st : List Value} {h : Hp} {Q : Option Value → Hp → Prop} : Run 53 32 lo st h Q = Cnt 53 Q (xo_const (.int 2) 33 lo st h) := run_s rfl
theorem rq_X8_sortOf_33 {lo : Lo} {st : List Value} {h : Hp} {Q : Option Value → Hp → Prop} : Run 53 33 lo st h Q = Cnt 53 Q (xo_goto 37 lo st h) := run_s rfl
theorem rq_X8_sortOf_36 {lo : Lo} {st : List Value} {h : Hp} {Q : Option Value → Hp → Prop} : Run 53 36 lo st h Q = Cnt 53 Q (xo_const (.int 1) 37 lo st h) := run_s rfl
theorem rq_X8_sortOf_37 {lo : Lo} {st : List Value} {h : Hp} {Q : Option Value → Hp → Prop} : Run 53 37 lo st h Q = Cnt 53 Q (xo_iret lo st h) := run_s rfl
theorem rq_X8_isWrong_0 {lo : Lo} {st : List Value} {h : Hp} {Q : Option Value → Hp → Prop} : Run 54 0 lo st h Q = Cnt 54 Q (xo_iload 1 1 lo st h) := run_s rfl
theorem rq_X8_isWrong_1 {lo : Lo} {st : List Value} {h : Hp} {Q : Option Value → Hp → Prop} : Run 54 1 lo st h Q = Cnt 54 Q (xo_if1 (fun x => decide (¬ x = 0)) 6 4 lo st h) := run_s rfl
theorem rq_X8_isWrong_4 {lo : Lo} {st : List Value} {h : Hp} {Q : Option Value → Hp → Prop} : Run 54 4 lo st h Q = Cnt 54 Q (xo_const (.int 0) 5 lo st h) := run_s rfl
theorem rq_X8_isWrong_5 {lo : Lo} {st : List Value} {h : Hp} {Q : Option Value → Hp → Prop} : Run 54 5 lo st h Q = Cnt 54 Q (xo_zret lo st h) := run_s rfl
theorem rq_X8_isWrong_6 {lo : Lo} {st : List Value} {h : Hp} {Q : Option Value → Hp → Prop} : Run 54 6 lo st h Q = Cnt 54 Q (xo_iload 0 7 lo st h) := run_s rfl
theorem rq_X8_isWrong_7 {lo : Lo} {st : List Value} {h : Hp} {Q : Option Value → Hp → Prop} : Run 54 7 lo st h Q = Cnt 54 Q (xo_iload 1 8 lo st h) := run_s rfl
theorem rq_X8_isWrong_8 {lo : Lo} {st : List Value} {h : Hp} {Q : Option Value → Hp → Prop} : Run 54 8 lo st h Q = Cnt 54 Q (xo_iload 2 9 lo st h) := run_s rfl
theorem rq_X8_isWrong_9 {lo : Lo} {st : List Value} {h : Hp} {Q : Option Value → Hp → Prop} : Run 54 9 lo st h Q = Cnt 54 Q (xo_iload 3 10 lo st h) := run_s rfl
theorem rq_X8_isWrong_10 {lo : Lo} {st : List Value} {h : Hp} {Q : Option Value → Hp → Prop} : Run 54 10 lo st h Q = Cnt 54 Q (xo_iload 4 12 lo st h) := run_s rfl
theorem rq_X8_isWrong_12 {lo : Lo} {st : List Value} {h : Hp} {Q : Option Value → Hp → Prop} : Run 54 12 lo st h Q = CCall 53 5 none st h (Knt 54 15 lo (st.drop 5) Q) := run_c rfl
theorem rq_X8_isWrong_15 {lo : Lo} {st : List Value} {h : Hp} {Q : Option Value → Hp → Prop} : Run 54 15 lo st h Q = Cnt 54 Q (xo_const (.int 2) 16 lo st h) := run_s rfl
theorem rq_X8_isWrong_16 {lo : Lo} {st : List Value} {h : Hp} {Q : Option Value → Hp → Prop} : Run 54 16 lo st h Q = Cnt 54 Q (xo_if2 (fun x y => decide (¬ x = y)) 23 19 lo st h) := run_s rfl
theorem rq_X8_isWrong_19 {lo : Lo} {st : List Value} {h : Hp} {Q : Option Value → Hp → Prop} : Run 54 19 lo st h Q = Cnt 54 Q (xo_const (.int 1) 20 lo st h) := run_s rfl
theorem rq_X8_isWrong_20 {lo : Lo} {st : List Value} {h : Hp} {Q : Option Value → Hp → Prop} : Run 54 20 lo st h Q = Cnt 54 Q (xo_goto 24 lo st h) := run_s rfl
theorem rq_X8_isWrong_23 {lo : Lo} {st : List Value} {h : Hp} {Q : Option Value → Hp → Prop} : Run 54 23 lo st h Q = Cnt 54 Q (xo_const (.int 0) 24 lo st h) := run_s rfl
theorem rq_X8_isWrong_24 {lo : Lo} {st : List Value} {h : Hp} {Q : Option Value → Hp → Prop} : Run 54 24 lo st h Q = Cnt 54 Q (xo_istore 5 26 lo st h) := run_s rfl
theorem rq_X8_isWrong_26 {lo : Lo} {st : List Value} {h : Hp} {Q : Option Value → Hp → Prop} : Run 54 26 lo st h Q = Cnt 54 Q (xo_iload 1 27 lo st h) := run_s rfl
theorem rq_X8_isWrong_27 {lo : Lo} {st : List Value} {h : Hp} {Q : Option Value → Hp → Prop} : Run 54 27 lo st h Q = Cnt 54 Q (xo_if1 (fun x => decide (x ≤ 0)) 43 30 lo st h) := run_s rfl
theorem rq_X8_isWrong_30 {lo : Lo} {st : List Value} {h : Hp} {Q : Option Value → Hp → Prop} : Run 54 30 lo st h Q = Cnt 54 Q (xo_iload 5 32 lo st h) := run_s rfl
theorem rq_X8_isWrong_32 {lo : Lo} {st : List Value} {h : Hp} {Q : Option Value → Hp → Prop} : Run 54 32 lo st h Q = Cnt 54 Q (xo_if1 (fun x => decide (¬ x = 0)) 39 35 lo st h) := run_s rfl
theorem rq_X8_isWrong_35 {lo : Lo} {st : List Value} {h : Hp} {Q : Option Value → Hp → Prop} : Run 54 35 lo st h Q = Cnt 54 Q (xo_const (.int 1) 36 lo st h) := run_s rfl
theorem rq_X8_isWrong_36 {lo : Lo} {st : List Value} {h : Hp} {Q : Option Value → Hp → Prop} : Run 54 36 lo st h Q = Cnt 54 Q (xo_goto 45 lo st h) := run_s rfl
theorem rq_X8_isWrong_39 {lo : Lo} {st : List Value} {h : Hp} {Q : Option Value → Hp → Prop} : Run 54 39 lo st h Q = Cnt 54 Q (xo_const (.int 0) 40 lo st h) := run_s rfl
theorem rq_X8_isWrong_40 {lo : Lo} {st : List Value} {h : Hp} {Q : Option Value → Hp → Prop} : Run 54 40 lo st h Q = Cnt 54 Q (xo_goto 45 lo st h) := run_s rfl
theorem rq_X8_isWrong_43 {lo : Lo} {st : List Value} {h : Hp} {Q : Option Value → Hp → Prop} : Run 54 43 lo st h Q = Cnt 54 Q (xo_iload 5 45 lo st h) := run_s rfl
theorem rq_X8_isWrong_45 {lo : Lo} {st : List Value} {h : Hp} {Q : Option Value → Hp → Prop} : Run 54 45 lo st h Q = Cnt 54 Q (xo_zret lo st h) := run_s rfl
theorem rq_X8_countWrong_0 {lo : Lo} {st : List Value} {h : Hp} {Q : Option Value → Hp → Prop} : Run 55 0 lo st h Q = Cnt 55 Q (xo_const (.int 0) 1 lo st h) := run_s rfl
theorem rq_X8_countWrong_1 {lo : Lo} {st : List Value} {h : Hp} {Q : Option Value → Hp → Prop} : Run 55 1 lo st h Q = Cnt 55 Q (xo_istore 4 3 lo st h) := run_s rfl
theorem rq_X8_countWrong_3 {lo : Lo} {st : List Value} {h : Hp} {Q : Option Value → Hp → Prop} : Run 55 3 lo st h Q = Cnt 55 Q (xo_const (.int 0) 4 lo st h) := run_s rfl
theorem rq_X8_countWrong_4 {lo : Lo} {st : List Value} {h : Hp} {Q : Option Value → Hp → Prop} : Run 55 4 lo st h Q = Cnt 55 Q (xo_istore 5 6 lo st h) := run_s rfl
theorem rq_X8_countWrong_6 {lo : Lo} {st : List Value} {h : Hp} {Q : Option Value → Hp → Prop} : Run 55 6 lo st h Q = Cnt 55 Q (xo_iload 5 8 lo st h) := run_s rfl
theorem rq_X8_countWrong_8 {lo : Lo} {st : List Value} {h : Hp} {Q : Option Value → Hp → Prop} : Run 55 8 lo st h Q = Cnt 55 Q (xo_const (.int 1) 9 lo st h) := run_s rfl
theorem rq_X8_countWrong_9 {lo : Lo} {st : List Value} {h : Hp} {Q : Option Value → Hp → Prop} : Run 55 9 lo st h Q = Cnt 55 Q (xo_bin (fun x y => x + y) 10 lo st h) := run_s rfl
theorem rq_X8_countWrong_10 {lo : Lo} {st : List Value} {h : Hp} {Q : Option Value → Hp → Prop} : Run 55 10 lo st h Q = Cnt 55 Q (xo_aload 0 11 lo st h) := run_s rfl
theorem rq_X8_countWrong_11 {lo : Lo} {st : List Value} {h : Hp} {Q : Option Value → Hp → Prop} : Run 55 11 lo st h Q = Cnt 55 Q (xo_getf 8 0 14 lo st h) := run_s rfl
theorem rq_X8_countWrong_14 {lo : Lo} {st : List Value} {h : Hp} {Q : Option Value → Hp → Prop} : Run 55 14 lo st h Q = Cnt 55 Q (xo_if2 (fun x y => decide (x ≥ y)) 47 17 lo st h) := run_s rfl
theorem rq_X8_countWrong_17 {lo : Lo} {st : List Value} {h : Hp} {Q : Option Value → Hp → Prop} : Run 55 17 lo st h Q = Cnt 55 Q (xo_aload 0 18 lo st h) := run_s rfl
theorem rq_X8_countWrong_18 {lo : Lo} {st : List Value} {h : Hp} {Q : Option Value → Hp → Prop} : Run 55 18 lo st h Q = Cnt 55 Q (xo_iload 5 20 lo st h) := run_s rfl
theorem rq_X8_countWrong_20 {lo : Lo} {st : List Value} {h : Hp} {Q : Option Value → Hp → Prop} : Run 55 20 lo st h Q = CCall 49 2 (some 8) st h (Knt 55 23 lo (st.drop 2) Q) := run_c rfl
theorem rq_X8_countWrong_23 {lo : Lo} {st : List Value} {h : Hp} {Q : Option Value → Hp → Prop} : Run 55 23 lo st h Q = Cnt 55 Q (xo_aload 0 24 lo st h) := run_s rfl
theorem rq_X8_countWrong_24 {lo : Lo} {st : List Value} {h : Hp} {Q : Option Value → Hp → Prop} : Run 55 24 lo st h Q = Cnt 55 Q (xo_iload 5 26 lo st h) := run_s rfl
theorem rq_X8_countWrong_26 {lo : Lo} {st : List Value} {h : Hp} {Q : Option Value → Hp → Prop} : Run 55 26 lo st h Q = CCall 50 2 (some 8) st h (Knt 55 29 lo (st.drop 2) Q) := run_c rfl
theorem rq_X8_countWrong_29 {lo : Lo} {st : List Value} {h : Hp} {Q : Option Value → Hp → Prop} : Run 55 29 lo st h Q = Cnt 55 Q (xo_iload 1 30 lo st h) := run_s rfl
theorem rq_X8_countWrong_30 {lo : Lo} {st : List Value} {h : Hp} {Q : Option Value → Hp → Prop} : Run 55 30 lo st h Q = Cnt 55 Q (xo_iload 2 31 lo st h) := run_s rfl
theorem rq_X8_countWrong_31 {lo : Lo} {st : List Value} {h : Hp} {Q : Option Value → Hp → Prop} : Run 55 31 lo st h Q = Cnt 55 Q (xo_iload 3 32 lo st h) := run_s rfl
theorem rq_X8_countWrong_32 {lo : Lo} {st : List Value} {h : Hp} {Q : Option Value → Hp → Prop} : Run 55 32 lo st h Q = CCall 54 5 none st h (Knt 55 35 lo (st.drop 5) Q) := run_c rfl
theorem rq_X8_countWrong_35 {lo : Lo} {st : List Value} {h : Hp} {Q : Option Value → Hp → Prop} : Run 55 35 lo st h Q = Cnt 55 Q (xo_if1 (fun x => decide (x = 0)) 41 38 lo st h) := run_s rfl
theorem rq_X8_countWrong_38 {lo : Lo} {st : List Value} {h : Hp} {Q : Option Value → Hp → Prop} : Run 55 38 lo st h Q = Cnt 55 Q (xo_iinc 4 1 41 lo st h) := run_s rfl
theorem rq_X8_countWrong_41 {lo : Lo} {st : List Value} {h : Hp} {Q : Option Value → Hp → Prop} : Run 55 41 lo st h Q = Cnt 55 Q (xo_iinc 5 1 44 lo st h) := run_s rfl
theorem rq_X8_countWrong_44 {lo : Lo} {st : List Value} {h : Hp} {Q : Option Value → Hp → Prop} : Run 55 44 lo st h Q = Cnt 55 Q (xo_goto 6 lo st h) := run_s rfl
theorem rq_X8_countWrong_47 {lo : Lo} {st : List Value} {h : Hp} {Q : Option Value → Hp → Prop} : Run 55 47 lo st h Q = Cnt 55 Q (xo_iload 4 49 lo st h) := run_s rfl
theorem rq_X8_countWrong_49 {lo : Lo} {st : List Value} {h : Hp} {Q : Option Value → Hp → Prop} : Run 55 49 lo st h Q = Cnt 55 Q (xo_iret lo st h) := run_s rfl
theorem rq_X8_kindCode_0 {lo : Lo} {st : List Value} {h : Hp} {Q : Option Value → Hp → Prop} : Run 56 0 lo st h Q = Cnt 56 Q (xo_const (.int 0) 1 lo st h) := run_s rfl
theorem rq_X8_kindCode_1 {lo : Lo} {st : List Value} {h : Hp} {Q : Option Value → Hp → Prop} : Run 56 1 lo st h Q = Cnt 56 Q (xo_istore 2 2 lo st h) := run_s rfl
theorem rq_X8_kindCode_2 {lo : Lo} {st : List Value} {h : Hp} {Q : Option Value → Hp → Prop} : Run 56 2 lo st h Q = Cnt 56 Q (xo_const (.int (-9)) 4 lo st h) := run_s rfl
theorem rq_X8_kindCode_4 {lo : Lo} {st : List Value} {h : Hp} {Q : Option Value → Hp → Prop} : Run 56 4 lo st h Q = Cnt 56 Q (xo_istore 3 5 lo st h) := run_s rfl
theorem rq_X8_kindCode_5 {lo : Lo} {st : List Value} {h : Hp} {Q : Option Value → Hp → Prop} : Run 56 5 lo st h Q = Cnt 56 Q (xo_const (.int 0) 6 lo st h) := run_s rfl
theorem rq_X8_kindCode_6 {lo : Lo} {st : List Value} {h : Hp} {Q : Option Value → Hp → Prop} : Run 56 6 lo st h Q = Cnt 56 Q (xo_istore 4 8 lo st h) := run_s rfl
theorem rq_X8_kindCode_8 {lo : Lo} {st : List Value} {h : Hp} {Q : Option Value → Hp → Prop} : Run 56 8 lo st h Q = Cnt 56 Q (xo_iload 4 10 lo st h) := run_s rfl
theorem rq_X8_kindCode_10 {lo : Lo} {st : List Value} {h : Hp} {Q : Option Value → Hp → Prop} : Run 56 10 lo st h Q = Cnt 56 Q (xo_const (.int 1) 11 lo st h) := run_s rfl
theorem rq_X8_kindCode_11 {lo : Lo} {st : List Value} {h : Hp} {Q : Option Value → Hp → Prop} : Run 56 11 lo st h Q = Cnt 56 Q (xo_bin (fun x y => x + y) 12 lo st h) := run_s rfl
theorem rq_X8_kindCode_12 {lo : Lo} {st : List Value} {h : Hp} {Q : Option Value → Hp → Prop} : Run 56 12 lo st h Q = Cnt 56 Q (xo_aload 0 13 lo st h) := run_s rfl
theorem rq_X8_kindCode_13 {lo : Lo} {st : List Value} {h : Hp} {Q : Option Value → Hp → Prop} : Run 56 13 lo st h Q = Cnt 56 Q (xo_getf 8 0 16 lo st h) := run_s rfl
theorem rq_X8_kindCode_16 {lo : Lo} {st : List Value} {h : Hp} {Q : Option Value → Hp → Prop} : Run 56 16 lo st h Q = Cnt 56 Q (xo_if2 (fun x y => decide (x ≥ y)) 69 19 lo st h) := run_s rfl
theorem rq_X8_kindCode_19 {lo : Lo} {st : List Value} {h : Hp} {Q : Option Value → Hp → Prop} : Run 56 19 lo st h Q = Cnt 56 Q (xo_aload 0 20 lo st h) := run_s rfl
theorem rq_X8_kindCode_20 {lo : Lo} {st : List Value} {h : Hp} {Q : Option Value → Hp → Prop} : Run 56 20 lo st h Q = Cnt 56 Q (xo_iload 4 22 lo st h) := run_s rfl
theorem rq_X8_kindCode_22 {lo : Lo} {st : List Value} {h : Hp} {Q : Option Value → Hp → Prop} : Run 56 22 lo st h Q = CCall 49 2 (some 8) st h (Knt 56 25 lo (st.drop 2) Q) := run_c rfl
theorem rq_X8_kindCode_25 {lo : Lo} {st : List Value} {h : Hp} {Q : Option Value → Hp → Prop} : Run 56 25 lo st h Q = Cnt 56 Q (xo_aload 0 26 lo st h) := run_s rfl
theorem rq_X8_kindCode_26 {lo : Lo} {st : List Value} {h : Hp} {Q : Option Value → Hp → Prop} : Run 56 26 lo st h Q = Cnt 56 Q (xo_iload 4 28 lo st h) := run_s rfl
theorem rq_X8_kindCode_28 {lo : Lo} {st : List Value} {h : Hp} {Q : Option Value → Hp → Prop} : Run 56 28 lo st h Q = CCall 50 2 (some 8) st h (Knt 56 31 lo (st.drop 2) Q) := run_c rfl
theorem rq_X8_kindCode_31 {lo : Lo} {st : List Value} {h : Hp} {Q : Option Value → Hp → Prop} : Run 56 31 lo st h Q = Cnt 56 Q (xo_aload 0 32 lo st h) := run_s rfl
theorem rq_X8_kindCode_32 {lo : Lo} {st : List Value} {h : Hp} {Q : Option Value → Hp → Prop} : Run 56 32 lo st h Q = Cnt 56 Q (xo_getf 8 1 35 lo st h) := run_s rfl
theorem rq_X8_kindCode_35 {lo : Lo} {st : List Value} {h : Hp} {Q : Option Value → Hp → Prop} : Run 56 35 lo st h Q = Cnt 56 Q (xo_aload 0 36 lo st h) := run_s rfl
theorem rq_X8_kindCode_36 {lo : Lo} {st : List Value} {h : Hp} {Q : Option Value → Hp → Prop} : Run 56 36 lo st h Q = Cnt 56 Q (xo_getf 8 2 39 lo st h) := run_s rfl
theorem rq_X8_kindCode_39 {lo : Lo} {st : List Value} {h : Hp} {Q : Option Value → Hp → Prop} : Run 56 39 lo st h Q = Cnt 56 Q (xo_iload 1 40 lo st h) := run_s rfl
theorem rq_X8_kindCode_40 {lo : Lo} {st : List Value} {h : Hp} {Q : Option Value → Hp → Prop} : Run 56 40 lo st h Q = CCall 53 5 none st h (Knt 56 43 lo (st.drop 5) Q) := run_c rfl
theorem rq_X8_kindCode_43 {lo : Lo} {st : List Value} {h : Hp} {Q : Option Value → Hp → Prop} : Run 56 43 lo st h Q = Cnt 56 Q (xo_istore 5 45 lo st h) := run_s rfl
theorem rq_X8_kindCode_45 {lo : Lo} {st : List Value} {h : Hp} {Q : Option Value → Hp → Prop} : Run 56 45 lo st h Q = Cnt 56 Q (xo_iload 5 47 lo st h) := run_s rfl
theorem rq_X8_kindCode_47 {lo : Lo} {st : List Value} {h : Hp} {Q : Option Value → Hp → Prop} : Run 56 47 lo st h Q = Cnt 56 Q (xo_iload 3 48 lo st h) := run_s rfl
theorem rq_X8_kindCode_48 {lo : Lo} {st : List Value} {h : Hp} {Q : Option Value → Hp → Prop} : Run 56 48 lo st h Q = Cnt 56 Q (xo_if2 (fun x y => decide (x = y)) 63 51 lo st h) := run_s rfl
theorem rq_X8_kindCode_51 {lo : Lo} {st : List Value} {h : Hp} {Q : Option Value → Hp → Prop} : Run 56 51 lo st h Q = Cnt 56 Q (xo_iload 2 52 lo st h) := run_s rfl
theorem rq_X8_kindCode_52 {lo : Lo} {st : List Value} {h : Hp} {Q : Option Value → Hp → Prop} : Run 56 52 lo st h Q = Cnt 56 Q (xo_const (.int 4) 53 lo st h) := run_s rfl
theorem rq_X8_kindCode_53 {lo : Lo} {st : List Value} {h : Hp} {Q : Option Value → Hp → Prop} : Run 56 53 lo st h Q = Cnt 56 Q (xo_bin (fun x y => x * y) 54 lo st h) := run_s rfl
theorem rq_X8_kindCode_54 {lo : Lo} {st : List Value} {h : Hp} {Q : Option Value → Hp → Prop} : Run 56 54 lo st h Q = Cnt 56 Q (xo_iload 5 56 lo st h) := run_s rfl
theorem rq_X8_kindCode_56 {lo : Lo} {st : List Value} {h : Hp} {Q : Option Value → Hp → Prop} : Run 56 56 lo st h Q = Cnt 56 Q (xo_bin (fun x y => x + y) 57 lo st h) := run_s rfl
theorem rq_X8_kindCode_57 {lo : Lo} {st : List Value} {h : Hp} {Q : Option Value → Hp → Prop} : Run 56 57 lo st h Q = Cnt 56 Q (xo_const (.int 1) 58 lo st h) := run_s rfl
theorem rq_X8_kindCode_58 {lo : Lo} {st : List Value} {h : Hp} {Q : Option Value → Hp → Prop} : Run 56 58 lo st h Q = Cnt 56 Q (xo_bin (fun x y => x + y) 59 lo st h) := run_s rfl
theorem rq_X8_kindCode_59 {lo : Lo} {st : List Value} {h : Hp} {Q : Option Value → Hp → Prop} : Run 56 59 lo st h Q = Cnt 56 Q (xo_istore 2 60 lo st h) := run_s rfl
theorem rq_X8_kindCode_60 {lo : Lo} {st : List Value} {h : Hp} {Q : Option Value → Hp → Prop} : Run 56 60 lo st h Q = Cnt 56 Q (xo_iload 5 62 lo st h) := run_s rfl
theorem rq_X8_kindCode_62 {lo : Lo} {st : List Value} {h : Hp} {Q : Option Value → Hp → Prop} : Run 56 62 lo st h Q = Cnt 56 Q (xo_istore 3 63 lo st h) := run_s rfl
theorem rq_X8_kindCode_63 {lo : Lo} {st : List Value} {h : Hp} {Q : Option Value → Hp → Prop} : Run 56 63 lo st h Q = Cnt 56 Q (xo_iinc 4 1 66 lo st h) := run_s rfl
theorem rq_X8_kindCode_66 {lo : Lo} {st : List Value} {h : Hp} {Q : Option Value → Hp → Prop} : Run 56 66 lo st h Q = Cnt 56 Q (xo_goto 8 lo st h) := run_s rfl
theorem rq_X8_kindCode_69 {lo : Lo} {st : List Value} {h : Hp} {Q : Option Value → Hp → Prop} : Run 56 69 lo st h Q = Cnt 56 Q (xo_iload 2 70 lo st h) := run_s rfl
theorem rq_X8_kindCode_70 {lo : Lo} {st : List Value} {h : Hp} {Q : Option Value → Hp → Prop} : Run 56 70 lo st h Q = Cnt 56 Q (xo_iret lo st h) := run_s rfl
theorem rq_X8_hasEnd_0 {lo : Lo} {st : List Value} {h : Hp} {Q : Option Value → Hp → Prop} : Run 57 0 lo st h Q = Cnt 57 Q (xo_aload 0 1 lo st h) := run_s rfl
theorem rq_X8_hasEnd_1 {lo : Lo} {st : List Value} {h : Hp} {Q : Option Value → Hp → Prop} : Run 57 1 lo st h Q = Cnt 57 Q (xo_getf 8 0 4 lo st h) := run_s rfl
theorem rq_X8_hasEnd_4 {lo : Lo} {st : List Value} {h : Hp} {Q : Option Value → Hp → Prop} : Run 57 4 lo st h Q = Cnt 57 Q (xo_if1 (fun x => decide (x ≤ 0)) 61 7 lo st h) := run_s rfl
theorem rq_X8_hasEnd_7 {lo : Lo} {st : List Value} {h : Hp} {Q : Option Value → Hp → Prop} : Run 57 7 lo st h Q = Cnt 57 Q (xo_aload 0 8 lo st h) := run_s rfl
theorem rq_X8_hasEnd_8 {lo : Lo} {st : List Value} {h : Hp} {Q : Option Value → Hp → Prop} : Run 57 8 lo st h Q = Cnt 57 Q (xo_getf 8 3 11 lo st h) := run_s rfl
theorem rq_X8_hasEnd_11 {lo : Lo} {st : List Value} {h : Hp} {Q : Option Value → Hp → Prop} : Run 57 11 lo st h Q = Cnt 57 Q (xo_const (.int 0) 12 lo st h) := run_s rfl
theorem rq_X8_hasEnd_12 {lo : Lo} {st : List Value} {h : Hp} {Q : Option Value → Hp → Prop} : Run 57 12 lo st h Q = Cnt 57 Q (xo_iald 13 lo st h) := run_s rfl
theorem rq_X8_hasEnd_13 {lo : Lo} {st : List Value} {h : Hp} {Q : Option Value → Hp → Prop} : Run 57 13 lo st h Q = Cnt 57 Q (xo_iload 1 14 lo st h) := run_s rfl
theorem rq_X8_hasEnd_14 {lo : Lo} {st : List Value} {h : Hp} {Q : Option Value → Hp → Prop} : Run 57 14 lo st h Q = Cnt 57 Q (xo_if2 (fun x y => decide (¬ x = y)) 27 17 lo st h) := run_s rfl
theorem rq_X8_hasEnd_17 {lo : Lo} {st : List Value} {h : Hp} {Q : Option Value → Hp → Prop} : Run 57 17 lo st h Q = Cnt 57 Q (xo_aload 0 18 lo st h) := run_s rfl
theorem rq_X8_hasEnd_18 {lo : Lo} {st : List Value} {h : Hp} {Q : Option Value → Hp → Prop} : Run 57 18 lo st h Q = Cnt 57 Q (xo_getf 8 4 21 lo st h) := run_s rfl
theorem rq_X8_hasEnd_21 {lo : Lo} {st : List Value} {h : Hp} {Q : Option Value → Hp → Prop} : Run 57 21 lo st h Q = Cnt 57 Q (xo_const (.int 0) 22 lo st h) := run_s rfl
theorem rq_X8_hasEnd_22 {lo : Lo} {st : List Value} {h : Hp} {Q : Option Value → Hp → Prop} : Run 57 22 lo st h Q = Cnt 57 Q (xo_iald 23 lo st h) := run_s rfl
theorem rq_X8_hasEnd_23 {lo : Lo} {st : List Value} {h : Hp} {Q : Option Value → Hp → Prop} : Run 57 23 lo st h Q = Cnt 57 Q (xo_iload 2 24 lo st h) := run_s rfl
theorem rq_X8_hasEnd_24 {lo : Lo} {st : List Value} {h : Hp} {Q : Option Value → Hp → Prop} : Run 57 24 lo st h Q = Cnt 57 Q (xo_if2 (fun x y => decide (x = y)) 57 27 lo st h) := run_s rfl
theorem rq_X8_hasEnd_27 {lo : Lo} {st : List Value} {h : Hp} {Q : Option Value → Hp → Prop} : Run 57 27 lo st h Q = Cnt 57 Q (xo_aload 0 28 lo st h) := run_s rfl
theorem rq_X8_hasEnd_28 {lo : Lo} {st : List Value} {h : Hp} {Q : Option Value → Hp → Prop} : Run 57 28 lo st h Q = Cnt 57 Q (xo_getf 8 3 31 lo st h) := run_s rfl
theorem rq_X8_hasEnd_31 {lo : Lo} {st : List Value} {h : Hp} {Q : Option Value → Hp → Prop} : Run 57 31 lo st h Q = Cnt 57 Q (xo_aload 0 32 lo st h) := run_s rfl
theorem rq_X8_hasEnd_32 {lo : Lo} {st : List Value} {h : Hp} {Q : Option Value → Hp → Prop} : Run 57 32 lo st h Q = Cnt 57 Q (xo_getf 8 0 35 lo st h) := run_s rfl
theorem rq_X8_hasEnd_35 {lo : Lo} {st : List Value} {h : Hp} {Q : Option Value → Hp → Prop} : Run 57 35 lo st h Q = Cnt 57 Q (xo_const (.int 1) 36 lo st h) := run_s rfl
theorem rq_X8_hasEnd_36 {lo : Lo} {st : List Value} {h : Hp} {Q : Option Value → Hp → Prop} : Run 57 36 lo st h Q = Cnt 57 Q (xo_bin (fun x y => x - y) 37 lo st h) := run_s rfl
theorem rq_X8_hasEnd_37 {lo : Lo} {st : List Value} {h : Hp} {Q : Option Value → Hp → Prop} : Run 57 37 lo st h Q = Cnt 57 Q (xo_iald 38 lo st h) := run_s rfl
theorem rq_X8_hasEnd_38 {lo : Lo} {st : List Value} {h : Hp} {Q : Option Value → Hp → Prop} : Run 57 38 lo st h Q = Cnt 57 Q (xo_iload 1 39 lo st h) := run_s rfl
theorem rq_X8_hasEnd_39 {lo : Lo} {st : List Value} {h : Hp} {Q : Option Value → Hp → Prop} : Run 57 39 lo st h Q = Cnt 57 Q (xo_if2 (fun x y => decide (¬ x = y)) 61 42 lo st h) := run_s rfl
theorem rq_X8_hasEnd_42 {lo : Lo} {st : List Value} {h : Hp} {Q : Option Value → Hp → Prop} : Run 57 42 lo st h Q = Cnt 57 Q (xo_aload 0 43 lo st h) := run_s rfl
theorem rq_X8_hasEnd_43 {lo : Lo} {st : List Value} {h : Hp} {Q : Option Value → Hp → Prop} : Run 57 43 lo st h Q = Cnt 57 Q (xo_getf 8 4 46 lo st h) := run_s rfl
theorem rq_X8_hasEnd_46 {lo : Lo} {st : List Value} {h : Hp} {Q : Option Value → Hp → Prop} : Run 57 46 lo st h Q = Cnt 57 Q (xo_aload 0 47 lo st h) := run_s rfl
theorem rq_X8_hasEnd_47 {lo : Lo} {st : List Value} {h : Hp} {Q : Option Value → Hp → Prop} : Run 57 47 lo st h Q = Cnt 57 Q (xo_getf 8 0 50 lo st h) := run_s rfl
theorem rq_X8_hasEnd_50 {lo : Lo} {st : List Value} {h : Hp} {Q : Option Value → Hp → Prop} : Run 57 50 lo st h Q = Cnt 57 Q (xo_const (.int 1) 51 lo st h) := run_s rfl
theorem rq_X8_hasEnd_51 {lo : Lo} {st : List Value} {h : Hp} {Q : Option Value → Hp → Prop} : Run 57 51 lo st h Q = Cnt 57 Q (xo_bin (fun x y => x - y) 52 lo st h) := run_s rfl
theorem rq_X8_hasEnd_52 {lo : Lo} {st : List Value} {h : Hp} {Q : Option Value → Hp → Prop} : Run 57 52 lo st h Q = Cnt 57 Q (xo_iald 53 lo st h) := run_s rfl
theorem rq_X8_hasEnd_53 {lo : Lo} {st : List Value} {h : Hp} {Q : Option Value → Hp → Prop} : Run 57 53 lo st h Q = Cnt 57 Q (xo_iload 2 54 lo st h) := run_s rfl
theorem rq_X8_hasEnd_54 {lo : Lo} {st : List Value} {h : Hp} {Q : Option Value → Hp → Prop} : Run 57 54 lo st h Q = Cnt 57 Q (xo_if2 (fun x y => decide (¬ x = y)) 61 57 lo st h) := run_s rfl
theorem rq_X8_hasEnd_57 {lo : Lo} {st : List Value} {h : Hp} {Q : Option Value → Hp → Prop} : Run 57 57 lo st h Q = Cnt 57 Q (xo_const (.int 1) 58 lo st h) := run_s rfl
theorem rq_X8_hasEnd_58 {lo : Lo} {st : List Value} {h : Hp} {Q : Option Value → Hp → Prop} : Run 57 58 lo st h Q = Cnt 57 Q (xo_goto 62 lo st h) := run_s rfl
theorem rq_X8_hasEnd_61 {lo : Lo} {st : List Value} {h : Hp} {Q : Option Value → Hp → Prop} : Run 57 61 lo st h Q = Cnt 57 Q (xo_const (.int 0) 62 lo st h) := run_s rfl
theorem rq_X8_hasEnd_62 {lo : Lo} {st : List Value} {h : Hp} {Q : Option Value → Hp → Prop} : Run 57 62 lo st h Q = Cnt 57 Q (xo_zret lo st h) := run_s rfl
theorem rq_X8_hasInk_0 {lo : Lo} {st : List Value} {h : Hp} {Q : Option Value → Hp → Prop} : Run 58 0 lo st h Q = Cnt 58 Q (xo_iload 1 1 lo st h) := run_s rfl
theorem rq_X8_hasInk_1 {lo : Lo} {st : List Value} {h : Hp} {Q : Option Value → Hp → Prop} : Run 58 1 lo st h Q = Cnt 58 Q (xo_const (.int 0) 2 lo st h) := run_s rfl
theorem rq_X8_hasInk_2 {lo : Lo} {st : List Value} {h : Hp} {Q : Option Value → Hp → Prop} : Run 58 2 lo st h Q = Cnt 58 Q (xo_const (.int 31) 4 lo st h) := run_s rfl
theorem rq_X8_hasInk_4 {lo : Lo} {st : List Value} {h : Hp} {Q : Option Value → Hp → Prop} : Run 58 4 lo st h Q = CCall 98 3 none st h (Knt 58 7 lo (st.drop 3) Q) := run_c rfl
theorem rq_X8_hasInk_7 {lo : Lo} {st : List Value} {h : Hp} {Q : Option Value → Hp → Prop} : Run 58 7 lo st h Q = Cnt 58 Q (xo_if1 (fun x => decide (x = 0)) 37 10 lo st h) := run_s rfl
theorem rq_X8_hasInk_10 {lo : Lo} {st : List Value} {h : Hp} {Q : Option Value → Hp → Prop} : Run 58 10 lo st h Q = Cnt 58 Q (xo_iload 2 11 lo st h) := run_s rfl
theorem rq_X8_hasInk_11 {lo : Lo} {st : List Value} {h : Hp} {Q : Option Value → Hp → Prop} : Run 58 11 lo st h Q = Cnt 58 Q (xo_const (.int 0) 12 lo st h) := run_s rfl
theorem rq_X8_hasInk_12 {lo : Lo} {st : List Value} {h : Hp} {Q : Option Value → Hp → Prop} : Run 58 12 lo st h Q = Cnt 58 Q (xo_const (.int 31) 14 lo st h) := run_s rfl
theorem rq_X8_hasInk_14 {lo : Lo} {st : List Value} {h : Hp} {Q : Option Value → Hp → Prop} : Run 58 14 lo st h Q = CCall 98 3 none st h (Knt 58 17 lo (st.drop 3) Q) := run_c rfl
theorem rq_X8_hasInk_17 {lo : Lo} {st : List Value} {h : Hp} {Q : Option Value → Hp → Prop} : Run 58 17 lo st h Q = Cnt 58 Q (xo_if1 (fun x => decide (x = 0)) 37 20 lo st h) := run_s rfl
theorem rq_X8_hasInk_20 {lo : Lo} {st : List Value} {h : Hp} {Q : Option Value → Hp → Prop} : Run 58 20 lo st h Q = Cnt 58 Q (xo_aload 0 21 lo st h) := run_s rfl
theorem rq_X8_hasInk_21 {lo : Lo} {st : List Value} {h : Hp} {Q : Option Value → Hp → Prop} : Run 58 21 lo st h Q = Cnt 58 Q (xo_getf 8 5 24 lo st h) := run_s rfl
theorem rq_X8_hasInk_24 {lo : Lo} {st : List Value} {h : Hp} {Q : Option Value → Hp → Prop} : Run 58 24 lo st h Q = Cnt 58 Q (xo_iload 2 25 lo st h) := run_s rfl
theorem rq_X8_hasInk_25 {lo : Lo} {st : List Value} {h : Hp} {Q : Option Value → Hp → Prop} : Run 58 25 lo st h Q = Cnt 58 Q (xo_iald 26 lo st h) := run_s rfl
theorem rq_X8_hasInk_26 {lo : Lo} {st : List Value} {h : Hp} {Q : Option Value → Hp → Prop} : Run 58 26 lo st h Q = Cnt 58 Q (xo_iload 1 27 lo st h) := run_s rfl
theorem rq_X8_hasInk_27 {lo : Lo} {st : List Value} {h : Hp} {Q : Option Value → Hp → Prop} : Run 58 27 lo st h Q = Cnt 58 Q (xo_bin (fun x y => (x.toUInt32 >>> (y.toUInt32 &&& Int32.toUInt32 31)).toInt32) 28 lo st h) := run_s rfl
theorem rq_X8_hasInk_28 {lo : Lo} {st : List Value} {h : Hp} {Q : Option Value → Hp → Prop} : Run 58 28 lo st h Q = Cnt 58 Q (xo_const (.int 1) 29 lo st h) := run_s rfl
theorem rq_X8_hasInk_29 {lo : Lo} {st : List Value} {h : Hp} {Q : Option Value → Hp → Prop} : Run 58 29 lo st h Q = Cnt 58 Q (xo_bin (fun x y => x &&& y) 30 lo st h) := run_s rfl
theorem rq_X8_hasInk_30 {lo : Lo} {st : List Value} {h : Hp} {Q : Option Value → Hp → Prop} : Run 58 30 lo st h Q = Cnt 58 Q (xo_if1 (fun x => decide (x = 0)) 37 33 lo st h) := run_s rfl
theorem rq_X8_hasInk_33 {lo : Lo} {st : List Value} {h : Hp} {Q : Option Value → Hp → Prop} : Run 58 33 lo st h Q = Cnt 58 Q (xo_const (.int 1) 34 lo st h) := run_s rfl
theorem rq_X8_hasInk_34 {lo : Lo} {st : List Value} {h : Hp} {Q : Option Value → Hp → Prop} : Run 58 34 lo st h Q = Cnt 58 Q (xo_goto 38 lo st h) := run_s rfl
theorem rq_X8_hasInk_37 {lo : Lo} {st : List Value} {h : Hp} {Q : Option Value → Hp → Prop} : Run 58 37 lo st h Q = Cnt 58 Q (xo_const (.int 0) 38 lo st h) := run_s rfl
theorem rq_X8_hasInk_38 {lo : Lo} {st : List Value} {h : Hp} {Q : Option Value → Hp → Prop} : Run 58 38 lo st h Q = Cnt 58 Q (xo_zret lo st h) := run_s rfl
theorem rq_X8_sharesEndWith_0 {lo : Lo} {st : List Value} {h : Hp} {Q : Option Value → Hp → Prop} : Run 59 0 lo st h Q = Cnt 59 Q (xo_aload 0 1 lo st h) := run_s rfl
theorem rq_X8_sharesEndWith_1 {lo : Lo} {st : List Value} {h : Hp} {Q : Option Value → Hp → Prop} : Run 59 1 lo st h Q = Cnt 59 Q (xo_getf 8 0 4 lo st h) := run_s rfl
theorem rq_X8_sharesEndWith_4 {lo : Lo} {st : List Value} {h : Hp} {Q : Option Value → Hp → Prop} : Run 59 4 lo st h Q = Cnt 59 Q (xo_if1 (fun x => decide (x ≤ 0)) 59 7 lo st h) := run_s rfl
theorem rq_X8_sharesEndWith_7 {lo : Lo} {st : List Value} {h : Hp} {Q : Option Value → Hp → Prop} : Run 59 7 lo st h Q = Cnt 59 Q (xo_aload 1 8 lo st h) := run_s rfl
theorem rq_X8_sharesEndWith_8 {lo : Lo} {st : List Value} {h : Hp} {Q : Option Value → Hp → Prop} : Run 59 8 lo st h Q = Cnt 59 Q (xo_aload 0 9 lo st h) := run_s rfl
theorem rq_X8_sharesEndWith_9 {lo : Lo} {st : List Value} {h : Hp} {Q : Option Value → Hp → Prop} : Run 59 9 lo st h Q = Cnt 59 Q (xo_getf 8 3 12 lo st h) := run_s rfl
theorem rq_X8_sharesEndWith_12 {lo : Lo} {st : List Value} {h : Hp} {Q : Option Value → Hp → Prop} : Run 59 12 lo st h Q = Cnt 59 Q (xo_const (.int 0) 13 lo st h) := run_s rfl
theorem rq_X8_sharesEndWith_13 {lo : Lo} {st : List Value} {h : Hp} {Q : Option Value → Hp → Prop} : Run 59 13 lo st h Q = Cnt 59 Q (xo_iald 14 lo st h) := run_s rfl
theorem rq_X8_sharesEndWith_14 {lo : Lo} {st : List Value} {h : Hp} {Q : Option Value → Hp → Prop} : Run 59 14 lo st h Q = Cnt 59 Q (xo_aload 0 15 lo st h) := run_s rfl
theorem rq_X8_sharesEndWith_15 {lo : Lo} {st : List Value} {h : Hp} {Q : Option Value → Hp → Prop} : Run 59 15 lo st h Q = Cnt 59 Q (xo_getf 8 4 18 lo st h) := run_s rfl
theorem rq_X8_sharesEndWith_18 {lo : Lo} {st : List Value} {h : Hp} {Q : Option Value → Hp → Prop} : Run 59 18 lo st h Q = Cnt 59 Q (xo_const (.int 0) 19 lo st h) := run_s rfl
theorem rq_X8_sharesEndWith_19 {lo : Lo} {st : List Value} {h : Hp} {Q : Option Value → Hp → Prop} : Run 59 19 lo st h Q = Cnt 59 Q (xo_iald 20 lo st h) := run_s rfl
theorem rq_X8_sharesEndWith_20 {lo : Lo} {st : List Value} {h : Hp} {Q : Option Value → Hp → Prop} : Run 59 20 lo st h Q = CCall 57 3 (some 8) st h (Knt 59 23 lo (st.drop 3) Q) := run_c rfl
theorem rq_X8_sharesEndWith_23 {lo : Lo} {st : List Value} {h : Hp} {Q : Option Value → Hp → Prop} : Run 59 23 lo st h Q = Cnt 59 Q (xo_if1 (fun x => decide (¬ x = 0)) 55 26 lo st h) := run_s rfl
theorem rq_X8_sharesEndWith_26 {lo : Lo} {st : List Value} {h : Hp} {Q : Option Value → Hp → Prop} : Run 59 26 lo st h Q = Cnt 59 Q (xo_aload 1 27 lo st h) := run_s rfl
theorem rq_X8_sharesEndWith_27 {lo : Lo} {st : List Value} {h : Hp} {Q : Option Value → Hp → Prop} : Run 59 27 lo st h Q = Cnt 59 Q (xo_aload 0 28 lo st h) := run_s rfl
theorem rq_X8_sharesEndWith_28 {lo : Lo} {st : List Value} {h : Hp} {Q : Option Value → Hp → Prop} : Run 59 28 lo st h Q = Cnt 59 Q (xo_getf 8 3 31 lo st h) := run_s rfl
theorem rq_X8_sharesEndWith_31 {lo : Lo} {st : List Value} {h : Hp} {Q : Option Value → Hp → Prop} : Run 59 31 lo st h Q = Cnt 59 Q (xo_aload 0 32 lo st h) := run_s rfl
theorem rq_X8_sharesEndWith_32 {lo : Lo} {st : List Value} {h : Hp} {Q : Option Value → Hp → Prop} : Run 59 32 lo st h Q = Cnt 59 Q (xo_getf 8 0 35 lo st h) := run_s rfl
theorem rq_X8_sharesEndWith_35 {lo : Lo} {st : List Value} {h : Hp} {Q : Option Value → Hp → Prop} : Run 59 35 lo st h Q = Cnt 59 Q (xo_const (.int 1) 36 lo st h) := run_s rfl
theorem rq_X8_sharesEndWith_36 {lo : Lo} {st : List Value} {h : Hp} {Q : Option Value → Hp → Prop} : Run 59 36 lo st h Q = Cnt 59 Q (xo_bin (fun x y => x - y) 37 lo st h) := run_s rfl
theorem rq_X8_sharesEndWith_37 {lo : Lo} {st : List Value} {h : Hp} {Q : Option Value → Hp → Prop} : Run 59 37 lo st h Q = Cnt 59 Q (xo_iald 38 lo st h) := run_s rfl
theorem rq_X8_sharesEndWith_38 {lo : Lo} {st : List Value} {h : Hp} {Q : Option Value → Hp → Prop} : Run 59 38 lo st h Q = Cnt 59 Q (xo_aload 0 39 lo st h) := run_s rfl
theorem rq_X8_sharesEndWith_39 {lo : Lo} {st : List Value} {h : Hp} {Q : Option Value → Hp → Prop} : Run 59 39 lo st h Q = Cnt 59 Q (xo_getf 8 4 42 lo st h) := run_s rfl
theorem rq_X8_sharesEndWith_42 {lo : Lo} {st : List Value} {h : Hp} {Q : Option Value → Hp → Prop} : Run 59 42 lo st h Q = Cnt 59 Q (xo_aload 0 43 lo st h) := run_s rfl
theorem rq_X8_sharesEndWith_43 {lo : Lo} {st : List Value} {h : Hp} {Q : Option Value → Hp → Prop} : Run 59 43 lo st h Q = Cnt 59 Q (xo_getf 8 0 46 lo st h) := run_s rfl
theorem rq_X8_sharesEndWith_46 {lo : Lo} {st : List Value} {h : Hp} {Q : Option Value → Hp → Prop} : Run 59 46 lo st h Q = Cnt 59 Q (xo_const (.int 1) 47 lo st h) := run_s rfl
theorem rq_X8_sharesEndWith_47 {lo : Lo} {st : List Value} {h : Hp} {Q : Option Value → Hp → Prop} : Run 59 47 lo st h Q = Cnt 59 Q (xo_bin (fun x y => x - y) 48 lo st h) := run_s rfl
theorem rq_X8_sharesEndWith_48 {lo : Lo} {st : List Value} {h : Hp} {Q : Option Value → Hp → Prop} : Run 59 48 lo st h Q = Cnt 59 Q (xo_iald 49 lo st h) := run_s rfl
theorem rq_X8_sharesEndWith_49 {lo : Lo} {st : List Value} {h : Hp} {Q : Option Value → Hp → Prop} : Run 59 49 lo st h Q = CCall 57 3 (some 8) st h (Knt 59 52 lo (st.drop 3) Q) := run_c rfl
theorem rq_X8_sharesEndWith_52 {lo : Lo} {st : List Value} {h : Hp} {Q : Option Value → Hp → Prop} : Run 59 52 lo st h Q = Cnt 59 Q (xo_if1 (fun x => decide (x = 0)) 59 55 lo st h) := run_s rfl
theorem rq_X8_sharesEndWith_55 {lo : Lo} {st : List Value} {h : Hp} {Q : Option Value → Hp → Prop} : Run 59 55 lo st h Q = Cnt 59 Q (xo_const (.int 1) 56 lo st h) := run_s rfl
theorem rq_X8_sharesEndWith_56 {lo : Lo} {st : List Value} {h : Hp} {Q : Option Value → Hp → Prop} : Run 59 56 lo st h Q = Cnt 59 Q (xo_goto 60 lo st h) := run_s rfl
theorem rq_X8_sharesEndWith_59 {lo : Lo} {st : List Value} {h : Hp} {Q : Option Value → Hp → Prop} : Run 59 59 lo st h Q = Cnt 59 Q (xo_const (.int 0) 60 lo st h) := run_s rfl
theorem rq_X8_sharesEndWith_60 {lo : Lo} {st : List Value} {h : Hp} {Q : Option Value → Hp → Prop} : Run 59 60 lo st h Q = Cnt 59 Q (xo_zret lo st h) := run_s rfl
theorem rq_X8_hasEndInInkOf_0 {lo : Lo} {st : List Value} {h : Hp} {Q : Option Value → Hp → Prop} : Run 60 0 lo st h Q = Cnt 60 Q (xo_aload 0 1 lo st h) := run_s rfl
theorem rq_X8_hasEndInInkOf_1 {lo : Lo} {st : List Value} {h : Hp} {Q : Option Value → Hp → Prop} : Run 60 1 lo st h Q = Cnt 60 Q (xo_getf 8 0 4 lo st h) := run_s rfl
theorem rq_X8_hasEndInInkOf_4 {lo : Lo} {st : List Value} {h : Hp} {Q : Option Value → Hp → Prop} : Run 60 4 lo st h Q = Cnt 60 Q (xo_if1 (fun x => decide (x ≤ 0)) 59 7 lo st h) := run_s rfl
theorem rq_X8_hasEndInInkOf_7 {lo : Lo} {st : List Value} {h : Hp} {Q : Option Value → Hp → Prop} : Run 60 7 lo st h Q = Cnt 60 Q (xo_aload 1 8 lo st h) := run_s rfl
theorem rq_X8_hasEndInInkOf_8 {lo : Lo} {st : List Value} {h : Hp} {Q : Option Value → Hp → Prop} : Run 60 8 lo st h Q = Cnt 60 Q (xo_aload 0 9 lo st h) := run_s rfl
theorem rq_X8_hasEndInInkOf_9 {lo : Lo} {st : List Value} {h : Hp} {Q : Option Value → Hp → Prop} : Run 60 9 lo st h Q = Cnt 60 Q (xo_getf 8 3 12 lo st h) := run_s rfl
theorem rq_X8_hasEndInInkOf_12 {lo : Lo} {st : List Value} {h : Hp} {Q : Option Value → Hp → Prop} : Run 60 12 lo st h Q = Cnt 60 Q (xo_const (.int 0) 13 lo st h) := run_s rfl
theorem rq_X8_hasEndInInkOf_13 {lo : Lo} {st : List Value} {h : Hp} {Q : Option Value → Hp → Prop} : Run 60 13 lo st h Q = Cnt 60 Q (xo_iald 14 lo st h) := run_s rfl
theorem rq_X8_hasEndInInkOf_14 {lo : Lo} {st : List Value} {h : Hp} {Q : Option Value → Hp → Prop} : Run 60 14 lo st h Q = Cnt 60 Q (xo_aload 0 15 lo st h) := run_s rfl
theorem rq_X8_hasEndInInkOf_15 {lo : Lo} {st : List Value} {h : Hp} {Q : Option Value → Hp → Prop} : Run 60 15 lo st h Q = Cnt 60 Q (xo_getf 8 4 18 lo st h) := run_s rfl
theorem rq_X8_hasEndInInkOf_18 {lo : Lo} {st : List Value} {h : Hp} {Q : Option Value → Hp → Prop} : Run 60 18 lo st h Q = Cnt 60 Q (xo_const (.int 0) 19 lo st h) := run_s rfl
theorem rq_X8_hasEndInInkOf_19 {lo : Lo} {st : List Value} {h : Hp} {Q : Option Value → Hp → Prop} : Run 60 19 lo st h Q = Cnt 60 Q (xo_iald 20 lo st h) := run_s rfl
theorem rq_X8_hasEndInInkOf_20 {lo : Lo} {st : List Value} {h : Hp} {Q : Option Value → Hp → Prop} : Run 60 20 lo st h Q = CCall 58 3 (some 8) st h (Knt 60 23 lo (st.drop 3) Q) := run_c rfl
theorem rq_X8_hasEndInInkOf_23 {lo : Lo} {st : List Value} {h : Hp} {Q : Option Value → Hp → Prop} : Run 60 23 lo st h Q = Cnt 60 Q (xo_if1 (fun x => decide (¬ x = 0)) 55 26 lo st h) := run_s rfl
theorem rq_X8_hasEndInInkOf_26 {lo : Lo} {st : List Value} {h : Hp} {Q : Option Value → Hp → Prop} : Run 60 26 lo st h Q = Cnt 60 Q (xo_aload 1 27 lo st h) := run_s rfl
theorem rq_X8_hasEndInInkOf_27 {lo : Lo} {st : List Value} {h : Hp} {Q : Option Value → Hp → Prop} : Run 60 27 lo st h Q = Cnt 60 Q (xo_aload 0 28 lo st h) := run_s rfl
theorem rq_X8_hasEndInInkOf_28 {lo : Lo} {st : List Value} {h : Hp} {Q : Option Value → Hp → Prop} : Run 60 28 lo st h Q = Cnt 60 Q (xo_getf 8 3 31 lo st h) := run_s rfl
theorem rq_X8_hasEndInInkOf_31 {lo : Lo} {st : List Value} {h : Hp} {Q : Option Value → Hp → Prop} : Run 60 31 lo st h Q = Cnt 60 Q (xo_aload 0 32 lo st h) := run_s rfl
theorem rq_X8_hasEndInInkOf_32 {lo : Lo} {st : List Value} {h : Hp} {Q : Option Value → Hp → Prop} : Run 60 32 lo st h Q = Cnt 60 Q (xo_getf 8 0 35 lo st h) := run_s rfl
theorem rq_X8_hasEndInInkOf_35 {lo : Lo} {st : List Value} {h : Hp} {Q : Option Value → Hp → Prop} : Run 60 35 lo st h Q = Cnt 60 Q (xo_const (.int 1) 36 lo st h) := run_s rfl
theorem rq_X8_hasEndInInkOf_36 {lo : Lo} {st : List Value} {h : Hp} {Q : Option Value → Hp → Prop} : Run 60 36 lo st h Q = Cnt 60 Q (xo_bin (fun x y => x - y) 37 lo st h) := run_s rfl
theorem rq_X8_hasEndInInkOf_37 {lo : Lo} {st : List Value} {h : Hp} {Q : Option Value → Hp → Prop} : Run 60 37 lo st h Q = Cnt 60 Q (xo_iald 38 lo st h) := run_s rfl
theorem rq_X8_hasEndInInkOf_38 {lo : Lo} {st : List Value} {h : Hp} {Q : Option Value → Hp → Prop} : Run 60 38 lo st h Q = Cnt 60 Q (xo_aload 0 39 lo st h) := run_s rfl
theorem rq_X8_hasEndInInkOf_39 {lo : Lo} {st : List Value} {h : Hp} {Q : Option Value → Hp → Prop} : Run 60 39 lo st h Q = Cnt 60 Q (xo_getf 8 4 42 lo st h) := run_s rfl
theorem rq_X8_hasEndInInkOf_42 {lo : Lo} {st : List Value} {h : Hp} {Q : Option Value → Hp → Prop} : Run 60 42 lo st h Q = Cnt 60 Q (xo_aload 0 43 lo st h) := run_s rfl
theorem rq_X8_hasEndInInkOf_43 {lo : Lo} {st : List Value} {h : Hp} {Q : Option Value → Hp → Prop} : Run 60 43 lo st h Q = Cnt 60 Q (xo_getf 8 0 46 lo st h) := run_s rfl
theorem rq_X8_hasEndInInkOf_46 {lo : Lo} {st : List Value} {h : Hp} {Q : Option Value → Hp → Prop} : Run 60 46 lo st h Q = Cnt 60 Q (xo_const (.int 1) 47 lo st h) := run_s rfl
theorem rq_X8_hasEndInInkOf_47 {lo : Lo} {st : List Value} {h : Hp} {Q : Option Value → Hp → Prop} : Run 60 47 lo st h Q = Cnt 60 Q (xo_bin (fun x y => x - y) 48 lo st h) := run_s rfl
theorem rq_X8_hasEndInInkOf_48 {lo : Lo} {st : List Value} {h : Hp} {Q : Option Value → Hp → Prop} : Run 60 48 lo st h Q = Cnt 60 Q (xo_iald 49 lo st h) := run_s rfl
theorem rq_X8_hasEndInInkOf_49 {lo : Lo} {st : List Value} {h : Hp} {Q : Option Value → Hp → Prop} : Run 60 49 lo st h Q = CCall 58 3 (some 8) st h (Knt 60 52 lo (st.drop 3) Q) := run_c rfl
theorem rq_X8_hasEndInInkOf_52 {lo : Lo} {st : List Value} {h : Hp} {Q : Option Value → Hp → Prop} : Run 60 52 lo st h Q = Cnt 60 Q (xo_if1 (fun x => decide (x = 0)) 59 55 lo st h) := run_s rfl
theorem rq_X8_hasEndInInkOf_55 {lo : Lo} {st : List Value} {h : Hp} {Q : Option Value → Hp → Prop} : Run 60 55 lo st h Q = Cnt 60 Q (xo_const (.int 1) 56 lo st h) := run_s rfl
theorem rq_X8_hasEndInInkOf_56 {lo : Lo} {st : List Value} {h : Hp} {Q : Option Value → Hp → Prop} : Run 60 56 lo st h Q = Cnt 60 Q (xo_goto 60 lo st h) := run_s rfl
theorem rq_X8_hasEndInInkOf_59 {lo : Lo} {st : List Value} {h : Hp} {Q : Option Value → Hp → Prop} : Run 60 59 lo st h Q = Cnt 60 Q (xo_const (.int 0) 60 lo st h) := run_s rfl
theorem rq_X8_hasEndInInkOf_60 {lo : Lo} {st : List Value} {h : Hp} {Q : Option Value → Hp → Prop} : Run 60 60 lo st h Q = Cnt 60 Q (xo_zret lo st h) := run_s rfl
theorem rq_X8_addInkTo_0 {lo : Lo} {st : List Value} {h : Hp} {Q : Option Value → Hp → Prop} : Run 61 0 lo st h Q = Cnt 61 Q (xo_const (.int 0) 1 lo st h) := run_s rfl
theorem rq_X8_addInkTo_1 {lo : Lo} {st : List Value} {h : Hp} {Q : Option Value → Hp → Prop} : Run 61 1 lo st h Q = Cnt 61 Q (xo_istore 2 2 lo st h) := run_s rfl
theorem rq_X8_addInkTo_2 {lo : Lo} {st : List Value} {h : Hp} {Q : Option Value → Hp → Prop} : Run 61 2 lo st h Q = Cnt 61 Q (xo_iload 2 3 lo st h) := run_s rfl
theorem rq_X8_addInkTo_3 {lo : Lo} {st : List Value} {h : Hp} {Q : Option Value → Hp → Prop} : Run 61 3 lo st h Q = Cnt 61 Q (xo_const (.int 32) 5 lo st h) := run_s rfl
theorem rq_X8_addInkTo_5 {lo : Lo} {st : List Value} {h : Hp} {Q : Option Value → Hp → Prop} : Run 61 5 lo st h Q = Cnt 61 Q (xo_if2 (fun x y => decide (x ≥ y)) 26 8 lo st h) := run_s rfl
theorem rq_X8_addInkTo_8 {lo : Lo} {st : List Value} {h : Hp} {Q : Option Value → Hp → Prop} : Run 61 8 lo st h Q = Cnt 61 Q (xo_aload 1 9 lo st h) := run_s rfl
theorem rq_X8_addInkTo_9 {lo : Lo} {st : List Value} {h : Hp} {Q : Option Value → Hp → Prop} : Run 61 9 lo st h Q = Cnt 61 Q (xo_iload 2 10 lo st h) := run_s rfl
theorem rq_X8_addInkTo_10 {lo : Lo} {st : List Value} {h : Hp} {Q : Option Value → Hp → Prop} : Run 61 10 lo st h Q = Cnt 61 Q (xo_dup2 11 lo st h) := run_s rfl
theorem rq_X8_addInkTo_11 {lo : Lo} {st : List Value} {h : Hp} {Q : Option Value → Hp → Prop} : Run 61 11 lo st h Q = Cnt 61 Q (xo_iald 12 lo st h) := run_s rfl
theorem rq_X8_addInkTo_12 {lo : Lo} {st : List Value} {h : Hp} {Q : Option Value → Hp → Prop} : Run 61 12 lo st h Q = Cnt 61 Q (xo_aload 0 13 lo st h) := run_s rfl
theorem rq_X8_addInkTo_13 {lo : Lo} {st : List Value} {h : Hp} {Q : Option Value → Hp → Prop} : Run 61 13 lo st h Q = Cnt 61 Q (xo_getf 8 5 16 lo st h) := run_s rfl
theorem rq_X8_addInkTo_16 {lo : Lo} {st : List Value} {h : Hp} {Q : Option Value → Hp → Prop} : Run 61 16 lo st h Q = Cnt 61 Q (xo_iload 2 17 lo st h) := run_s rfl
theorem rq_X8_addInkTo_17 {lo : Lo} {st : List Value} {h : Hp} {Q : Option Value → Hp → Prop} : Run 61 17 lo st h Q = Cnt 61 Q (xo_iald 18 lo st h) := run_s rfl
theorem rq_X8_addInkTo_18 {lo : Lo} {st : List Value} {h : Hp} {Q : Option Value → Hp → Prop} : Run 61 18 lo st h Q = Cnt 61 Q (xo_bin (fun x y => x ||| y) 19 lo st h) := run_s rfl
theorem rq_X8_addInkTo_19 {lo : Lo} {st : List Value} {h : Hp} {Q : Option Value → Hp → Prop} : Run 61 19 lo st h Q = Cnt 61 Q (xo_iast 20 lo st h) := run_s rfl
theorem rq_X8_addInkTo_20 {lo : Lo} {st : List Value} {h : Hp} {Q : Option Value → Hp → Prop} : Run 61 20 lo st h Q = Cnt 61 Q (xo_iinc 2 1 23 lo st h) := run_s rfl
theorem rq_X8_addInkTo_23 {lo : Lo} {st : List Value} {h : Hp} {Q : Option Value → Hp → Prop} : Run 61 23 lo st h Q = Cnt 61 Q (xo_goto 2 lo st h) := run_s rfl
theorem rq_X8_addInkTo_26 {lo : Lo} {st : List Value} {h : Hp} {Q : Option Value → Hp → Prop} : Run 61 26 lo st h Q = Cnt 61 Q (xo_vret lo st h) := run_s rfl
theorem rq_X8_crossesInkOf_0 {lo : Lo} {st : List Value} {h : Hp} {Q : Option Value → Hp → Prop} : Run 62 0 lo st h Q = Cnt 62 Q (xo_const (.int 0) 1 lo st h) := run_s rfl
theorem rq_X8_crossesInkOf_1 {lo : Lo} {st : List Value} {h : Hp} {Q : Option Value → Hp → Prop} : Run 62 1 lo st h Q = Cnt 62 Q (xo_istore 2 2 lo st h) := run_s rfl
theorem rq_X8_crossesInkOf_2 {lo : Lo} {st : List Value} {h : Hp} {Q : Option Value → Hp → Prop} : Run 62 2 lo st h Q = Cnt 62 Q (xo_iload 2 3 lo st h) := run_s rfl
theorem rq_X8_crossesInkOf_3 {lo : Lo} {st : List Value} {h : Hp} {Q : Option Value → Hp → Prop} : Run 62 3 lo st h Q = Cnt 62 Q (xo_const (.int 32) 5 lo st h) := run_s rfl
theorem rq_X8_crossesInkOf_5 {lo : Lo} {st : List Value} {h : Hp} {Q : Option Value → Hp → Prop} : Run 62 5 lo st h Q = Cnt 62 Q (xo_if2 (fun x y => decide (x ≥ y)) 32 8 lo st h) := run_s rfl
theorem rq_X8_crossesInkOf_8 {lo : Lo} {st : List Value} {h : Hp} {Q : Option Value → Hp → Prop} : Run 62 8 lo st h Q = Cnt 62 Q (xo_aload 0 9 lo st h) := run_s rfl
theorem rq_X8_crossesInkOf_9 {lo : Lo} {st : List Value} {h : Hp} {Q : Option Value → Hp → Prop} : Run 62 9 lo st h Q = Cnt 62 Q (xo_getf 8 5 12 lo st h) := run_s rfl
theorem rq_X8_crossesInkOf_12 {lo : Lo} {st : List Value} {h : Hp} {Q : Option Value → Hp → Prop} : Run 62 12 lo st h Q = Cnt 62 Q (xo_iload 2 13 lo st h) := run_s rfl
theorem rq_X8_crossesInkOf_13 {lo : Lo} {st : List Value} {h : Hp} {Q : Option Value → Hp → Prop} : Run 62 13 lo st h Q = Cnt 62 Q (xo_iald 14 lo st h) := run_s rfl
theorem rq_X8_crossesInkOf_14 {lo : Lo} {st : List Value} {h : Hp} {Q : Option Value → Hp → Prop} : Run 62 14 lo st h Q = Cnt 62 Q (xo_aload 1 15 lo st h) := run_s rfl
theorem rq_X8_crossesInkOf_15 {lo : Lo} {st : List Value} {h : Hp} {Q : Option Value → Hp → Prop} : Run 62 15 lo st h Q = Cnt 62 Q (xo_getf 8 5 18 lo st h) := run_s rfl
theorem rq_X8_crossesInkOf_18 {lo : Lo} {st : List Value} {h : Hp} {Q : Option Value → Hp → Prop} : Run 62 18 lo st h Q = Cnt 62 Q (xo_iload 2 19 lo st h) := run_s rfl
theorem rq_X8_crossesInkOf_19 {lo : Lo} {st : List Value} {h : Hp} {Q : Option Value → Hp → Prop} : Run 62 19 lo st h Q = Cnt 62 Q (xo_iald 20 lo st h) := run_s rfl
theorem rq_X8_crossesInkOf_20 {lo : Lo} {st : List Value} {h : Hp} {Q : Option Value → Hp → Prop} : Run 62 20 lo st h Q = Cnt 62 Q (xo_bin (fun x y => x &&& y) 21 lo st h) := run_s rfl
theorem rq_X8_crossesInkOf_21 {lo : Lo} {st : List Value} {h : Hp} {Q : Option Value → Hp → Prop} : Run 62 21 lo st h Q = Cnt 62 Q (xo_if1 (fun x => decide (x = 0)) 26 24 lo st h) := run_s rfl
theorem rq_X8_crossesInkOf_24 {lo : Lo} {st : List Value} {h : Hp} {Q : Option Value → Hp → Prop} : Run 62 24 lo st h Q = Cnt 62 Q (xo_const (.int 1) 25 lo st h) := run_s rfl
theorem rq_X8_crossesInkOf_25 {lo : Lo} {st : List Value} {h : Hp} {Q : Option Value → Hp → Prop} : Run 62 25 lo st h Q = Cnt 62 Q (xo_zret lo st h) := run_s rfl
theorem rq_X8_crossesInkOf_26 {lo : Lo} {st : List Value} {h : Hp} {Q : Option Value → Hp → Prop} : Run 62 26 lo st h Q = Cnt 62 Q (xo_iinc 2 1 29 lo st h) := run_s rfl
theorem rq_X8_crossesInkOf_29 {lo : Lo} {st : List Value} {h : Hp} {Q : Option Value → Hp → Prop} : Run 62 29 lo st h Q = Cnt 62 Q (xo_goto 2 lo st h) := run_s rfl
theorem rq_X8_crossesInkOf_32 {lo : Lo} {st : List Value} {h : Hp} {Q : Option Value → Hp → Prop} : Run 62 32 lo st h Q = Cnt 62 Q (xo_const (.int 0) 33 lo st h) := run_s rfl
theorem rq_X8_crossesInkOf_33 {lo : Lo} {st : List Value} {h : Hp} {Q : Option Value → Hp → Prop} : Run 62 33 lo st h Q = Cnt 62 Q (xo_zret lo st h) := run_s rfl
theorem rq_X9_init_0 {lo : Lo} {st : List Value} {h : Hp} {Q : Option Value → Hp → Prop} : Run 63 0 lo st h Q = Cnt 63 Q (xo_aload 0 1 lo st h) := run_s rfl
theorem rq_X9_init_1 {lo : Lo} {st : List Value} {h : Hp} {Q : Option Value → Hp → Prop} : Run 63 1 lo st h Q = Cnt 63 Q (xo_oinit 4 lo st h) := run_s rfl
theorem rq_X9_init_4 {lo : Lo} {st : List Value} {h : Hp} {Q : Option Value → Hp → Prop} : Run 63 4 lo st h Q = Cnt 63 Q (xo_aload 0 5 lo st h) := run_s rfl
theorem rq_X9_init_5 {lo : Lo} {st : List Value} {h : Hp} {Q : Option Value → Hp → Prop} : Run 63 5 lo st h Q = Cnt 63 Q (xo_const (.int 2) 6 lo st h) := run_s rfl
theorem rq_X9_init_6 {lo : Lo} {st : List Value} {h : Hp} {Q : Option Value → Hp → Prop} : Run 63 6 lo st h Q = Cnt 63 Q (xo_putf 9 0 true 9 lo st h) := run_s rfl
theorem rq_X9_init_9 {lo : Lo} {st : List Value} {h : Hp} {Q : Option Value → Hp → Prop} : Run 63 9 lo st h Q = Cnt 63 Q (xo_aload 0 10 lo st h) := run_s rfl
theorem rq_X9_init_10 {lo : Lo} {st : List Value} {h : Hp} {Q : Option Value → Hp → Prop} : Run 63 10 lo st h Q = Cnt 63 Q (xo_const (.int (-2)) 12 lo st h) := run_s rfl
theorem rq_X9_init_12 {lo : Lo} {st : List Value} {h : Hp} {Q : Option Value → Hp → Prop} : Run 63 12 lo st h Q = Cnt 63 Q (xo_putf 9 1 true 15 lo st h) := run_s rfl
theorem rq_X9_init_15 {lo : Lo} {st : List Value} {h : Hp} {Q : Option Value → Hp → Prop} : Run 63 15 lo st h Q = Cnt 63 Q (xo_aload 0 16 lo st h) := run_s rfl
theorem rq_X9_init_16 {lo : Lo} {st : List Value} {h : Hp} {Q : Option Value → Hp → Prop} : Run 63 16 lo st h Q = Cnt 63 Q (xo_const (.int 4) 17 lo st h) := run_s rfl
theorem rq_X9_init_17 {lo : Lo} {st : List Value} {h : Hp} {Q : Option Value → Hp → Prop} : Run 63 17 lo st h Q = Cnt 63 Q (xo_putf 9 2 true 20 lo st h) := run_s rfl
theorem rq_X9_init_20 {lo : Lo} {st : List Value} {h : Hp} {Q : Option Value → Hp → Prop} : Run 63 20 lo st h Q = Cnt 63 Q (xo_aload 0 21 lo st h) := run_s rfl
theorem rq_X9_init_21 {lo : Lo} {st : List Value} {h : Hp} {Q : Option Value → Hp → Prop} : Run 63 21 lo st h Q = Cnt 63 Q (xo_new 5 [.null, .null, .int 0] 24 lo st h) := run_s rfl
theorem rq_X9_init_24 {lo : Lo} {st : List Value} {h : Hp} {Q : Option Value → Hp → Prop} : Run 63 24 lo st h Q = Cnt 63 Q (xo_dup 25 lo st h) := run_s rfl
theorem rq_X9_init_25 {lo : Lo} {st : List Value} {h : Hp} {Q : Option Value → Hp → Prop} : Run 63 25 lo st h Q = CCall 24 1 (some 5) st h (Knt 63 28 lo (st.drop 1) Q) := run_c rfl
theorem rq_X9_init_28 {lo : Lo} {st : List Value} {h : Hp} {Q : Option Value → Hp → Prop} : Run 63 28 lo st h Q = Cnt 63 Q (xo_putf 9 3 false 31 lo st h) := run_s rfl
theorem rq_X9_init_31 {lo : Lo} {st : List Value} {h : Hp} {Q : Option Value → Hp → Prop} : Run 63 31 lo st h Q = Cnt 63 Q (xo_aload 0 32 lo st h) := run_s rfl
theorem rq_X9_init_32 {lo : Lo} {st : List Value} {h : Hp} {Q : Option Value → Hp → Prop} : Run 63 32 lo st h Q = Cnt 63 Q (xo_new 6 [.null, .int 0] 35 lo st h) := run_s rfl
theorem rq_X9_init_35 {lo : Lo} {st : List Value} {h : Hp} {Q : Option Value → Hp → Prop} : Run 63 35 lo st h Q = Cnt 63 Q (xo_dup 36 lo st h) := run_s rfl
theorem rq_X9_init_36 {lo : Lo} {st : List Value} {h : Hp} {Q : Option Value → Hp → Prop} : Run 63 36 lo st h Q = CCall 28 1 (some 6) st h (Knt 63 39 lo (st.drop 1) Q) := run_c rfl
theorem rq_X9_init_39 {lo : Lo} {st : List Value} {h : Hp} {Q : Option Value → Hp → Prop} : Run 63 39 lo st h Q = Cnt 63 Q (xo_putf 9 4 false 42 lo st h) := run_s rfl
theorem rq_X9_init_42 {lo : Lo} {st : List Value} {h : Hp} {Q : Option Value → Hp → Prop} : Run 63 42 lo st h Q = Cnt 63 Q (xo_aload 0 43 lo st h) := run_s rfl
theorem rq_X9_init_43 {lo : Lo} {st : List Value} {h : Hp} {Q : Option Value → Hp → Prop} : Run 63 43 lo st h Q = Cnt 63 Q (xo_new 7 [.null, .int 0] 46 lo st h) := run_s rfl
theorem rq_X9_init_46 {lo : Lo} {st : List Value} {h : Hp} {Q : Option Value → Hp → Prop} : Run 63 46 lo st h Q = Cnt 63 Q (xo_dup 47 lo st h) := run_s rfl
theorem rq_X9_init_47 {lo : Lo} {st : List Value} {h : Hp} {Q : Option Value → Hp → Prop} : Run 63 47 lo st h Q = CCall 38 1 (some 7) st h (Knt 63 50 lo (st.drop 1) Q) := run_c rfl
theorem rq_X9_init_50 {lo : Lo} {st : List Value} {h : Hp} {Q : Option Value → Hp → Prop} : Run 63 50 lo st h Q = Cnt 63 Q (xo_putf 9 5 false 53 lo st h) := run_s rfl
theorem rq_X9_init_53 {lo : Lo} {st : List Value} {h : Hp} {Q : Option Value → Hp → Prop} : Run 63 53 lo st h Q = Cnt 63 Q (xo_aload 0 54 lo st h) := run_s rfl
theorem rq_X9_init_54 {lo : Lo} {st : List Value} {h : Hp} {Q : Option Value → Hp → Prop} : Run 63 54 lo st h Q = Cnt 63 Q (xo_new 2 [.null, .int 0] 57 lo st h) := run_s rfl
theorem rq_X9_init_57 {lo : Lo} {st : List Value} {h : Hp} {Q : Option Value → Hp → Prop} : Run 63 57 lo st h Q = Cnt 63 Q (xo_dup 58 lo st h) := run_s rfl
theorem rq_X9_init_58 {lo : Lo} {st : List Value} {h : Hp} {Q : Option Value → Hp → Prop} : Run 63 58 lo st h Q = CCall 9 1 (some 2) st h (Knt 63 61 lo (st.drop 1) Q) := run_c rfl
theorem rq_X9_init_61 {lo : Lo} {st : List Value} {h : Hp} {Q : Option Value → Hp → Prop} : Run 63 61 lo st h Q = Cnt 63 Q (xo_putf 9 6 false 64 lo st h) := run_s rfl
theorem rq_X9_init_64 {lo : Lo} {st : List Value} {h : Hp} {Q : Option Value → Hp → Prop} : Run 63 64 lo st h Q = Cnt 63 Q (xo_aload 0 65 lo st h) := run_s rfl
theorem rq_X9_init_65 {lo : Lo} {st : List Value} {h : Hp} {Q : Option Value → Hp → Prop} : Run 63 65 lo st h Q = Cnt 63 Q (xo_const (.int 32) 67 lo st h) := run_s rfl
theorem rq_X9_init_67 {lo : Lo} {st : List Value} {h : Hp} {Q : Option Value → Hp → Prop} : Run 63 67 lo st h Q = Cnt 63 Q (xo_newi 0 69 lo st h) := run_s rfl
theorem rq_X9_init_69 {lo : Lo} {st : List Value} {h : Hp} {Q : Option Value → Hp → Prop} : Run 63 69 lo st h Q = Cnt 63 Q (xo_putf 9 7 false 72 lo st h) := run_s rfl
theorem rq_X9_init_72 {lo : Lo} {st : List Value} {h : Hp} {Q : Option Value → Hp → Prop} : Run 63 72 lo st h Q = Cnt 63 Q (xo_aload 0 73 lo st h) := run_s rfl
theorem rq_X9_init_73 {lo : Lo} {st : List Value} {h : Hp} {Q : Option Value → Hp → Prop} : Run 63 73 lo st h Q = Cnt 63 Q (xo_const (.int 32) 75 lo st h) := run_s rfl
theorem rq_X9_init_75 {lo : Lo} {st : List Value} {h : Hp} {Q : Option Value → Hp → Prop} : Run 63 75 lo st h Q = Cnt 63 Q (xo_newi 0 77 lo st h) := run_s rfl
theorem rq_X9_init_77 {lo : Lo} {st : List Value} {h : Hp} {Q : Option Value → Hp → Prop} : Run 63 77 lo st h Q = Cnt 63 Q (xo_putf 9 8 false 80 lo st h) := run_s rfl
theorem rq_X9_init_80 {lo : Lo} {st : List Value} {h : Hp} {Q : Option Value → Hp → Prop} : Run 63 80 lo st h Q = Cnt 63 Q (xo_aload 0 81 lo st h) := run_s rfl
theorem rq_X9_init_81 {lo : Lo} {st : List Value} {h : Hp} {Q : Option Value → Hp → Prop} : Run 63 81 lo st h Q = Cnt 63 Q (xo_new 1 [.null, .null, .int 0] 84 lo st h) := run_s rfl
theorem rq_X9_init_84 {lo : Lo} {st : List Value} {h : Hp} {Q : Option Value → Hp → Prop} : Run 63 84 lo st h Q = Cnt 63 Q (xo_dup 85 lo st h) := run_s rfl
theorem rq_X9_init_85 {lo : Lo} {st : List Value} {h : Hp} {Q : Option Value → Hp → Prop} : Run 63 85 lo st h Q = CCall 3 1 (some 1) st h (Knt 63 88 lo (st.drop 1) Q) := run_c rfl
theorem rq_X9_init_88 {lo : Lo} {st : List Value} {h : Hp} {Q : Option Value → Hp → Prop} : Run 63 88 lo st h Q = Cnt 63 Q (xo_putf 9 9 false 91 lo st h) := run_s rfl
theorem rq_X9_init_91 {lo : Lo} {st : List Value} {h : Hp} {Q : Option Value → Hp → Prop} : Run 63 91 lo st h Q = Cnt 63 Q (xo_aload 0 92 lo st h) := run_s rfl
theorem rq_X9_init_92 {lo : Lo} {st : List Value} {h : Hp} {Q : Option Value → Hp → Prop} : Run 63 92 lo st h Q = Cnt 63 Q (xo_new 3 [.null, .int 0] 95 lo st h) := run_s rfl
theorem rq_X9_init_95 {lo : Lo} {st : List Value} {h : Hp} {Q : Option Value → Hp → Prop} : Run 63 95 lo st h Q = Cnt 63 Q (xo_dup 96 lo st h) := run_s rfl
theorem rq_X9_init_96 {lo : Lo} {st : List Value} {h : Hp} {Q : Option Value → Hp → Prop} : Run 63 96 lo st h Q = CCall 13 1 (some 3) st h (Knt 63 99 lo (st.drop 1) Q) := run_c rfl
theorem rq_X9_init_99 {lo : Lo} {st : List Value} {h : Hp} {Q : Option Value → Hp → Prop} : Run 63 99 lo st h Q = Cnt 63 Q (xo_putf 9 10 false 102 lo st h) := run_s rfl
theorem rq_X9_init_102 {lo : Lo} {st : List Value} {h : Hp} {Q : Option Value → Hp → Prop} : Run 63 102 lo st h Q = Cnt 63 Q (xo_aload 0 103 lo st h) := run_s rfl
theorem rq_X9_init_103 {lo : Lo} {st : List Value} {h : Hp} {Q : Option Value → Hp → Prop} : Run 63 103 lo st h Q = Cnt 63 Q (xo_new 0 [.int 0, .int 0, .int 0] 106 lo st h) := run_s rfl
theorem rq_X9_init_106 {lo : Lo} {st : List Value} {h : Hp} {Q : Option Value → Hp → Prop} : Run 63 106 lo st h Q = Cnt 63 Q (xo_dup 107 lo st h) := run_s rfl
theorem rq_X9_init_107 {lo : Lo} {st : List Value} {h : Hp} {Q : Option Value → Hp → Prop} : Run 63 107 lo st h Q = CCall 0 1 (some 0) st h (Knt 63 110 lo (st.drop 1) Q) := run_c rfl
theorem rq_X9_init_110 {lo : Lo} {st : List Value} {h : Hp} {Q : Option Value → Hp → Prop} : Run 63 110 lo st h Q = Cnt 63 Q (xo_putf 9 11 false 113 lo st h) := run_s rfl
theorem rq_X9_init_113 {lo : Lo} {st : List Value} {h : Hp} {Q : Option Value → Hp → Prop} : Run 63 113 lo st h Q = Cnt 63 Q (xo_aload 0 114 lo st h) := run_s rfl
theorem rq_X9_init_114 {lo : Lo} {st : List Value} {h : Hp} {Q : Option Value → Hp → Prop} : Run 63 114 lo st h Q = Cnt 63 Q (xo_new 4 [.null, .null, .int 0] 117 lo st h) := run_s rfl
theorem rq_X9_init_117 {lo : Lo} {st : List Value} {h : Hp} {Q : Option Value → Hp → Prop} : Run 63 117 lo st h Q = Cnt 63 Q (xo_dup 118 lo st h) := run_s rfl
theorem rq_X9_init_118 {lo : Lo} {st : List Value} {h : Hp} {Q : Option Value → Hp → Prop} : Run 63 118 lo st h Q = CCall 21 1 (some 4) st h (Knt 63 121 lo (st.drop 1) Q) := run_c rfl
theorem rq_X9_init_121 {lo : Lo} {st : List Value} {h : Hp} {Q : Option Value → Hp → Prop} : Run 63 121 lo st h Q = Cnt 63 Q (xo_putf 9 12 false 124 lo st h) := run_s rfl
theorem rq_X9_init_124 {lo : Lo} {st : List Value} {h : Hp} {Q : Option Value → Hp → Prop} : Run 63 124 lo st h Q = Cnt 63 Q (xo_vret lo st h) := run_s rfl
theorem rq_X9_nib_0 {lo : Lo} {st : List Value} {h : Hp} {Q : Option Value → Hp → Prop} : Run 64 0 lo st h Q = Cnt 64 Q (xo_iload 1 1 lo st h) := run_s rfl
theorem rq_X9_nib_1 {lo : Lo} {st : List Value} {h : Hp} {Q : Option Value → Hp → Prop} : Run 64 1 lo st h Q = Cnt 64 Q (xo_const (.int 0) 2 lo st h) := run_s rfl
theorem rq_X9_nib_2 {lo : Lo} {st : List Value} {h : Hp} {Q : Option Value → Hp → Prop} : Run 64 2 lo st h Q = Cnt 64 Q (xo_const (.int 6) 4 lo st h) := run_s rfl
theorem rq_X9_nib_4 {lo : Lo} {st : List Value} {h : Hp} {Q : Option Value → Hp → Prop} : Run 64 4 lo st h Q = CCall 98 3 none st h (Knt 64 7 lo (st.drop 3) Q) := run_c rfl
theorem rq_X9_nib_7 {lo : Lo} {st : List Value} {h : Hp} {Q : Option Value → Hp → Prop} : Run 64 7 lo st h Q = Cnt 64 Q (xo_if1 (fun x => decide (x = 0)) 21 10 lo st h) := run_s rfl
theorem rq_X9_nib_10 {lo : Lo} {st : List Value} {h : Hp} {Q : Option Value → Hp → Prop} : Run 64 10 lo st h Q = Cnt 64 Q (xo_iload 2 11 lo st h) := run_s rfl
theorem rq_X9_nib_11 {lo : Lo} {st : List Value} {h : Hp} {Q : Option Value → Hp → Prop} : Run 64 11 lo st h Q = Cnt 64 Q (xo_const (.int (-6)) 13 lo st h) := run_s rfl
theorem rq_X9_nib_13 {lo : Lo} {st : List Value} {h : Hp} {Q : Option Value → Hp → Prop} : Run 64 13 lo st h Q = Cnt 64 Q (xo_const (.int 6) 15 lo st h) := run_s rfl
theorem rq_X9_nib_15 {lo : Lo} {st : List Value} {h : Hp} {Q : Option Value → Hp → Prop} : Run 64 15 lo st h Q = CCall 98 3 none st h (Knt 64 18 lo (st.drop 3) Q) := run_c rfl
theorem rq_X9_nib_18 {lo : Lo} {st : List Value} {h : Hp} {Q : Option Value → Hp → Prop} : Run 64 18 lo st h Q = Cnt 64 Q (xo_if1 (fun x => decide (¬ x = 0)) 24 21 lo st h) := run_s rfl
theorem rq_X9_nib_21 {lo : Lo} {st : List Value} {h : Hp} {Q : Option Value → Hp → Prop} : Run 64 21 lo st h Q = Cnt 64 Q (xo_const (.int (-2)) 23 lo st h) := run_s rfl
theorem rq_X9_nib_23 {lo : Lo} {st : List Value} {h : Hp} {Q : Option Value → Hp → Prop} : Run 64 23 lo st h Q = Cnt 64 Q (xo_iret lo st h) := run_s rfl
theorem rq_X9_nib_24 {lo : Lo} {st : List Value} {h : Hp} {Q : Option Value → Hp → Prop} : Run 64 24 lo st h Q = Cnt 64 Q (xo_iload 1 25 lo st h) := run_s rfl
theorem rq_X9_nib_25 {lo : Lo} {st : List Value} {h : Hp} {Q : Option Value → Hp → Prop} : Run 64 25 lo st h Q = Cnt 64 Q (xo_if1 (fun x => decide (¬ x = 0)) 35 28 lo st h) := run_s rfl
theorem rq_X9_nib_28 {lo : Lo} {st : List Value} {h : Hp} {Q : Option Value → Hp → Prop} : Run 64 28 lo st h Q = Cnt 64 Q (xo_iload 2 29 lo st h) := run_s rfl
theorem rq_X9_nib_29 {lo : Lo} {st : List Value} {h : Hp} {Q : Option Value → Hp → Prop} : Run 64 29 lo st h Q = Cnt 64 Q (xo_if1 (fun x => decide (¬ x = 0)) 35 32 lo st h) := run_s rfl
theorem rq_X9_nib_32 {lo : Lo} {st : List Value} {h : Hp} {Q : Option Value → Hp → Prop} : Run 64 32 lo st h Q = Cnt 64 Q (xo_const (.int (-3)) 34 lo st h) := run_s rfl
theorem rq_X9_nib_34 {lo : Lo} {st : List Value} {h : Hp} {Q : Option Value → Hp → Prop} : Run 64 34 lo st h Q = Cnt 64 Q (xo_iret lo st h) := run_s rfl
theorem rq_X9_nib_35 {lo : Lo} {st : List Value} {h : Hp} {Q : Option Value → Hp → Prop} : Run 64 35 lo st h Q = Cnt 64 Q (xo_aload 0 36 lo st h) := run_s rfl
theorem rq_X9_nib_36 {lo : Lo} {st : List Value} {h : Hp} {Q : Option Value → Hp → Prop} : Run 64 36 lo st h Q = Cnt 64 Q (xo_iload 1 37 lo st h) := run_s rfl
theorem rq_X9_nib_37 {lo : Lo} {st : List Value} {h : Hp} {Q : Option Value → Hp → Prop} : Run 64 37 lo st h Q = Cnt 64 Q (xo_putf 9 0 true 40 lo st h) := run_s rfl
theorem rq_X9_nib_40 {lo : Lo} {st : List Value} {h : Hp} {Q : Option Value → Hp → Prop} : Run 64 40 lo st h Q = Cnt 64 Q (xo_aload 0 41 lo st h) := run_s rfl
theorem rq_X9_nib_41 {lo : Lo} {st : List Value} {h : Hp} {Q : Option Value → Hp → Prop} : Run 64 41 lo st h Q = Cnt 64 Q (xo_iload 2 42 lo st h) := run_s rfl
theorem rq_X9_nib_42 {lo : Lo} {st : List Value} {h : Hp} {Q : Option Value → Hp → Prop} : Run 64 42 lo st h Q = Cnt 64 Q (xo_putf 9 1 true 45 lo st h) := run_s rfl
theorem rq_X9_nib_45 {lo : Lo} {st : List Value} {h : Hp} {Q : Option Value → Hp → Prop} : Run 64 45 lo st h Q = Cnt 64 Q (xo_const (.int 1) 46 lo st h) := run_s rfl
theorem rq_X9_nib_46 {lo : Lo} {st : List Value} {h : Hp} {Q : Option Value → Hp → Prop} : Run 64 46 lo st h Q = Cnt 64 Q (xo_iret lo st h) := run_s rfl
theorem rq_X9_ofNib_0 {lo : Lo} {st : List Value} {h : Hp} {Q : Option Value → Hp → Prop} : Run 65 0 lo st h Q = Cnt 65 Q (xo_iload 1 1 lo st h) := run_s rfl
theorem rq_X9_ofNib_1 {lo : Lo} {st : List Value} {h : Hp} {Q : Option Value → Hp → Prop} : Run 65 1 lo st h Q = Cnt 65 Q (xo_sw (xlook 1 37 #[(0, 27), (1, 32)]) lo st h) := run_s rfl
theorem rq_X9_ofNib_28 {lo : Lo} {st : List Value} {h : Hp} {Q : Option Value → Hp → Prop} : Run 65 28 lo st h Q = Cnt 65 Q (xo_aload 0 29 lo st h) := run_s rfl
theorem rq_X9_ofNib_29 {lo : Lo} {st : List Value} {h : Hp} {Q : Option Value → Hp → Prop} : Run 65 29 lo st h Q = Cnt 65 Q (xo_getf 9 0 32 lo st h) := run_s rfl
theorem rq_X9_ofNib_32 {lo : Lo} {st : List Value} {h : Hp} {Q : Option Value → Hp → Prop} : Run 65 32 lo st h Q = Cnt 65 Q (xo_iret lo st h) := run_s rfl
theorem rq_X9_ofNib_33 {lo : Lo} {st : List Value} {h : Hp} {Q : Option Value → Hp → Prop} : Run 65 33 lo st h Q = Cnt 65 Q (xo_aload 0 34 lo st h) := run_s rfl
theorem rq_X9_ofNib_34 {lo : Lo} {st : List Value} {h : Hp} {Q : Option Value → Hp → Prop} : Run 65 34 lo st h Q = Cnt 65 Q (xo_getf 9 1 37 lo st h) := run_s rfl
theorem rq_X9_ofNib_37 {lo : Lo} {st : List Value} {h : Hp} {Q : Option Value → Hp → Prop} : Run 65 37 lo st h Q = Cnt 65 Q (xo_iret lo st h) := run_s rfl
theorem rq_X9_ofNib_38 {lo : Lo} {st : List Value} {h : Hp} {Q : Option Value → Hp → Prop} : Run 65 38 lo st h Q = Cnt 65 Q (xo_const (.int (-2)) 40 lo st h) := run_s rfl
theorem rq_X9_ofNib_40 {lo : Lo} {st : List Value} {h : Hp} {Q : Option Value → Hp → Prop} : Run 65 40 lo st h Q = Cnt 65 Q (xo_iret lo st h) := run_s rfl
theorem rq_X9_point_0 {lo : Lo} {st : List Value} {h : Hp} {Q : Option Value → Hp → Prop} : Run 66 0 lo st h Q = Cnt 66 Q (xo_iload 1 1 lo st h) := run_s rfl
theorem rq_X9_point_1 {lo : Lo} {st : List Value} {h : Hp} {Q : Option Value → Hp → Prop} : Run 66 1 lo st h Q = Cnt 66 Q (xo_const (.int 0) 2 lo st h) := run_s rfl
theorem rq_X9_point_2 {lo : Lo} {st : List Value} {h : Hp} {Q : Option Value → Hp → Prop} : Run 66 2 lo st h Q = Cnt 66 Q (xo_const (.int 31) 4 lo st h) := run_s rfl
theorem rq_X9_point_4 {lo : Lo} {st : List Value} {h : Hp} {Q : Option Value → Hp → Prop} : Run 66 4 lo st h Q = CCall 98 3 none st h (Knt 66 7 lo (st.drop 3) Q) := run_c rfl
theorem rq_X9_point_7 {lo : Lo} {st : List Value} {h : Hp} {Q : Option Value → Hp → Prop} : Run 66 7 lo st h Q = Cnt 66 Q (xo_if1 (fun x => decide (x = 0)) 20 10 lo st h) := run_s rfl
theorem rq_X9_point_10 {lo : Lo} {st : List Value} {h : Hp} {Q : Option Value → Hp → Prop} : Run 66 10 lo st h Q = Cnt 66 Q (xo_iload 2 11 lo st h) := run_s rfl
theorem rq_X9_point_11 {lo : Lo} {st : List Value} {h : Hp} {Q : Option Value → Hp → Prop} : Run 66 11 lo st h Q = Cnt 66 Q (xo_const (.int 0) 12 lo st h) := run_s rfl
theorem rq_X9_point_12 {lo : Lo} {st : List Value} {h : Hp} {Q : Option Value → Hp → Prop} : Run 66 12 lo st h Q = Cnt 66 Q (xo_const (.int 31) 14 lo st h) := run_s rfl
theorem rq_X9_point_14 {lo : Lo} {st : List Value} {h : Hp} {Q : Option Value → Hp → Prop} : Run 66 14 lo st h Q = CCall 98 3 none st h (Knt 66 17 lo (st.drop 3) Q) := run_c rfl
theorem rq_X9_point_17 {lo : Lo} {st : List Value} {h : Hp} {Q : Option Value → Hp → Prop} : Run 66 17 lo st h Q = Cnt 66 Q (xo_if1 (fun x => decide (¬ x = 0)) 23 20 lo st h) := run_s rfl
theorem rq_X9_point_20 {lo : Lo} {st : List Value} {h : Hp} {Q : Option Value → Hp → Prop} : Run 66 20 lo st h Q = Cnt 66 Q (xo_const (.int (-2)) 22 lo st h) := run_s rfl
theorem rq_X9_point_22 {lo : Lo} {st : List Value} {h : Hp} {Q : Option Value → Hp → Prop} : Run 66 22 lo st h Q = Cnt 66 Q (xo_iret lo st h) := run_s rfl
theorem rq_X9_point_23 {lo : Lo} {st : List Value} {h : Hp} {Q : Option Value → Hp → Prop} : Run 66 23 lo st h Q = Cnt 66 Q (xo_aload 0 24 lo st h) := run_s rfl
theorem rq_X9_point_24 {lo : Lo} {st : List Value} {h : Hp} {Q : Option Value → Hp → Prop} : Run 66 24 lo st h Q = Cnt 66 Q (xo_getf 9 3 27 lo st h) := run_s rfl
theorem rq_X9_point_27 {lo : Lo} {st : List Value} {h : Hp} {Q : Option Value → Hp → Prop} : Run 66 27 lo st h Q = Cnt 66 Q (xo_iload 1 28 lo st h) := run_s rfl
theorem rq_X9_point_28 {lo : Lo} {st : List Value} {h : Hp} {Q : Option Value → Hp → Prop} : Run 66 28 lo st h Q = Cnt 66 Q (xo_iload 2 29 lo st h) := run_s rfl
theorem rq_X9_point_29 {lo : Lo} {st : List Value} {h : Hp} {Q : Option Value → Hp → Prop} : Run 66 29 lo st h Q = CCall 25 3 (some 5) st h (Knt 66 32 lo (st.drop 3) Q) := run_c rfl
theorem rq_X9_point_32 {lo : Lo} {st : List Value} {h : Hp} {Q : Option Value → Hp → Prop} : Run 66 32 lo st h Q = Cnt 66 Q (xo_if1 (fun x => decide (x = 0)) 38 35 lo st h) := run_s rfl
theorem rq_X9_point_35 {lo : Lo} {st : List Value} {h : Hp} {Q : Option Value → Hp → Prop} : Run 66 35 lo st h Q = Cnt 66 Q (xo_const (.int (-3)) 37 lo st h) := run_s rfl
theorem rq_X9_point_37 {lo : Lo} {st : List Value} {h : Hp} {Q : Option Value → Hp → Prop} : Run 66 37 lo st h Q = Cnt 66 Q (xo_iret lo st h) := run_s rfl
theorem rq_X9_point_38 {lo : Lo} {st : List Value} {h : Hp} {Q : Option Value → Hp → Prop} : Run 66 38 lo st h Q = Cnt 66 Q (xo_aload 0 39 lo st h) := run_s rfl
theorem rq_X9_point_39 {lo : Lo} {st : List Value} {h : Hp} {Q : Option Value → Hp → Prop} : Run 66 39 lo st h Q = Cnt 66 Q (xo_getf 9 3 42 lo st h) := run_s rfl
theorem rq_X9_point_42 {lo : Lo} {st : List Value} {h : Hp} {Q : Option Value → Hp → Prop} : Run 66 42 lo st h Q = Cnt 66 Q (xo_iload 1 43 lo st h) := run_s rfl
theorem rq_X9_point_43 {lo : Lo} {st : List Value} {h : Hp} {Q : Option Value → Hp → Prop} : Run 66 43 lo st h Q = Cnt 66 Q (xo_iload 2 44 lo st h) := run_s rfl
theorem rq_X9_point_44 {lo : Lo} {st : List Value} {h : Hp} {Q : Option Value → Hp → Prop} : Run 66 44 lo st h Q = CCall 26 3 (some 5) st h (Knt 66 47 lo (st.drop 3) Q) := run_c rfl
theorem rq_X9_point_47 {lo : Lo} {st : List Value} {h : Hp} {Q : Option Value → Hp → Prop} : Run 66 47 lo st h Q = Cnt 66 Q (xo_if1 (fun x => decide (x = 0)) 60 50 lo st h) := run_s rfl
theorem rq_X9_point_50 {lo : Lo} {st : List Value} {h : Hp} {Q : Option Value → Hp → Prop} : Run 66 50 lo st h Q = Cnt 66 Q (xo_aload 0 51 lo st h) := run_s rfl
theorem rq_X9_point_51 {lo : Lo} {st : List Value} {h : Hp} {Q : Option Value → Hp → Prop} : Run 66 51 lo st h Q = Cnt 66 Q (xo_getf 9 3 54 lo st h) := run_s rfl
theorem rq_X9_point_54 {lo : Lo} {st : List Value} {h : Hp} {Q : Option Value → Hp → Prop} : Run 66 54 lo st h Q = Cnt 66 Q (xo_getf 5 2 57 lo st h) := run_s rfl
theorem rq_X9_point_57 {lo : Lo} {st : List Value} {h : Hp} {Q : Option Value → Hp → Prop} : Run 66 57 lo st h Q = Cnt 66 Q (xo_goto 62 lo st h) := run_s rfl
theorem rq_X9_point_60 {lo : Lo} {st : List Value} {h : Hp} {Q : Option Value → Hp → Prop} : Run 66 60 lo st h Q = Cnt 66 Q (xo_const (.int (-4)) 62 lo st h) := run_s rfl
theorem rq_X9_point_62 {lo : Lo} {st : List Value} {h : Hp} {Q : Option Value → Hp → Prop} : Run 66 62 lo st h Q = Cnt 66 Q (xo_iret lo st h) := run_s rfl
theorem rq_X9_drop_0 {lo : Lo} {st : List Value} {h : Hp} {Q : Option Value → Hp → Prop} : Run 67 0 lo st h Q = Cnt 67 Q (xo_aload 0 1 lo st h) := run_s rfl
theorem rq_X9_drop_1 {lo : Lo} {st : List Value} {h : Hp} {Q : Option Value → Hp → Prop} : Run 67 1 lo st h Q = Cnt 67 Q (xo_getf 9 3 4 lo st h) := run_s rfl
theorem rq_X9_drop_4 {lo : Lo} {st : List Value} {h : Hp} {Q : Option Value → Hp → Prop} : Run 67 4 lo st h Q = Cnt 67 Q (xo_getf 5 2 7 lo st h) := run_s rfl
theorem rq_X9_drop_7 {lo : Lo} {st : List Value} {h : Hp} {Q : Option Value → Hp → Prop} : Run 67 7 lo st h Q = Cnt 67 Q (xo_istore 1 8 lo st h) := run_s rfl
theorem rq_X9_drop_8 {lo : Lo} {st : List Value} {h : Hp} {Q : Option Value → Hp → Prop} : Run 67 8 lo st h Q = Cnt 67 Q (xo_aload 0 9 lo st h) := run_s rfl
theorem rq_X9_drop_9 {lo : Lo} {st : List Value} {h : Hp} {Q : Option Value → Hp → Prop} : Run 67 9 lo st h Q = Cnt 67 Q (xo_getf 9 3 12 lo st h) := run_s rfl
theorem rq_X9_drop_12 {lo : Lo} {st : List Value} {h : Hp} {Q : Option Value → Hp → Prop} : Run 67 12 lo st h Q = CCall 27 1 (some 5) st h (Knt 67 15 lo (st.drop 1) Q) := run_c rfl
theorem rq_X9_drop_15 {lo : Lo} {st : List Value} {h : Hp} {Q : Option Value → Hp → Prop} : Run 67 15 lo st h Q = Cnt 67 Q (xo_iload 1 16 lo st h) := run_s rfl
theorem rq_X9_drop_16 {lo : Lo} {st : List Value} {h : Hp} {Q : Option Value → Hp → Prop} : Run 67 16 lo st h Q = Cnt 67 Q (xo_iret lo st h) := run_s rfl
theorem rq_X9_lift_0 {lo : Lo} {st : List Value} {h : Hp} {Q : Option Value → Hp → Prop} : Run 68 0 lo st h Q = Cnt 68 Q (xo_aload 0 1 lo st h) := run_s rfl
theorem rq_X9_lift_1 {lo : Lo} {st : List Value} {h : Hp} {Q : Option Value → Hp → Prop} : Run 68 1 lo st h Q = Cnt 68 Q (xo_getf 9 3 4 lo st h) := run_s rfl
theorem rq_X9_lift_4 {lo : Lo} {st : List Value} {h : Hp} {Q : Option Value → Hp → Prop} : Run 68 4 lo st h Q = Cnt 68 Q (xo_getf 5 2 7 lo st h) := run_s rfl
theorem rq_X9_lift_7 {lo : Lo} {st : List Value} {h : Hp} {Q : Option Value → Hp → Prop} : Run 68 7 lo st h Q = Cnt 68 Q (xo_if1 (fun x => decide (¬ x = 0)) 13 10 lo st h) := run_s rfl
theorem rq_X9_lift_10 {lo : Lo} {st : List Value} {h : Hp} {Q : Option Value → Hp → Prop} : Run 68 10 lo st h Q = Cnt 68 Q (xo_const (.int (-3)) 12 lo st h) := run_s rfl
theorem rq_X9_lift_12 {lo : Lo} {st : List Value} {h : Hp} {Q : Option Value → Hp → Prop} : Run 68 12 lo st h Q = Cnt 68 Q (xo_iret lo st h) := run_s rfl
theorem rq_X9_lift_13 {lo : Lo} {st : List Value} {h : Hp} {Q : Option Value → Hp → Prop} : Run 68 13 lo st h Q = Cnt 68 Q (xo_aload 0 14 lo st h) := run_s rfl
theorem rq_X9_lift_14 {lo : Lo} {st : List Value} {h : Hp} {Q : Option Value → Hp → Prop} : Run 68 14 lo st h Q = Cnt 68 Q (xo_getf 9 4 17 lo st h) := run_s rfl
theorem rq_X9_lift_17 {lo : Lo} {st : List Value} {h : Hp} {Q : Option Value → Hp → Prop} : Run 68 17 lo st h Q = Cnt 68 Q (xo_getf 6 1 20 lo st h) := run_s rfl
theorem rq_X9_lift_20 {lo : Lo} {st : List Value} {h : Hp} {Q : Option Value → Hp → Prop} : Run 68 20 lo st h Q = Cnt 68 Q (xo_const (.int 6) 22 lo st h) := run_s rfl
theorem rq_X9_lift_22 {lo : Lo} {st : List Value} {h : Hp} {Q : Option Value → Hp → Prop} : Run 68 22 lo st h Q = Cnt 68 Q (xo_if2 (fun x y => decide (x < y)) 28 25 lo st h) := run_s rfl
theorem rq_X9_lift_25 {lo : Lo} {st : List Value} {h : Hp} {Q : Option Value → Hp → Prop} : Run 68 25 lo st h Q = Cnt 68 Q (xo_const (.int (-4)) 27 lo st h) := run_s rfl
theorem rq_X9_lift_27 {lo : Lo} {st : List Value} {h : Hp} {Q : Option Value → Hp → Prop} : Run 68 27 lo st h Q = Cnt 68 Q (xo_iret lo st h) := run_s rfl
theorem rq_X9_lift_28 {lo : Lo} {st : List Value} {h : Hp} {Q : Option Value → Hp → Prop} : Run 68 28 lo st h Q = Cnt 68 Q (xo_aload 0 29 lo st h) := run_s rfl
theorem rq_X9_lift_29 {lo : Lo} {st : List Value} {h : Hp} {Q : Option Value → Hp → Prop} : Run 68 29 lo st h Q = Cnt 68 Q (xo_getf 9 4 32 lo st h) := run_s rfl
theorem rq_X9_lift_32 {lo : Lo} {st : List Value} {h : Hp} {Q : Option Value → Hp → Prop} : Run 68 32 lo st h Q = Cnt 68 Q (xo_new 8 [.int 0, .int 0, .int 0, .null, .null, .null] 35 lo st h) := run_s rfl
theorem rq_X9_lift_35 {lo : Lo} {st : List Value} {h : Hp} {Q : Option Value → Hp → Prop} : Run 68 35 lo st h Q = Cnt 68 Q (xo_dup 36 lo st h) := run_s rfl
theorem rq_X9_lift_36 {lo : Lo} {st : List Value} {h : Hp} {Q : Option Value → Hp → Prop} : Run 68 36 lo st h Q = Cnt 68 Q (xo_aload 0 37 lo st h) := run_s rfl
theorem rq_X9_lift_37 {lo : Lo} {st : List Value} {h : Hp} {Q : Option Value → Hp → Prop} : Run 68 37 lo st h Q = Cnt 68 Q (xo_getf 9 3 40 lo st h) := run_s rfl
theorem rq_X9_lift_40 {lo : Lo} {st : List Value} {h : Hp} {Q : Option Value → Hp → Prop} : Run 68 40 lo st h Q = Cnt 68 Q (xo_aload 0 41 lo st h) := run_s rfl
theorem rq_X9_lift_41 {lo : Lo} {st : List Value} {h : Hp} {Q : Option Value → Hp → Prop} : Run 68 41 lo st h Q = Cnt 68 Q (xo_getf 9 0 44 lo st h) := run_s rfl
theorem rq_X9_lift_44 {lo : Lo} {st : List Value} {h : Hp} {Q : Option Value → Hp → Prop} : Run 68 44 lo st h Q = Cnt 68 Q (xo_aload 0 45 lo st h) := run_s rfl
theorem rq_X9_lift_45 {lo : Lo} {st : List Value} {h : Hp} {Q : Option Value → Hp → Prop} : Run 68 45 lo st h Q = Cnt 68 Q (xo_getf 9 1 48 lo st h) := run_s rfl
theorem rq_X9_lift_48 {lo : Lo} {st : List Value} {h : Hp} {Q : Option Value → Hp → Prop} : Run 68 48 lo st h Q = CCall 43 4 (some 8) st h (Knt 68 51 lo (st.drop 4) Q) := run_c rfl
theorem rq_X9_lift_51 {lo : Lo} {st : List Value} {h : Hp} {Q : Option Value → Hp → Prop} : Run 68 51 lo st h Q = CCall 30 2 (some 6) st h (Knt 68 54 lo (st.drop 2) Q) := run_c rfl
theorem rq_X9_lift_54 {lo : Lo} {st : List Value} {h : Hp} {Q : Option Value → Hp → Prop} : Run 68 54 lo st h Q = Cnt 68 Q (xo_aload 0 55 lo st h) := run_s rfl
theorem rq_X9_lift_55 {lo : Lo} {st : List Value} {h : Hp} {Q : Option Value → Hp → Prop} : Run 68 55 lo st h Q = Cnt 68 Q (xo_getf 9 3 58 lo st h) := run_s rfl
theorem rq_X9_lift_58 {lo : Lo} {st : List Value} {h : Hp} {Q : Option Value → Hp → Prop} : Run 68 58 lo st h Q = CCall 27 1 (some 5) st h (Knt 68 61 lo (st.drop 1) Q) := run_c rfl
theorem rq_X9_lift_61 {lo : Lo} {st : List Value} {h : Hp} {Q : Option Value → Hp → Prop} : Run 68 61 lo st h Q = Cnt 68 Q (xo_aload 0 62 lo st h) := run_s rfl
theorem rq_X9_lift_62 {lo : Lo} {st : List Value} {h : Hp} {Q : Option Value → Hp → Prop} : Run 68 62 lo st h Q = Cnt 68 Q (xo_getf 9 4 65 lo st h) := run_s rfl
theorem rq_X9_lift_65 {lo : Lo} {st : List Value} {h : Hp} {Q : Option Value → Hp → Prop} : Run 68 65 lo st h Q = Cnt 68 Q (xo_getf 6 1 68 lo st h) := run_s rfl
theorem rq_X9_lift_68 {lo : Lo} {st : List Value} {h : Hp} {Q : Option Value → Hp → Prop} : Run 68 68 lo st h Q = Cnt 68 Q (xo_const (.int 1) 69 lo st h) := run_s rfl
theorem rq_X9_lift_69 {lo : Lo} {st : List Value} {h : Hp} {Q : Option Value → Hp → Prop} : Run 68 69 lo st h Q = Cnt 68 Q (xo_bin (fun x y => x - y) 70 lo st h) := run_s rfl
theorem rq_X9_lift_70 {lo : Lo} {st : List Value} {h : Hp} {Q : Option Value → Hp → Prop} : Run 68 70 lo st h Q = Cnt 68 Q (xo_iret lo st h) := run_s rfl
theorem rq_X9_undo_0 {lo : Lo} {st : List Value} {h : Hp} {Q : Option Value → Hp → Prop} : Run 69 0 lo st h Q = Cnt 69 Q (xo_aload 0 1 lo st h) := run_s rfl
theorem rq_X9_undo_1 {lo : Lo} {st : List Value} {h : Hp} {Q : Option Value → Hp → Prop} : Run 69 1 lo st h Q = Cnt 69 Q (xo_getf 9 4 4 lo st h) := run_s rfl
theorem rq_X9_undo_4 {lo : Lo} {st : List Value} {h : Hp} {Q : Option Value → Hp → Prop} : Run 69 4 lo st h Q = Cnt 69 Q (xo_getf 6 1 7 lo st h) := run_s rfl
theorem rq_X9_undo_7 {lo : Lo} {st : List Value} {h : Hp} {Q : Option Value → Hp → Prop} : Run 69 7 lo st h Q = Cnt 69 Q (xo_if1 (fun x => decide (¬ x = 0)) 13 10 lo st h) := run_s rfl
theorem rq_X9_undo_10 {lo : Lo} {st : List Value} {h : Hp} {Q : Option Value → Hp → Prop} : Run 69 10 lo st h Q = Cnt 69 Q (xo_const (.int (-3)) 12 lo st h) := run_s rfl
theorem rq_X9_undo_12 {lo : Lo} {st : List Value} {h : Hp} {Q : Option Value → Hp → Prop} : Run 69 12 lo st h Q = Cnt 69 Q (xo_iret lo st h) := run_s rfl
theorem rq_X9_undo_13 {lo : Lo} {st : List Value} {h : Hp} {Q : Option Value → Hp → Prop} : Run 69 13 lo st h Q = Cnt 69 Q (xo_aload 0 14 lo st h) := run_s rfl
theorem rq_X9_undo_14 {lo : Lo} {st : List Value} {h : Hp} {Q : Option Value → Hp → Prop} : Run 69 14 lo st h Q = Cnt 69 Q (xo_getf 9 4 17 lo st h) := run_s rfl
theorem rq_X9_undo_17 {lo : Lo} {st : List Value} {h : Hp} {Q : Option Value → Hp → Prop} : Run 69 17 lo st h Q = CCall 31 1 (some 6) st h (Knt 69 20 lo (st.drop 1) Q) := run_c rfl
theorem rq_X9_undo_20 {lo : Lo} {st : List Value} {h : Hp} {Q : Option Value → Hp → Prop} : Run 69 20 lo st h Q = Cnt 69 Q (xo_aload 0 21 lo st h) := run_s rfl
theorem rq_X9_undo_21 {lo : Lo} {st : List Value} {h : Hp} {Q : Option Value → Hp → Prop} : Run 69 21 lo st h Q = Cnt 69 Q (xo_getf 9 4 24 lo st h) := run_s rfl
theorem rq_X9_undo_24 {lo : Lo} {st : List Value} {h : Hp} {Q : Option Value → Hp → Prop} : Run 69 24 lo st h Q = Cnt 69 Q (xo_getf 6 1 27 lo st h) := run_s rfl
theorem rq_X9_undo_27 {lo : Lo} {st : List Value} {h : Hp} {Q : Option Value → Hp → Prop} : Run 69 27 lo st h Q = Cnt 69 Q (xo_iret lo st h) := run_s rfl
theorem rq_X9_ofStroke_0 {lo : Lo} {st : List Value} {h : Hp} {Q : Option Value → Hp → Prop} : Run 70 0 lo st h Q = Cnt 70 Q (xo_aload 0 1 lo st h) := run_s rfl
theorem rq_X9_ofStroke_1 {lo : Lo} {st : List Value} {h : Hp} {Q : Option Value → Hp → Prop} : Run 70 1 lo st h Q = Cnt 70 Q (xo_getf 9 4 4 lo st h) := run_s rfl
theorem rq_X9_ofStroke_4 {lo : Lo} {st : List Value} {h : Hp} {Q : Option Value → Hp → Prop} : Run 70 4 lo st h Q = Cnt 70 Q (xo_iload 1 5 lo st h) := run_s rfl
theorem rq_X9_ofStroke_5 {lo : Lo} {st : List Value} {h : Hp} {Q : Option Value → Hp → Prop} : Run 70 5 lo st h Q = CCall 29 2 (some 6) st h (Knt 70 8 lo (st.drop 2) Q) := run_c rfl
theorem rq_X9_ofStroke_8 {lo : Lo} {st : List Value} {h : Hp} {Q : Option Value → Hp → Prop} : Run 70 8 lo st h Q = Cnt 70 Q (xo_astore 3 9 lo st h) := run_s rfl
theorem rq_X9_ofStroke_9 {lo : Lo} {st : List Value} {h : Hp} {Q : Option Value → Hp → Prop} : Run 70 9 lo st h Q = Cnt 70 Q (xo_aload 3 10 lo st h) := run_s rfl
theorem rq_X9_ofStroke_10 {lo : Lo} {st : List Value} {h : Hp} {Q : Option Value → Hp → Prop} : Run 70 10 lo st h Q = Cnt 70 Q (xo_null 13 15 lo st h) := run_s rfl
theorem rq_X9_ofStroke_13 {lo : Lo} {st : List Value} {h : Hp} {Q : Option Value → Hp → Prop} : Run 70 13 lo st h Q = Cnt 70 Q (xo_const (.int (-1)) 14 lo st h) := run_s rfl
theorem rq_X9_ofStroke_14 {lo : Lo} {st : List Value} {h : Hp} {Q : Option Value → Hp → Prop} : Run 70 14 lo st h Q = Cnt 70 Q (xo_iret lo st h) := run_s rfl
theorem rq_X9_ofStroke_15 {lo : Lo} {st : List Value} {h : Hp} {Q : Option Value → Hp → Prop} : Run 70 15 lo st h Q = Cnt 70 Q (xo_iload 2 16 lo st h) := run_s rfl
theorem rq_X9_ofStroke_16 {lo : Lo} {st : List Value} {h : Hp} {Q : Option Value → Hp → Prop} : Run 70 16 lo st h Q = Cnt 70 Q (xo_sw (xtab 16 80 0 4 #[36, 41, 46, 51, 63]) lo st h) := run_s rfl
theorem rq_X9_ofStroke_52 {lo : Lo} {st : List Value} {h : Hp} {Q : Option Value → Hp → Prop} : Run 70 52 lo st h Q = Cnt 70 Q (xo_aload 3 53 lo st h) := run_s rfl
theorem rq_X9_ofStroke_53 {lo : Lo} {st : List Value} {h : Hp} {Q : Option Value → Hp → Prop} : Run 70 53 lo st h Q = Cnt 70 Q (xo_getf 8 0 56 lo st h) := run_s rfl
theorem rq_X9_ofStroke_56 {lo : Lo} {st : List Value} {h : Hp} {Q : Option Value → Hp → Prop} : Run 70 56 lo st h Q = Cnt 70 Q (xo_iret lo st h) := run_s rfl
theorem rq_X9_ofStroke_57 {lo : Lo} {st : List Value} {h : Hp} {Q : Option Value → Hp → Prop} : Run 70 57 lo st h Q = Cnt 70 Q (xo_aload 3 58 lo st h) := run_s rfl
theorem rq_X9_ofStroke_58 {lo : Lo} {st : List Value} {h : Hp} {Q : Option Value → Hp → Prop} : Run 70 58 lo st h Q = Cnt 70 Q (xo_getf 8 1 61 lo st h) := run_s rfl
theorem rq_X9_ofStroke_61 {lo : Lo} {st : List Value} {h : Hp} {Q : Option Value → Hp → Prop} : Run 70 61 lo st h Q = Cnt 70 Q (xo_iret lo st h) := run_s rfl
theorem rq_X9_ofStroke_62 {lo : Lo} {st : List Value} {h : Hp} {Q : Option Value → Hp → Prop} : Run 70 62 lo st h Q = Cnt 70 Q (xo_aload 3 63 lo st h) := run_s rfl
theorem rq_X9_ofStroke_63 {lo : Lo} {st : List Value} {h : Hp} {Q : Option Value → Hp → Prop} : Run 70 63 lo st h Q = Cnt 70 Q (xo_getf 8 2 66 lo st h) := run_s rfl
theorem rq_X9_ofStroke_66 {lo : Lo} {st : List Value} {h : Hp} {Q : Option Value → Hp → Prop} : Run 70 66 lo st h Q = Cnt 70 Q (xo_iret lo st h) := run_s rfl
theorem rq_X9_ofStroke_67 {lo : Lo} {st : List Value} {h : Hp} {Q : Option Value → Hp → Prop} : Run 70 67 lo st h Q = Cnt 70 Q (xo_aload 3 68 lo st h) := run_s rfl
theorem rq_X9_ofStroke_68 {lo : Lo} {st : List Value} {h : Hp} {Q : Option Value → Hp → Prop} : Run 70 68 lo st h Q = Cnt 70 Q (xo_aload 0 69 lo st h) := run_s rfl
theorem rq_X9_ofStroke_69 {lo : Lo} {st : List Value} {h : Hp} {Q : Option Value → Hp → Prop} : Run 70 69 lo st h Q = Cnt 70 Q (xo_getf 9 2 72 lo st h) := run_s rfl
theorem rq_X9_ofStroke_72 {lo : Lo} {st : List Value} {h : Hp} {Q : Option Value → Hp → Prop} : Run 70 72 lo st h Q = CCall 56 2 (some 8) st h (Knt 70 75 lo (st.drop 2) Q) := run_c rfl
theorem rq_X9_ofStroke_75 {lo : Lo} {st : List Value} {h : Hp} {Q : Option Value → Hp → Prop} : Run 70 75 lo st h Q = CCall 14 1 none st h (Knt 70 78 lo (st.drop 1) Q) := run_c rfl
theorem rq_X9_ofStroke_78 {lo : Lo} {st : List Value} {h : Hp} {Q : Option Value → Hp → Prop} : Run 70 78 lo st h Q = Cnt 70 Q (xo_iret lo st h) := run_s rfl
theorem rq_X9_ofStroke_79 {lo : Lo} {st : List Value} {h : Hp} {Q : Option Value → Hp → Prop} : Run 70 79 lo st h Q = Cnt 70 Q (xo_aload 3 80 lo st h) := run_s rfl
theorem rq_X9_ofStroke_80 {lo : Lo} {st : List Value} {h : Hp} {Q : Option Value → Hp → Prop} : Run 70 80 lo st h Q = Cnt 70 Q (xo_aload 3 81 lo st h) := run_s rfl
theorem rq_X9_ofStroke_81 {lo : Lo} {st : List Value} {h : Hp} {Q : Option Value → Hp → Prop} : Run 70 81 lo st h Q = Cnt 70 Q (xo_getf 8 1 84 lo st h) := run_s rfl
theorem rq_X9_ofStroke_84 {lo : Lo} {st : List Value} {h : Hp} {Q : Option Value → Hp → Prop} : Run 70 84 lo st h Q = Cnt 70 Q (xo_aload 3 85 lo st h) := run_s rfl
theorem rq_X9_ofStroke_85 {lo : Lo} {st : List Value} {h : Hp} {Q : Option Value → Hp → Prop} : Run 70 85 lo st h Q = Cnt 70 Q (xo_getf 8 2 88 lo st h) := run_s rfl
theorem rq_X9_ofStroke_88 {lo : Lo} {st : List Value} {h : Hp} {Q : Option Value → Hp → Prop} : Run 70 88 lo st h Q = Cnt 70 Q (xo_aload 0 89 lo st h) := run_s rfl
theorem rq_X9_ofStroke_89 {lo : Lo} {st : List Value} {h : Hp} {Q : Option Value → Hp → Prop} : Run 70 89 lo st h Q = Cnt 70 Q (xo_getf 9 2 92 lo st h) := run_s rfl
theorem rq_X9_ofStroke_92 {lo : Lo} {st : List Value} {h : Hp} {Q : Option Value → Hp → Prop} : Run 70 92 lo st h Q = CCall 55 4 (some 8) st h (Knt 70 95 lo (st.drop 4) Q) := run_c rfl
theorem rq_X9_ofStroke_95 {lo : Lo} {st : List Value} {h : Hp} {Q : Option Value → Hp → Prop} : Run 70 95 lo st h Q = Cnt 70 Q (xo_iret lo st h) := run_s rfl
theorem rq_X9_ofStroke_96 {lo : Lo} {st : List Value} {h : Hp} {Q : Option Value → Hp → Prop} : Run 70 96 lo st h Q = Cnt 70 Q (xo_const (.int (-2)) 98 lo st h) := run_s rfl
theorem rq_X9_ofStroke_98 {lo : Lo} {st : List Value} {h : Hp} {Q : Option Value → Hp → Prop} : Run 70 98 lo st h Q = Cnt 70 Q (xo_iret lo st h) := run_s rfl
theorem rq_X9_place_0 {lo : Lo} {st : List Value} {h : Hp} {Q : Option Value → Hp → Prop} : Run 71 0 lo st h Q = Cnt 71 Q (xo_aload 0 1 lo st h) := run_s rfl
theorem rq_X9_place_1 {lo : Lo} {st : List Value} {h : Hp} {Q : Option Value → Hp → Prop} : Run 71 1 lo st h Q = Cnt 71 Q (xo_getf 9 4 4 lo st h) := run_s rfl
theorem rq_X9_place_4 {lo : Lo} {st : List Value} {h : Hp} {Q : Option Value → Hp → Prop} : Run 71 4 lo st h Q = Cnt 71 Q (xo_iload 1 5 lo st h) := run_s rfl
theorem rq_X9_place_5 {lo : Lo} {st : List Value} {h : Hp} {Q : Option Value → Hp → Prop} : Run 71 5 lo st h Q = CCall 29 2 (some 6) st h (Knt 71 8 lo (st.drop 2) Q) := run_c rfl
theorem rq_X9_place_8 {lo : Lo} {st : List Value} {h : Hp} {Q : Option Value → Hp → Prop} : Run 71 8 lo st h Q = Cnt 71 Q (xo_astore 4 10 lo st h) := run_s rfl
theorem rq_X9_place_10 {lo : Lo} {st : List Value} {h : Hp} {Q : Option Value → Hp → Prop} : Run 71 10 lo st h Q = Cnt 71 Q (xo_aload 4 12 lo st h) := run_s rfl
theorem rq_X9_place_12 {lo : Lo} {st : List Value} {h : Hp} {Q : Option Value → Hp → Prop} : Run 71 12 lo st h Q = Cnt 71 Q (xo_null 30 15 lo st h) := run_s rfl
theorem rq_X9_place_15 {lo : Lo} {st : List Value} {h : Hp} {Q : Option Value → Hp → Prop} : Run 71 15 lo st h Q = Cnt 71 Q (xo_iload 2 16 lo st h) := run_s rfl
theorem rq_X9_place_16 {lo : Lo} {st : List Value} {h : Hp} {Q : Option Value → Hp → Prop} : Run 71 16 lo st h Q = Cnt 71 Q (xo_const (.int 0) 17 lo st h) := run_s rfl
theorem rq_X9_place_17 {lo : Lo} {st : List Value} {h : Hp} {Q : Option Value → Hp → Prop} : Run 71 17 lo st h Q = Cnt 71 Q (xo_aload 4 19 lo st h) := run_s rfl
theorem rq_X9_place_19 {lo : Lo} {st : List Value} {h : Hp} {Q : Option Value → Hp → Prop} : Run 71 19 lo st h Q = Cnt 71 Q (xo_getf 8 0 22 lo st h) := run_s rfl
theorem rq_X9_place_22 {lo : Lo} {st : List Value} {h : Hp} {Q : Option Value → Hp → Prop} : Run 71 22 lo st h Q = Cnt 71 Q (xo_const (.int 1) 23 lo st h) := run_s rfl
theorem rq_X9_place_23 {lo : Lo} {st : List Value} {h : Hp} {Q : Option Value → Hp → Prop} : Run 71 23 lo st h Q = Cnt 71 Q (xo_bin (fun x y => x - y) 24 lo st h) := run_s rfl
theorem rq_X9_place_24 {lo : Lo} {st : List Value} {h : Hp} {Q : Option Value → Hp → Prop} : Run 71 24 lo st h Q = CCall 98 3 none st h (Knt 71 27 lo (st.drop 3) Q) := run_c rfl
theorem rq_X9_place_27 {lo : Lo} {st : List Value} {h : Hp} {Q : Option Value → Hp → Prop} : Run 71 27 lo st h Q = Cnt 71 Q (xo_if1 (fun x => decide (¬ x = 0)) 32 30 lo st h) := run_s rfl
theorem rq_X9_place_30 {lo : Lo} {st : List Value} {h : Hp} {Q : Option Value → Hp → Prop} : Run 71 30 lo st h Q = Cnt 71 Q (xo_const (.int (-1)) 31 lo st h) := run_s rfl
theorem rq_X9_place_31 {lo : Lo} {st : List Value} {h : Hp} {Q : Option Value → Hp → Prop} : Run 71 31 lo st h Q = Cnt 71 Q (xo_iret lo st h) := run_s rfl
theorem rq_X9_place_32 {lo : Lo} {st : List Value} {h : Hp} {Q : Option Value → Hp → Prop} : Run 71 32 lo st h Q = Cnt 71 Q (xo_iload 3 33 lo st h) := run_s rfl
theorem rq_X9_place_33 {lo : Lo} {st : List Value} {h : Hp} {Q : Option Value → Hp → Prop} : Run 71 33 lo st h Q = Cnt 71 Q (xo_sw (xlook 33 43 #[(0, 27), (1, 35)]) lo st h) := run_s rfl
theorem rq_X9_place_60 {lo : Lo} {st : List Value} {h : Hp} {Q : Option Value → Hp → Prop} : Run 71 60 lo st h Q = Cnt 71 Q (xo_aload 4 62 lo st h) := run_s rfl
theorem rq_X9_place_62 {lo : Lo} {st : List Value} {h : Hp} {Q : Option Value → Hp → Prop} : Run 71 62 lo st h Q = Cnt 71 Q (xo_getf 8 3 65 lo st h) := run_s rfl
theorem rq_X9_place_65 {lo : Lo} {st : List Value} {h : Hp} {Q : Option Value → Hp → Prop} : Run 71 65 lo st h Q = Cnt 71 Q (xo_iload 2 66 lo st h) := run_s rfl
theorem rq_X9_place_66 {lo : Lo} {st : List Value} {h : Hp} {Q : Option Value → Hp → Prop} : Run 71 66 lo st h Q = Cnt 71 Q (xo_iald 67 lo st h) := run_s rfl
theorem rq_X9_place_67 {lo : Lo} {st : List Value} {h : Hp} {Q : Option Value → Hp → Prop} : Run 71 67 lo st h Q = Cnt 71 Q (xo_iret lo st h) := run_s rfl
theorem rq_X9_place_68 {lo : Lo} {st : List Value} {h : Hp} {Q : Option Value → Hp → Prop} : Run 71 68 lo st h Q = Cnt 71 Q (xo_aload 4 70 lo st h) := run_s rfl
theorem rq_X9_place_70 {lo : Lo} {st : List Value} {h : Hp} {Q : Option Value → Hp → Prop} : Run 71 70 lo st h Q = Cnt 71 Q (xo_getf 8 4 73 lo st h) := run_s rfl
theorem rq_X9_place_73 {lo : Lo} {st : List Value} {h : Hp} {Q : Option Value → Hp → Prop} : Run 71 73 lo st h Q = Cnt 71 Q (xo_iload 2 74 lo st h) := run_s rfl
theorem rq_X9_place_74 {lo : Lo} {st : List Value} {h : Hp} {Q : Option Value → Hp → Prop} : Run 71 74 lo st h Q = Cnt 71 Q (xo_iald 75 lo st h) := run_s rfl
theorem rq_X9_place_75 {lo : Lo} {st : List Value} {h : Hp} {Q : Option Value → Hp → Prop} : Run 71 75 lo st h Q = Cnt 71 Q (xo_iret lo st h) := run_s rfl
theorem rq_X9_place_76 {lo : Lo} {st : List Value} {h : Hp} {Q : Option Value → Hp → Prop} : Run 71 76 lo st h Q = Cnt 71 Q (xo_const (.int (-2)) 78 lo st h) := run_s rfl
theorem rq_X9_place_78 {lo : Lo} {st : List Value} {h : Hp} {Q : Option Value → Hp → Prop} : Run 71 78 lo st h Q = Cnt 71 Q (xo_iret lo st h) := run_s rfl
theorem rq_X9_ink_0 {lo : Lo} {st : List Value} {h : Hp} {Q : Option Value → Hp → Prop} : Run 72 0 lo st h Q = Cnt 72 Q (xo_aload 0 1 lo st h) := run_s rfl
theorem rq_X9_ink_1 {lo : Lo} {st : List Value} {h : Hp} {Q : Option Value → Hp → Prop} : Run 72 1 lo st h Q = Cnt 72 Q (xo_iload 1 2 lo st h) := run_s rfl
theorem rq_X9_ink_2 {lo : Lo} {st : List Value} {h : Hp} {Q : Option Value → Hp → Prop} : Run 72 2 lo st h Q = CCall 100 2 (some 9) st h (Knt 72 5 lo (st.drop 2) Q) := run_c rfl
theorem rq_X9_ink_5 {lo : Lo} {st : List Value} {h : Hp} {Q : Option Value → Hp → Prop} : Run 72 5 lo st h Q = Cnt 72 Q (xo_astore 3 6 lo st h) := run_s rfl
theorem rq_X9_ink_6 {lo : Lo} {st : List Value} {h : Hp} {Q : Option Value → Hp → Prop} : Run 72 6 lo st h Q = Cnt 72 Q (xo_aload 3 7 lo st h) := run_s rfl
theorem rq_X9_ink_7 {lo : Lo} {st : List Value} {h : Hp} {Q : Option Value → Hp → Prop} : Run 72 7 lo st h Q = Cnt 72 Q (xo_null 10 14 lo st h) := run_s rfl
theorem rq_X9_ink_10 {lo : Lo} {st : List Value} {h : Hp} {Q : Option Value → Hp → Prop} : Run 72 10 lo st h Q = Cnt 72 Q (xo_const (.long (-1)) 13 lo st h) := run_s rfl
theorem rq_X9_ink_13 {lo : Lo} {st : List Value} {h : Hp} {Q : Option Value → Hp → Prop} : Run 72 13 lo st h Q = Cnt 72 Q (xo_lret lo st h) := run_s rfl
theorem rq_X9_ink_14 {lo : Lo} {st : List Value} {h : Hp} {Q : Option Value → Hp → Prop} : Run 72 14 lo st h Q = Cnt 72 Q (xo_iload 2 15 lo st h) := run_s rfl
theorem rq_X9_ink_15 {lo : Lo} {st : List Value} {h : Hp} {Q : Option Value → Hp → Prop} : Run 72 15 lo st h Q = Cnt 72 Q (xo_const (.int 0) 16 lo st h) := run_s rfl
theorem rq_X9_ink_16 {lo : Lo} {st : List Value} {h : Hp} {Q : Option Value → Hp → Prop} : Run 72 16 lo st h Q = Cnt 72 Q (xo_const (.int 31) 18 lo st h) := run_s rfl
theorem rq_X9_ink_18 {lo : Lo} {st : List Value} {h : Hp} {Q : Option Value → Hp → Prop} : Run 72 18 lo st h Q = CCall 98 3 none st h (Knt 72 21 lo (st.drop 3) Q) := run_c rfl
theorem rq_X9_ink_21 {lo : Lo} {st : List Value} {h : Hp} {Q : Option Value → Hp → Prop} : Run 72 21 lo st h Q = Cnt 72 Q (xo_if1 (fun x => decide (¬ x = 0)) 28 24 lo st h) := run_s rfl
theorem rq_X9_ink_24 {lo : Lo} {st : List Value} {h : Hp} {Q : Option Value → Hp → Prop} : Run 72 24 lo st h Q = Cnt 72 Q (xo_const (.long (-2)) 27 lo st h) := run_s rfl
theorem rq_X9_ink_27 {lo : Lo} {st : List Value} {h : Hp} {Q : Option Value → Hp → Prop} : Run 72 27 lo st h Q = Cnt 72 Q (xo_lret lo st h) := run_s rfl
theorem rq_X9_ink_28 {lo : Lo} {st : List Value} {h : Hp} {Q : Option Value → Hp → Prop} : Run 72 28 lo st h Q = Cnt 72 Q (xo_aload 3 29 lo st h) := run_s rfl
theorem rq_X9_ink_29 {lo : Lo} {st : List Value} {h : Hp} {Q : Option Value → Hp → Prop} : Run 72 29 lo st h Q = Cnt 72 Q (xo_iload 2 30 lo st h) := run_s rfl
theorem rq_X9_ink_30 {lo : Lo} {st : List Value} {h : Hp} {Q : Option Value → Hp → Prop} : Run 72 30 lo st h Q = Cnt 72 Q (xo_iald 31 lo st h) := run_s rfl
theorem rq_X9_ink_31 {lo : Lo} {st : List Value} {h : Hp} {Q : Option Value → Hp → Prop} : Run 72 31 lo st h Q = CCall 99 1 none st h (Knt 72 34 lo (st.drop 1) Q) := run_c rfl
theorem rq_X9_ink_34 {lo : Lo} {st : List Value} {h : Hp} {Q : Option Value → Hp → Prop} : Run 72 34 lo st h Q = Cnt 72 Q (xo_lret lo st h) := run_s rfl
theorem rq_X9_area_0 {lo : Lo} {st : List Value} {h : Hp} {Q : Option Value → Hp → Prop} : Run 73 0 lo st h Q = Cnt 73 Q (xo_aload 0 1 lo st h) := run_s rfl
theorem rq_X9_area_1 {lo : Lo} {st : List Value} {h : Hp} {Q : Option Value → Hp → Prop} : Run 73 1 lo st h Q = Cnt 73 Q (xo_iload 1 2 lo st h) := run_s rfl
theorem rq_X9_area_2 {lo : Lo} {st : List Value} {h : Hp} {Q : Option Value → Hp → Prop} : Run 73 2 lo st h Q = CCall 100 2 (some 9) st h (Knt 73 5 lo (st.drop 2) Q) := run_c rfl
theorem rq_X9_area_5 {lo : Lo} {st : List Value} {h : Hp} {Q : Option Value → Hp → Prop} : Run 73 5 lo st h Q = Cnt 73 Q (xo_astore 2 6 lo st h) := run_s rfl
theorem rq_X9_area_6 {lo : Lo} {st : List Value} {h : Hp} {Q : Option Value → Hp → Prop} : Run 73 6 lo st h Q = Cnt 73 Q (xo_aload 2 7 lo st h) := run_s rfl
theorem rq_X9_area_7 {lo : Lo} {st : List Value} {h : Hp} {Q : Option Value → Hp → Prop} : Run 73 7 lo st h Q = Cnt 73 Q (xo_null 10 14 lo st h) := run_s rfl
theorem rq_X9_area_10 {lo : Lo} {st : List Value} {h : Hp} {Q : Option Value → Hp → Prop} : Run 73 10 lo st h Q = Cnt 73 Q (xo_const (.int (-1)) 11 lo st h) := run_s rfl
theorem rq_X9_area_11 {lo : Lo} {st : List Value} {h : Hp} {Q : Option Value → Hp → Prop} : Run 73 11 lo st h Q = Cnt 73 Q (xo_goto 18 lo st h) := run_s rfl
theorem rq_X9_area_14 {lo : Lo} {st : List Value} {h : Hp} {Q : Option Value → Hp → Prop} : Run 73 14 lo st h Q = Cnt 73 Q (xo_aload 2 15 lo st h) := run_s rfl
theorem rq_X9_area_15 {lo : Lo} {st : List Value} {h : Hp} {Q : Option Value → Hp → Prop} : Run 73 15 lo st h Q = CCall 105 1 none st h (Knt 73 18 lo (st.drop 1) Q) := run_c rfl
theorem rq_X9_area_18 {lo : Lo} {st : List Value} {h : Hp} {Q : Option Value → Hp → Prop} : Run 73 18 lo st h Q = Cnt 73 Q (xo_iret lo st h) := run_s rfl
theorem rq_X9_limit_0 {lo : Lo} {st : List Value} {h : Hp} {Q : Option Value → Hp → Prop} : Run 74 0 lo st h Q = Cnt 74 Q (xo_iload 1 1 lo st h) := run_s rfl
theorem rq_X9_limit_1 {lo : Lo} {st : List Value} {h : Hp} {Q : Option Value → Hp → Prop} : Run 74 1 lo st h Q = Cnt 74 Q (xo_const (.int 1) 2 lo st h) := run_s rfl
theorem rq_X9_limit_2 {lo : Lo} {st : List Value} {h : Hp} {Q : Option Value → Hp → Prop} : Run 74 2 lo st h Q = Cnt 74 Q (xo_const (.int 20) 4 lo st h) := run_s rfl
theorem rq_X9_limit_4 {lo : Lo} {st : List Value} {h : Hp} {Q : Option Value → Hp → Prop} : Run 74 4 lo st h Q = CCall 98 3 none st h (Knt 74 7 lo (st.drop 3) Q) := run_c rfl
theorem rq_X9_limit_7 {lo : Lo} {st : List Value} {h : Hp} {Q : Option Value → Hp → Prop} : Run 74 7 lo st h Q = Cnt 74 Q (xo_if1 (fun x => decide (¬ x = 0)) 13 10 lo st h) := run_s rfl
theorem rq_X9_limit_10 {lo : Lo} {st : List Value} {h : Hp} {Q : Option Value → Hp → Prop} : Run 74 10 lo st h Q = Cnt 74 Q (xo_const (.int (-2)) 12 lo st h) := run_s rfl
theorem rq_X9_limit_12 {lo : Lo} {st : List Value} {h : Hp} {Q : Option Value → Hp → Prop} : Run 74 12 lo st h Q = Cnt 74 Q (xo_iret lo st h) := run_s rfl
theorem rq_X9_limit_13 {lo : Lo} {st : List Value} {h : Hp} {Q : Option Value → Hp → Prop} : Run 74 13 lo st h Q = Cnt 74 Q (xo_aload 0 14 lo st h) := run_s rfl
theorem rq_X9_limit_14 {lo : Lo} {st : List Value} {h : Hp} {Q : Option Value → Hp → Prop} : Run 74 14 lo st h Q = Cnt 74 Q (xo_getf 9 2 17 lo st h) := run_s rfl
theorem rq_X9_limit_17 {lo : Lo} {st : List Value} {h : Hp} {Q : Option Value → Hp → Prop} : Run 74 17 lo st h Q = Cnt 74 Q (xo_istore 2 18 lo st h) := run_s rfl
theorem rq_X9_limit_18 {lo : Lo} {st : List Value} {h : Hp} {Q : Option Value → Hp → Prop} : Run 74 18 lo st h Q = Cnt 74 Q (xo_aload 0 19 lo st h) := run_s rfl
theorem rq_X9_limit_19 {lo : Lo} {st : List Value} {h : Hp} {Q : Option Value → Hp → Prop} : Run 74 19 lo st h Q = Cnt 74 Q (xo_iload 1 20 lo st h) := run_s rfl
theorem rq_X9_limit_20 {lo : Lo} {st : List Value} {h : Hp} {Q : Option Value → Hp → Prop} : Run 74 20 lo st h Q = Cnt 74 Q (xo_putf 9 2 true 23 lo st h) := run_s rfl
theorem rq_X9_limit_23 {lo : Lo} {st : List Value} {h : Hp} {Q : Option Value → Hp → Prop} : Run 74 23 lo st h Q = Cnt 74 Q (xo_iload 2 24 lo st h) := run_s rfl
theorem rq_X9_limit_24 {lo : Lo} {st : List Value} {h : Hp} {Q : Option Value → Hp → Prop} : Run 74 24 lo st h Q = Cnt 74 Q (xo_iret lo st h) := run_s rfl
theorem rq_X9_thick_0 {lo : Lo} {st : List Value} {h : Hp} {Q : Option Value → Hp → Prop} : Run 75 0 lo st h Q = Cnt 75 Q (xo_aload 0 1 lo st h) := run_s rfl
theorem rq_X9_thick_1 {lo : Lo} {st : List Value} {h : Hp} {Q : Option Value → Hp → Prop} : Run 75 1 lo st h Q = Cnt 75 Q (xo_getf 9 4 4 lo st h) := run_s rfl
theorem rq_X9_thick_4 {lo : Lo} {st : List Value} {h : Hp} {Q : Option Value → Hp → Prop} : Run 75 4 lo st h Q = Cnt 75 Q (xo_iload 1 5 lo st h) := run_s rfl
theorem rq_X9_thick_5 {lo : Lo} {st : List Value} {h : Hp} {Q : Option Value → Hp → Prop} : Run 75 5 lo st h Q = CCall 29 2 (some 6) st h (Knt 75 8 lo (st.drop 2) Q) := run_c rfl
theorem rq_X9_thick_8 {lo : Lo} {st : List Value} {h : Hp} {Q : Option Value → Hp → Prop} : Run 75 8 lo st h Q = Cnt 75 Q (xo_astore 4 10 lo st h) := run_s rfl
theorem rq_X9_thick_10 {lo : Lo} {st : List Value} {h : Hp} {Q : Option Value → Hp → Prop} : Run 75 10 lo st h Q = Cnt 75 Q (xo_aload 4 12 lo st h) := run_s rfl
theorem rq_X9_thick_12 {lo : Lo} {st : List Value} {h : Hp} {Q : Option Value → Hp → Prop} : Run 75 12 lo st h Q = Cnt 75 Q (xo_null 24 15 lo st h) := run_s rfl
theorem rq_X9_thick_15 {lo : Lo} {st : List Value} {h : Hp} {Q : Option Value → Hp → Prop} : Run 75 15 lo st h Q = Cnt 75 Q (xo_aload 4 17 lo st h) := run_s rfl
theorem rq_X9_thick_17 {lo : Lo} {st : List Value} {h : Hp} {Q : Option Value → Hp → Prop} : Run 75 17 lo st h Q = Cnt 75 Q (xo_iload 2 18 lo st h) := run_s rfl
theorem rq_X9_thick_18 {lo : Lo} {st : List Value} {h : Hp} {Q : Option Value → Hp → Prop} : Run 75 18 lo st h Q = CCall 48 2 (some 8) st h (Knt 75 21 lo (st.drop 2) Q) := run_c rfl
theorem rq_X9_thick_21 {lo : Lo} {st : List Value} {h : Hp} {Q : Option Value → Hp → Prop} : Run 75 21 lo st h Q = Cnt 75 Q (xo_if1 (fun x => decide (¬ x = 0)) 26 24 lo st h) := run_s rfl
theorem rq_X9_thick_24 {lo : Lo} {st : List Value} {h : Hp} {Q : Option Value → Hp → Prop} : Run 75 24 lo st h Q = Cnt 75 Q (xo_const (.int (-1)) 25 lo st h) := run_s rfl
theorem rq_X9_thick_25 {lo : Lo} {st : List Value} {h : Hp} {Q : Option Value → Hp → Prop} : Run 75 25 lo st h Q = Cnt 75 Q (xo_iret lo st h) := run_s rfl
theorem rq_X9_thick_26 {lo : Lo} {st : List Value} {h : Hp} {Q : Option Value → Hp → Prop} : Run 75 26 lo st h Q = Cnt 75 Q (xo_iload 3 27 lo st h) := run_s rfl
theorem rq_X9_thick_27 {lo : Lo} {st : List Value} {h : Hp} {Q : Option Value → Hp → Prop} : Run 75 27 lo st h Q = Cnt 75 Q (xo_const (.int 0) 28 lo st h) := run_s rfl
theorem rq_X9_thick_28 {lo : Lo} {st : List Value} {h : Hp} {Q : Option Value → Hp → Prop} : Run 75 28 lo st h Q = Cnt 75 Q (xo_const (.int 1) 29 lo st h) := run_s rfl
theorem rq_X9_thick_29 {lo : Lo} {st : List Value} {h : Hp} {Q : Option Value → Hp → Prop} : Run 75 29 lo st h Q = CCall 98 3 none st h (Knt 75 32 lo (st.drop 3) Q) := run_c rfl
theorem rq_X9_thick_32 {lo : Lo} {st : List Value} {h : Hp} {Q : Option Value → Hp → Prop} : Run 75 32 lo st h Q = Cnt 75 Q (xo_if1 (fun x => decide (¬ x = 0)) 38 35 lo st h) := run_s rfl
theorem rq_X9_thick_35 {lo : Lo} {st : List Value} {h : Hp} {Q : Option Value → Hp → Prop} : Run 75 35 lo st h Q = Cnt 75 Q (xo_const (.int (-2)) 37 lo st h) := run_s rfl
theorem rq_X9_thick_37 {lo : Lo} {st : List Value} {h : Hp} {Q : Option Value → Hp → Prop} : Run 75 37 lo st h Q = Cnt 75 Q (xo_iret lo st h) := run_s rfl
theorem rq_X9_thick_38 {lo : Lo} {st : List Value} {h : Hp} {Q : Option Value → Hp → Prop} : Run 75 38 lo st h Q = Cnt 75 Q (xo_aload 4 40 lo st h) := run_s rfl
theorem rq_X9_thick_40 {lo : Lo} {st : List Value} {h : Hp} {Q : Option Value → Hp → Prop} : Run 75 40 lo st h Q = Cnt 75 Q (xo_iload 2 41 lo st h) := run_s rfl
theorem rq_X9_thick_41 {lo : Lo} {st : List Value} {h : Hp} {Q : Option Value → Hp → Prop} : Run 75 41 lo st h Q = CCall 49 2 (some 8) st h (Knt 75 44 lo (st.drop 2) Q) := run_c rfl
theorem rq_X9_thick_44 {lo : Lo} {st : List Value} {h : Hp} {Q : Option Value → Hp → Prop} : Run 75 44 lo st h Q = Cnt 75 Q (xo_aload 4 46 lo st h) := run_s rfl
theorem rq_X9_thick_46 {lo : Lo} {st : List Value} {h : Hp} {Q : Option Value → Hp → Prop} : Run 75 46 lo st h Q = Cnt 75 Q (xo_iload 2 47 lo st h) := run_s rfl
theorem rq_X9_thick_47 {lo : Lo} {st : List Value} {h : Hp} {Q : Option Value → Hp → Prop} : Run 75 47 lo st h Q = CCall 50 2 (some 8) st h (Knt 75 50 lo (st.drop 2) Q) := run_c rfl
theorem rq_X9_thick_50 {lo : Lo} {st : List Value} {h : Hp} {Q : Option Value → Hp → Prop} : Run 75 50 lo st h Q = Cnt 75 Q (xo_aload 4 52 lo st h) := run_s rfl
theorem rq_X9_thick_52 {lo : Lo} {st : List Value} {h : Hp} {Q : Option Value → Hp → Prop} : Run 75 52 lo st h Q = Cnt 75 Q (xo_getf 8 1 55 lo st h) := run_s rfl
theorem rq_X9_thick_55 {lo : Lo} {st : List Value} {h : Hp} {Q : Option Value → Hp → Prop} : Run 75 55 lo st h Q = Cnt 75 Q (xo_aload 4 57 lo st h) := run_s rfl
theorem rq_X9_thick_57 {lo : Lo} {st : List Value} {h : Hp} {Q : Option Value → Hp → Prop} : Run 75 57 lo st h Q = Cnt 75 Q (xo_getf 8 2 60 lo st h) := run_s rfl
theorem rq_X9_thick_60 {lo : Lo} {st : List Value} {h : Hp} {Q : Option Value → Hp → Prop} : Run 75 60 lo st h Q = CCall 51 4 none st h (Knt 75 63 lo (st.drop 4) Q) := run_c rfl
theorem rq_X9_thick_63 {lo : Lo} {st : List Value} {h : Hp} {Q : Option Value → Hp → Prop} : Run 75 63 lo st h Q = Cnt 75 Q (xo_istore 5 65 lo st h) := run_s rfl
theorem rq_X9_thick_65 {lo : Lo} {st : List Value} {h : Hp} {Q : Option Value → Hp → Prop} : Run 75 65 lo st h Q = Cnt 75 Q (xo_aload 4 67 lo st h) := run_s rfl
theorem rq_X9_thick_67 {lo : Lo} {st : List Value} {h : Hp} {Q : Option Value → Hp → Prop} : Run 75 67 lo st h Q = Cnt 75 Q (xo_iload 2 68 lo st h) := run_s rfl
theorem rq_X9_thick_68 {lo : Lo} {st : List Value} {h : Hp} {Q : Option Value → Hp → Prop} : Run 75 68 lo st h Q = CCall 49 2 (some 8) st h (Knt 75 71 lo (st.drop 2) Q) := run_c rfl
theorem rq_X9_thick_71 {lo : Lo} {st : List Value} {h : Hp} {Q : Option Value → Hp → Prop} : Run 75 71 lo st h Q = Cnt 75 Q (xo_aload 4 73 lo st h) := run_s rfl
theorem rq_X9_thick_73 {lo : Lo} {st : List Value} {h : Hp} {Q : Option Value → Hp → Prop} : Run 75 73 lo st h Q = Cnt 75 Q (xo_iload 2 74 lo st h) := run_s rfl
theorem rq_X9_thick_74 {lo : Lo} {st : List Value} {h : Hp} {Q : Option Value → Hp → Prop} : Run 75 74 lo st h Q = CCall 50 2 (some 8) st h (Knt 75 77 lo (st.drop 2) Q) := run_c rfl
theorem rq_X9_thick_77 {lo : Lo} {st : List Value} {h : Hp} {Q : Option Value → Hp → Prop} : Run 75 77 lo st h Q = CCall 52 2 none st h (Knt 75 80 lo (st.drop 2) Q) := run_c rfl
theorem rq_X9_thick_80 {lo : Lo} {st : List Value} {h : Hp} {Q : Option Value → Hp → Prop} : Run 75 80 lo st h Q = Cnt 75 Q (xo_istore 6 82 lo st h) := run_s rfl
theorem rq_X9_thick_82 {lo : Lo} {st : List Value} {h : Hp} {Q : Option Value → Hp → Prop} : Run 75 82 lo st h Q = Cnt 75 Q (xo_iload 5 84 lo st h) := run_s rfl
theorem rq_X9_thick_84 {lo : Lo} {st : List Value} {h : Hp} {Q : Option Value → Hp → Prop} : Run 75 84 lo st h Q = Cnt 75 Q (xo_iload 6 86 lo st h) := run_s rfl
theorem rq_X9_thick_86 {lo : Lo} {st : List Value} {h : Hp} {Q : Option Value → Hp → Prop} : Run 75 86 lo st h Q = CCall 109 2 none st h (Knt 75 89 lo (st.drop 2) Q) := run_c rfl
theorem rq_X9_thick_89 {lo : Lo} {st : List Value} {h : Hp} {Q : Option Value → Hp → Prop} : Run 75 89 lo st h Q = Cnt 75 Q (xo_istore 7 91 lo st h) := run_s rfl
theorem rq_X9_thick_91 {lo : Lo} {st : List Value} {h : Hp} {Q : Option Value → Hp → Prop} : Run 75 91 lo st h Q = Cnt 75 Q (xo_iload 7 93 lo st h) := run_s rfl
theorem rq_X9_thick_93 {lo : Lo} {st : List Value} {h : Hp} {Q : Option Value → Hp → Prop} : Run 75 93 lo st h Q = Cnt 75 Q (xo_if1 (fun x => decide (¬ x = 0)) 98 96 lo st h) := run_s rfl
theorem rq_X9_thick_96 {lo : Lo} {st : List Value} {h : Hp} {Q : Option Value → Hp → Prop} : Run 75 96 lo st h Q = Cnt 75 Q (xo_const (.int 0) 97 lo st h) := run_s rfl
theorem rq_X9_thick_97 {lo : Lo} {st : List Value} {h : Hp} {Q : Option Value → Hp → Prop} : Run 75 97 lo st h Q = Cnt 75 Q (xo_iret lo st h) := run_s rfl
theorem rq_X9_thick_98 {lo : Lo} {st : List Value} {h : Hp} {Q : Option Value → Hp → Prop} : Run 75 98 lo st h Q = Cnt 75 Q (xo_iload 3 99 lo st h) := run_s rfl
theorem rq_X9_thick_99 {lo : Lo} {st : List Value} {h : Hp} {Q : Option Value → Hp → Prop} : Run 75 99 lo st h Q = Cnt 75 Q (xo_if1 (fun x => decide (¬ x = 0)) 107 102 lo st h) := run_s rfl
theorem rq_X9_thick_102 {lo : Lo} {st : List Value} {h : Hp} {Q : Option Value → Hp → Prop} : Run 75 102 lo st h Q = Cnt 75 Q (xo_iload 5 104 lo st h) := run_s rfl
theorem rq_X9_thick_104 {lo : Lo} {st : List Value} {h : Hp} {Q : Option Value → Hp → Prop} : Run 75 104 lo st h Q = Cnt 75 Q (xo_goto 109 lo st h) := run_s rfl
theorem rq_X9_thick_107 {lo : Lo} {st : List Value} {h : Hp} {Q : Option Value → Hp → Prop} : Run 75 107 lo st h Q = Cnt 75 Q (xo_iload 6 109 lo st h) := run_s rfl
theorem rq_X9_thick_109 {lo : Lo} {st : List Value} {h : Hp} {Q : Option Value → Hp → Prop} : Run 75 109 lo st h Q = Cnt 75 Q (xo_iload 7 111 lo st h) := run_s rfl
theorem rq_X9_thick_111 {lo : Lo} {st : List Value} {h : Hp} {Q : Option Value → Hp → Prop} : Run 75 111 lo st h Q = Cnt 75 Q (xo_div (fun x y => x / y) 112 lo st h) := run_s rfl
theorem rq_X9_thick_112 {lo : Lo} {st : List Value} {h : Hp} {Q : Option Value → Hp → Prop} : Run 75 112 lo st h Q = Cnt 75 Q (xo_iret lo st h) := run_s rfl
theorem rq_X9_sort_0 {lo : Lo} {st : List Value} {h : Hp} {Q : Option Value → Hp → Prop} : Run 76 0 lo st h Q = Cnt 76 Q (xo_aload 0 1 lo st h) := run_s rfl
theorem rq_X9_sort_1 {lo : Lo} {st : List Value} {h : Hp} {Q : Option Value → Hp → Prop} : Run 76 1 lo st h Q = Cnt 76 Q (xo_getf 9 4 4 lo st h) := run_s rfl
theorem rq_X9_sort_4 {lo : Lo} {st : List Value} {h : Hp} {Q : Option Value → Hp → Prop} : Run 76 4 lo st h Q = Cnt 76 Q (xo_iload 1 5 lo st h) := run_s rfl
theorem rq_X9_sort_5 {lo : Lo} {st : List Value} {h : Hp} {Q : Option Value → Hp → Prop} : Run 76 5 lo st h Q = CCall 29 2 (some 6) st h (Knt 76 8 lo (st.drop 2) Q) := run_c rfl
theorem rq_X9_sort_8 {lo : Lo} {st : List Value} {h : Hp} {Q : Option Value → Hp → Prop} : Run 76 8 lo st h Q = Cnt 76 Q (xo_astore 3 9 lo st h) := run_s rfl
theorem rq_X9_sort_9 {lo : Lo} {st : List Value} {h : Hp} {Q : Option Value → Hp → Prop} : Run 76 9 lo st h Q = Cnt 76 Q (xo_aload 3 10 lo st h) := run_s rfl
theorem rq_X9_sort_10 {lo : Lo} {st : List Value} {h : Hp} {Q : Option Value → Hp → Prop} : Run 76 10 lo st h Q = Cnt 76 Q (xo_null 21 13 lo st h) := run_s rfl
theorem rq_X9_sort_13 {lo : Lo} {st : List Value} {h : Hp} {Q : Option Value → Hp → Prop} : Run 76 13 lo st h Q = Cnt 76 Q (xo_aload 3 14 lo st h) := run_s rfl
theorem rq_X9_sort_14 {lo : Lo} {st : List Value} {h : Hp} {Q : Option Value → Hp → Prop} : Run 76 14 lo st h Q = Cnt 76 Q (xo_iload 2 15 lo st h) := run_s rfl
theorem rq_X9_sort_15 {lo : Lo} {st : List Value} {h : Hp} {Q : Option Value → Hp → Prop} : Run 76 15 lo st h Q = CCall 48 2 (some 8) st h (Knt 76 18 lo (st.drop 2) Q) := run_c rfl
theorem rq_X9_sort_18 {lo : Lo} {st : List Value} {h : Hp} {Q : Option Value → Hp → Prop} : Run 76 18 lo st h Q = Cnt 76 Q (xo_if1 (fun x => decide (¬ x = 0)) 23 21 lo st h) := run_s rfl
theorem rq_X9_sort_21 {lo : Lo} {st : List Value} {h : Hp} {Q : Option Value → Hp → Prop} : Run 76 21 lo st h Q = Cnt 76 Q (xo_const (.int (-1)) 22 lo st h) := run_s rfl
theorem rq_X9_sort_22 {lo : Lo} {st : List Value} {h : Hp} {Q : Option Value → Hp → Prop} : Run 76 22 lo st h Q = Cnt 76 Q (xo_iret lo st h) := run_s rfl
theorem rq_X9_sort_23 {lo : Lo} {st : List Value} {h : Hp} {Q : Option Value → Hp → Prop} : Run 76 23 lo st h Q = Cnt 76 Q (xo_aload 3 24 lo st h) := run_s rfl
theorem rq_X9_sort_24 {lo : Lo} {st : List Value} {h : Hp} {Q : Option Value → Hp → Prop} : Run 76 24 lo st h Q = Cnt 76 Q (xo_iload 2 25 lo st h) := run_s rfl
theorem rq_X9_sort_25 {lo : Lo} {st : List Value} {h : Hp} {Q : Option Value → Hp → Prop} : Run 76 25 lo st h Q = CCall 49 2 (some 8) st h (Knt 76 28 lo (st.drop 2) Q) := run_c rfl
theorem rq_X9_sort_28 {lo : Lo} {st : List Value} {h : Hp} {Q : Option Value → Hp → Prop} : Run 76 28 lo st h Q = Cnt 76 Q (xo_aload 3 29 lo st h) := run_s rfl
theorem rq_X9_sort_29 {lo : Lo} {st : List Value} {h : Hp} {Q : Option Value → Hp → Prop} : Run 76 29 lo st h Q = Cnt 76 Q (xo_iload 2 30 lo st h) := run_s rfl
theorem rq_X9_sort_30 {lo : Lo} {st : List Value} {h : Hp} {Q : Option Value → Hp → Prop} : Run 76 30 lo st h Q = CCall 50 2 (some 8) st h (Knt 76 33 lo (st.drop 2) Q) := run_c rfl
theorem rq_X9_sort_33 {lo : Lo} {st : List Value} {h : Hp} {Q : Option Value → Hp → Prop} : Run 76 33 lo st h Q = Cnt 76 Q (xo_aload 3 34 lo st h) := run_s rfl
theorem rq_X9_sort_34 {lo : Lo} {st : List Value} {h : Hp} {Q : Option Value → Hp → Prop} : Run 76 34 lo st h Q = Cnt 76 Q (xo_getf 8 1 37 lo st h) := run_s rfl
theorem rq_X9_sort_37 {lo : Lo} {st : List Value} {h : Hp} {Q : Option Value → Hp → Prop} : Run 76 37 lo st h Q = Cnt 76 Q (xo_aload 3 38 lo st h) := run_s rfl
theorem rq_X9_sort_38 {lo : Lo} {st : List Value} {h : Hp} {Q : Option Value → Hp → Prop} : Run 76 38 lo st h Q = Cnt 76 Q (xo_getf 8 2 41 lo st h) := run_s rfl
theorem rq_X9_sort_41 {lo : Lo} {st : List Value} {h : Hp} {Q : Option Value → Hp → Prop} : Run 76 41 lo st h Q = Cnt 76 Q (xo_aload 0 42 lo st h) := run_s rfl
theorem rq_X9_sort_42 {lo : Lo} {st : List Value} {h : Hp} {Q : Option Value → Hp → Prop} : Run 76 42 lo st h Q = Cnt 76 Q (xo_getf 9 2 45 lo st h) := run_s rfl
theorem rq_X9_sort_45 {lo : Lo} {st : List Value} {h : Hp} {Q : Option Value → Hp → Prop} : Run 76 45 lo st h Q = CCall 53 5 none st h (Knt 76 48 lo (st.drop 5) Q) := run_c rfl
theorem rq_X9_sort_48 {lo : Lo} {st : List Value} {h : Hp} {Q : Option Value → Hp → Prop} : Run 76 48 lo st h Q = Cnt 76 Q (xo_iret lo st h) := run_s rfl
theorem rq_X9_wrong_0 {lo : Lo} {st : List Value} {h : Hp} {Q : Option Value → Hp → Prop} : Run 77 0 lo st h Q = Cnt 77 Q (xo_aload 0 1 lo st h) := run_s rfl
theorem rq_X9_wrong_1 {lo : Lo} {st : List Value} {h : Hp} {Q : Option Value → Hp → Prop} : Run 77 1 lo st h Q = Cnt 77 Q (xo_getf 9 4 4 lo st h) := run_s rfl
theorem rq_X9_wrong_4 {lo : Lo} {st : List Value} {h : Hp} {Q : Option Value → Hp → Prop} : Run 77 4 lo st h Q = Cnt 77 Q (xo_aload 0 5 lo st h) := run_s rfl
theorem rq_X9_wrong_5 {lo : Lo} {st : List Value} {h : Hp} {Q : Option Value → Hp → Prop} : Run 77 5 lo st h Q = Cnt 77 Q (xo_getf 9 2 8 lo st h) := run_s rfl
theorem rq_X9_wrong_8 {lo : Lo} {st : List Value} {h : Hp} {Q : Option Value → Hp → Prop} : Run 77 8 lo st h Q = CCall 36 2 (some 6) st h (Knt 77 11 lo (st.drop 2) Q) := run_c rfl
theorem rq_X9_wrong_11 {lo : Lo} {st : List Value} {h : Hp} {Q : Option Value → Hp → Prop} : Run 77 11 lo st h Q = Cnt 77 Q (xo_iret lo st h) := run_s rfl
theorem rq_X9_join_0 {lo : Lo} {st : List Value} {h : Hp} {Q : Option Value → Hp → Prop} : Run 78 0 lo st h Q = Cnt 78 Q (xo_aload 0 1 lo st h) := run_s rfl
theorem rq_X9_join_1 {lo : Lo} {st : List Value} {h : Hp} {Q : Option Value → Hp → Prop} : Run 78 1 lo st h Q = Cnt 78 Q (xo_getf 9 4 4 lo st h) := run_s rfl
theorem rq_X9_join_4 {lo : Lo} {st : List Value} {h : Hp} {Q : Option Value → Hp → Prop} : Run 78 4 lo st h Q = Cnt 78 Q (xo_iload 1 5 lo st h) := run_s rfl
theorem rq_X9_join_5 {lo : Lo} {st : List Value} {h : Hp} {Q : Option Value → Hp → Prop} : Run 78 5 lo st h Q = CCall 29 2 (some 6) st h (Knt 78 8 lo (st.drop 2) Q) := run_c rfl
theorem rq_X9_join_8 {lo : Lo} {st : List Value} {h : Hp} {Q : Option Value → Hp → Prop} : Run 78 8 lo st h Q = Cnt 78 Q (xo_astore 3 9 lo st h) := run_s rfl
theorem rq_X9_join_9 {lo : Lo} {st : List Value} {h : Hp} {Q : Option Value → Hp → Prop} : Run 78 9 lo st h Q = Cnt 78 Q (xo_aload 0 10 lo st h) := run_s rfl
theorem rq_X9_join_10 {lo : Lo} {st : List Value} {h : Hp} {Q : Option Value → Hp → Prop} : Run 78 10 lo st h Q = Cnt 78 Q (xo_getf 9 4 13 lo st h) := run_s rfl
theorem rq_X9_join_13 {lo : Lo} {st : List Value} {h : Hp} {Q : Option Value → Hp → Prop} : Run 78 13 lo st h Q = Cnt 78 Q (xo_iload 2 14 lo st h) := run_s rfl
theorem rq_X9_join_14 {lo : Lo} {st : List Value} {h : Hp} {Q : Option Value → Hp → Prop} : Run 78 14 lo st h Q = CCall 29 2 (some 6) st h (Knt 78 17 lo (st.drop 2) Q) := run_c rfl
theorem rq_X9_join_17 {lo : Lo} {st : List Value} {h : Hp} {Q : Option Value → Hp → Prop} : Run 78 17 lo st h Q = Cnt 78 Q (xo_astore 4 19 lo st h) := run_s rfl
theorem rq_X9_join_19 {lo : Lo} {st : List Value} {h : Hp} {Q : Option Value → Hp → Prop} : Run 78 19 lo st h Q = Cnt 78 Q (xo_aload 3 20 lo st h) := run_s rfl
theorem rq_X9_join_20 {lo : Lo} {st : List Value} {h : Hp} {Q : Option Value → Hp → Prop} : Run 78 20 lo st h Q = Cnt 78 Q (xo_null 28 23 lo st h) := run_s rfl
theorem rq_X9_join_23 {lo : Lo} {st : List Value} {h : Hp} {Q : Option Value → Hp → Prop} : Run 78 23 lo st h Q = Cnt 78 Q (xo_aload 4 25 lo st h) := run_s rfl
theorem rq_X9_join_25 {lo : Lo} {st : List Value} {h : Hp} {Q : Option Value → Hp → Prop} : Run 78 25 lo st h Q = Cnt 78 Q (xo_null 28 30 lo st h) := run_s rfl
theorem rq_X9_join_28 {lo : Lo} {st : List Value} {h : Hp} {Q : Option Value → Hp → Prop} : Run 78 28 lo st h Q = Cnt 78 Q (xo_const (.int (-1)) 29 lo st h) := run_s rfl
theorem rq_X9_join_29 {lo : Lo} {st : List Value} {h : Hp} {Q : Option Value → Hp → Prop} : Run 78 29 lo st h Q = Cnt 78 Q (xo_iret lo st h) := run_s rfl
theorem rq_X9_join_30 {lo : Lo} {st : List Value} {h : Hp} {Q : Option Value → Hp → Prop} : Run 78 30 lo st h Q = Cnt 78 Q (xo_iload 1 31 lo st h) := run_s rfl
theorem rq_X9_join_31 {lo : Lo} {st : List Value} {h : Hp} {Q : Option Value → Hp → Prop} : Run 78 31 lo st h Q = Cnt 78 Q (xo_iload 2 32 lo st h) := run_s rfl
theorem rq_X9_join_32 {lo : Lo} {st : List Value} {h : Hp} {Q : Option Value → Hp → Prop} : Run 78 32 lo st h Q = Cnt 78 Q (xo_if2 (fun x y => decide (¬ x = y)) 38 35 lo st h) := run_s rfl
theorem rq_X9_join_35 {lo : Lo} {st : List Value} {h : Hp} {Q : Option Value → Hp → Prop} : Run 78 35 lo st h Q = Cnt 78 Q (xo_const (.int (-3)) 37 lo st h) := run_s rfl
theorem rq_X9_join_37 {lo : Lo} {st : List Value} {h : Hp} {Q : Option Value → Hp → Prop} : Run 78 37 lo st h Q = Cnt 78 Q (xo_iret lo st h) := run_s rfl
theorem rq_X9_join_38 {lo : Lo} {st : List Value} {h : Hp} {Q : Option Value → Hp → Prop} : Run 78 38 lo st h Q = Cnt 78 Q (xo_aload 3 39 lo st h) := run_s rfl
theorem rq_X9_join_39 {lo : Lo} {st : List Value} {h : Hp} {Q : Option Value → Hp → Prop} : Run 78 39 lo st h Q = Cnt 78 Q (xo_aload 4 41 lo st h) := run_s rfl
theorem rq_X9_join_41 {lo : Lo} {st : List Value} {h : Hp} {Q : Option Value → Hp → Prop} : Run 78 41 lo st h Q = CCall 59 2 (some 8) st h (Knt 78 44 lo (st.drop 2) Q) := run_c rfl
theorem rq_X9_join_44 {lo : Lo} {st : List Value} {h : Hp} {Q : Option Value → Hp → Prop} : Run 78 44 lo st h Q = Cnt 78 Q (xo_if1 (fun x => decide (x = 0)) 49 47 lo st h) := run_s rfl
theorem rq_X9_join_47 {lo : Lo} {st : List Value} {h : Hp} {Q : Option Value → Hp → Prop} : Run 78 47 lo st h Q = Cnt 78 Q (xo_const (.int 3) 48 lo st h) := run_s rfl
theorem rq_X9_join_48 {lo : Lo} {st : List Value} {h : Hp} {Q : Option Value → Hp → Prop} : Run 78 48 lo st h Q = Cnt 78 Q (xo_iret lo st h) := run_s rfl
theorem rq_X9_join_49 {lo : Lo} {st : List Value} {h : Hp} {Q : Option Value → Hp → Prop} : Run 78 49 lo st h Q = Cnt 78 Q (xo_aload 3 50 lo st h) := run_s rfl
theorem rq_X9_join_50 {lo : Lo} {st : List Value} {h : Hp} {Q : Option Value → Hp → Prop} : Run 78 50 lo st h Q = Cnt 78 Q (xo_aload 4 52 lo st h) := run_s rfl
theorem rq_X9_join_52 {lo : Lo} {st : List Value} {h : Hp} {Q : Option Value → Hp → Prop} : Run 78 52 lo st h Q = CCall 60 2 (some 8) st h (Knt 78 55 lo (st.drop 2) Q) := run_c rfl
theorem rq_X9_join_55 {lo : Lo} {st : List Value} {h : Hp} {Q : Option Value → Hp → Prop} : Run 78 55 lo st h Q = Cnt 78 Q (xo_if1 (fun x => decide (¬ x = 0)) 67 58 lo st h) := run_s rfl
theorem rq_X9_join_58 {lo : Lo} {st : List Value} {h : Hp} {Q : Option Value → Hp → Prop} : Run 78 58 lo st h Q = Cnt 78 Q (xo_aload 4 60 lo st h) := run_s rfl
theorem rq_X9_join_60 {lo : Lo} {st : List Value} {h : Hp} {Q : Option Value → Hp → Prop} : Run 78 60 lo st h Q = Cnt 78 Q (xo_aload 3 61 lo st h) := run_s rfl
theorem rq_X9_join_61 {lo : Lo} {st : List Value} {h : Hp} {Q : Option Value → Hp → Prop} : Run 78 61 lo st h Q = CCall 60 2 (some 8) st h (Knt 78 64 lo (st.drop 2) Q) := run_c rfl
theorem rq_X9_join_64 {lo : Lo} {st : List Value} {h : Hp} {Q : Option Value → Hp → Prop} : Run 78 64 lo st h Q = Cnt 78 Q (xo_if1 (fun x => decide (x = 0)) 69 67 lo st h) := run_s rfl
theorem rq_X9_join_67 {lo : Lo} {st : List Value} {h : Hp} {Q : Option Value → Hp → Prop} : Run 78 67 lo st h Q = Cnt 78 Q (xo_const (.int 2) 68 lo st h) := run_s rfl
theorem rq_X9_join_68 {lo : Lo} {st : List Value} {h : Hp} {Q : Option Value → Hp → Prop} : Run 78 68 lo st h Q = Cnt 78 Q (xo_iret lo st h) := run_s rfl
theorem rq_X9_join_69 {lo : Lo} {st : List Value} {h : Hp} {Q : Option Value → Hp → Prop} : Run 78 69 lo st h Q = Cnt 78 Q (xo_aload 3 70 lo st h) := run_s rfl
theorem rq_X9_join_70 {lo : Lo} {st : List Value} {h : Hp} {Q : Option Value → Hp → Prop} : Run 78 70 lo st h Q = Cnt 78 Q (xo_aload 4 72 lo st h) := run_s rfl
theorem rq_X9_join_72 {lo : Lo} {st : List Value} {h : Hp} {Q : Option Value → Hp → Prop} : Run 78 72 lo st h Q = CCall 62 2 (some 8) st h (Knt 78 75 lo (st.drop 2) Q) := run_c rfl
theorem rq_X9_join_75 {lo : Lo} {st : List Value} {h : Hp} {Q : Option Value → Hp → Prop} : Run 78 75 lo st h Q = Cnt 78 Q (xo_if1 (fun x => decide (x = 0)) 82 78 lo st h) := run_s rfl
theorem rq_X9_join_78 {lo : Lo} {st : List Value} {h : Hp} {Q : Option Value → Hp → Prop} : Run 78 78 lo st h Q = Cnt 78 Q (xo_const (.int 1) 79 lo st h) := run_s rfl
theorem rq_X9_join_79 {lo : Lo} {st : List Value} {h : Hp} {Q : Option Value → Hp → Prop} : Run 78 79 lo st h Q = Cnt 78 Q (xo_goto 83 lo st h) := run_s rfl
theorem rq_X9_join_82 {lo : Lo} {st : List Value} {h : Hp} {Q : Option Value → Hp → Prop} : Run 78 82 lo st h Q = Cnt 78 Q (xo_const (.int 0) 83 lo st h) := run_s rfl
theorem rq_X9_join_83 {lo : Lo} {st : List Value} {h : Hp} {Q : Option Value → Hp → Prop} : Run 78 83 lo st h Q = Cnt 78 Q (xo_iret lo st h) := run_s rfl
theorem rq_X9_pieces_0 {lo : Lo} {st : List Value} {h : Hp} {Q : Option Value → Hp → Prop} : Run 79 0 lo st h Q = Cnt 79 Q (xo_iload 1 1 lo st h) := run_s rfl
theorem rq_X9_pieces_1 {lo : Lo} {st : List Value} {h : Hp} {Q : Option Value → Hp → Prop} : Run 79 1 lo st h Q = Cnt 79 Q (xo_sw (xlook 1 51 #[(0, 27), (1, 39)]) lo st h) := run_s rfl
theorem rq_X9_pieces_28 {lo : Lo} {st : List Value} {h : Hp} {Q : Option Value → Hp → Prop} : Run 79 28 lo st h Q = Cnt 79 Q (xo_aload 0 29 lo st h) := run_s rfl
theorem rq_X9_pieces_29 {lo : Lo} {st : List Value} {h : Hp} {Q : Option Value → Hp → Prop} : Run 79 29 lo st h Q = Cnt 79 Q (xo_getf 9 9 32 lo st h) := run_s rfl
theorem rq_X9_pieces_32 {lo : Lo} {st : List Value} {h : Hp} {Q : Option Value → Hp → Prop} : Run 79 32 lo st h Q = Cnt 79 Q (xo_aload 0 33 lo st h) := run_s rfl
theorem rq_X9_pieces_33 {lo : Lo} {st : List Value} {h : Hp} {Q : Option Value → Hp → Prop} : Run 79 33 lo st h Q = CCall 101 1 (some 9) st h (Knt 79 36 lo (st.drop 1) Q) := run_c rfl
theorem rq_X9_pieces_36 {lo : Lo} {st : List Value} {h : Hp} {Q : Option Value → Hp → Prop} : Run 79 36 lo st h Q = CCall 4 2 (some 1) st h (Knt 79 39 lo (st.drop 2) Q) := run_c rfl
theorem rq_X9_pieces_39 {lo : Lo} {st : List Value} {h : Hp} {Q : Option Value → Hp → Prop} : Run 79 39 lo st h Q = Cnt 79 Q (xo_iret lo st h) := run_s rfl
theorem rq_X9_pieces_40 {lo : Lo} {st : List Value} {h : Hp} {Q : Option Value → Hp → Prop} : Run 79 40 lo st h Q = Cnt 79 Q (xo_aload 0 41 lo st h) := run_s rfl
theorem rq_X9_pieces_41 {lo : Lo} {st : List Value} {h : Hp} {Q : Option Value → Hp → Prop} : Run 79 41 lo st h Q = Cnt 79 Q (xo_getf 9 9 44 lo st h) := run_s rfl
theorem rq_X9_pieces_44 {lo : Lo} {st : List Value} {h : Hp} {Q : Option Value → Hp → Prop} : Run 79 44 lo st h Q = Cnt 79 Q (xo_aload 0 45 lo st h) := run_s rfl
theorem rq_X9_pieces_45 {lo : Lo} {st : List Value} {h : Hp} {Q : Option Value → Hp → Prop} : Run 79 45 lo st h Q = CCall 101 1 (some 9) st h (Knt 79 48 lo (st.drop 1) Q) := run_c rfl
theorem rq_X9_pieces_48 {lo : Lo} {st : List Value} {h : Hp} {Q : Option Value → Hp → Prop} : Run 79 48 lo st h Q = CCall 5 2 (some 1) st h (Knt 79 51 lo (st.drop 2) Q) := run_c rfl
theorem rq_X9_pieces_51 {lo : Lo} {st : List Value} {h : Hp} {Q : Option Value → Hp → Prop} : Run 79 51 lo st h Q = Cnt 79 Q (xo_iret lo st h) := run_s rfl
theorem rq_X9_pieces_52 {lo : Lo} {st : List Value} {h : Hp} {Q : Option Value → Hp → Prop} : Run 79 52 lo st h Q = Cnt 79 Q (xo_const (.int (-2)) 54 lo st h) := run_s rfl
theorem rq_X9_pieces_54 {lo : Lo} {st : List Value} {h : Hp} {Q : Option Value → Hp → Prop} : Run 79 54 lo st h Q = Cnt 79 Q (xo_iret lo st h) := run_s rfl
theorem rq_X9_keep_0 {lo : Lo} {st : List Value} {h : Hp} {Q : Option Value → Hp → Prop} : Run 80 0 lo st h Q = Cnt 80 Q (xo_iload 1 1 lo st h) := run_s rfl
theorem rq_X9_keep_1 {lo : Lo} {st : List Value} {h : Hp} {Q : Option Value → Hp → Prop} : Run 80 1 lo st h Q = Cnt 80 Q (xo_const (.int 0) 2 lo st h) := run_s rfl
theorem rq_X9_keep_2 {lo : Lo} {st : List Value} {h : Hp} {Q : Option Value → Hp → Prop} : Run 80 2 lo st h Q = Cnt 80 Q (xo_const (.int 25) 4 lo st h) := run_s rfl
theorem rq_X9_keep_4 {lo : Lo} {st : List Value} {h : Hp} {Q : Option Value → Hp → Prop} : Run 80 4 lo st h Q = CCall 98 3 none st h (Knt 80 7 lo (st.drop 3) Q) := run_c rfl
theorem rq_X9_keep_7 {lo : Lo} {st : List Value} {h : Hp} {Q : Option Value → Hp → Prop} : Run 80 7 lo st h Q = Cnt 80 Q (xo_if1 (fun x => decide (¬ x = 0)) 13 10 lo st h) := run_s rfl
theorem rq_X9_keep_10 {lo : Lo} {st : List Value} {h : Hp} {Q : Option Value → Hp → Prop} : Run 80 10 lo st h Q = Cnt 80 Q (xo_const (.int (-2)) 12 lo st h) := run_s rfl
theorem rq_X9_keep_12 {lo : Lo} {st : List Value} {h : Hp} {Q : Option Value → Hp → Prop} : Run 80 12 lo st h Q = Cnt 80 Q (xo_iret lo st h) := run_s rfl
theorem rq_X9_keep_13 {lo : Lo} {st : List Value} {h : Hp} {Q : Option Value → Hp → Prop} : Run 80 13 lo st h Q = Cnt 80 Q (xo_aload 0 14 lo st h) := run_s rfl
theorem rq_X9_keep_14 {lo : Lo} {st : List Value} {h : Hp} {Q : Option Value → Hp → Prop} : Run 80 14 lo st h Q = Cnt 80 Q (xo_getf 9 4 17 lo st h) := run_s rfl
theorem rq_X9_keep_17 {lo : Lo} {st : List Value} {h : Hp} {Q : Option Value → Hp → Prop} : Run 80 17 lo st h Q = Cnt 80 Q (xo_getf 6 1 20 lo st h) := run_s rfl
theorem rq_X9_keep_20 {lo : Lo} {st : List Value} {h : Hp} {Q : Option Value → Hp → Prop} : Run 80 20 lo st h Q = Cnt 80 Q (xo_if1 (fun x => decide (¬ x = 0)) 26 23 lo st h) := run_s rfl
theorem rq_X9_keep_23 {lo : Lo} {st : List Value} {h : Hp} {Q : Option Value → Hp → Prop} : Run 80 23 lo st h Q = Cnt 80 Q (xo_const (.int (-3)) 25 lo st h) := run_s rfl
theorem rq_X9_keep_25 {lo : Lo} {st : List Value} {h : Hp} {Q : Option Value → Hp → Prop} : Run 80 25 lo st h Q = Cnt 80 Q (xo_iret lo st h) := run_s rfl
theorem rq_X9_keep_26 {lo : Lo} {st : List Value} {h : Hp} {Q : Option Value → Hp → Prop} : Run 80 26 lo st h Q = Cnt 80 Q (xo_aload 0 27 lo st h) := run_s rfl
theorem rq_X9_keep_27 {lo : Lo} {st : List Value} {h : Hp} {Q : Option Value → Hp → Prop} : Run 80 27 lo st h Q = Cnt 80 Q (xo_getf 9 5 30 lo st h) := run_s rfl
theorem rq_X9_keep_30 {lo : Lo} {st : List Value} {h : Hp} {Q : Option Value → Hp → Prop} : Run 80 30 lo st h Q = Cnt 80 Q (xo_iload 1 31 lo st h) := run_s rfl
theorem rq_X9_keep_31 {lo : Lo} {st : List Value} {h : Hp} {Q : Option Value → Hp → Prop} : Run 80 31 lo st h Q = Cnt 80 Q (xo_aload 0 32 lo st h) := run_s rfl
theorem rq_X9_keep_32 {lo : Lo} {st : List Value} {h : Hp} {Q : Option Value → Hp → Prop} : Run 80 32 lo st h Q = Cnt 80 Q (xo_getf 9 4 35 lo st h) := run_s rfl
theorem rq_X9_keep_35 {lo : Lo} {st : List Value} {h : Hp} {Q : Option Value → Hp → Prop} : Run 80 35 lo st h Q = CCall 40 3 (some 7) st h (Knt 80 38 lo (st.drop 3) Q) := run_c rfl
theorem rq_X9_keep_38 {lo : Lo} {st : List Value} {h : Hp} {Q : Option Value → Hp → Prop} : Run 80 38 lo st h Q = Cnt 80 Q (xo_if1 (fun x => decide (¬ x = 0)) 44 41 lo st h) := run_s rfl
theorem rq_X9_keep_41 {lo : Lo} {st : List Value} {h : Hp} {Q : Option Value → Hp → Prop} : Run 80 41 lo st h Q = Cnt 80 Q (xo_const (.int (-4)) 43 lo st h) := run_s rfl
theorem rq_X9_keep_43 {lo : Lo} {st : List Value} {h : Hp} {Q : Option Value → Hp → Prop} : Run 80 43 lo st h Q = Cnt 80 Q (xo_iret lo st h) := run_s rfl
theorem rq_X9_keep_44 {lo : Lo} {st : List Value} {h : Hp} {Q : Option Value → Hp → Prop} : Run 80 44 lo st h Q = Cnt 80 Q (xo_aload 0 45 lo st h) := run_s rfl
theorem rq_X9_keep_45 {lo : Lo} {st : List Value} {h : Hp} {Q : Option Value → Hp → Prop} : Run 80 45 lo st h Q = Cnt 80 Q (xo_getf 9 4 48 lo st h) := run_s rfl
theorem rq_X9_keep_48 {lo : Lo} {st : List Value} {h : Hp} {Q : Option Value → Hp → Prop} : Run 80 48 lo st h Q = CCall 32 1 (some 6) st h (Knt 80 51 lo (st.drop 1) Q) := run_c rfl
theorem rq_X9_keep_51 {lo : Lo} {st : List Value} {h : Hp} {Q : Option Value → Hp → Prop} : Run 80 51 lo st h Q = Cnt 80 Q (xo_aload 0 52 lo st h) := run_s rfl
theorem rq_X9_keep_52 {lo : Lo} {st : List Value} {h : Hp} {Q : Option Value → Hp → Prop} : Run 80 52 lo st h Q = Cnt 80 Q (xo_getf 9 5 55 lo st h) := run_s rfl
theorem rq_X9_keep_55 {lo : Lo} {st : List Value} {h : Hp} {Q : Option Value → Hp → Prop} : Run 80 55 lo st h Q = Cnt 80 Q (xo_getf 7 1 58 lo st h) := run_s rfl
theorem rq_X9_keep_58 {lo : Lo} {st : List Value} {h : Hp} {Q : Option Value → Hp → Prop} : Run 80 58 lo st h Q = Cnt 80 Q (xo_iret lo st h) := run_s rfl
theorem rq_X9_take_0 {lo : Lo} {st : List Value} {h : Hp} {Q : Option Value → Hp → Prop} : Run 81 0 lo st h Q = Cnt 81 Q (xo_aload 0 1 lo st h) := run_s rfl
theorem rq_X9_take_1 {lo : Lo} {st : List Value} {h : Hp} {Q : Option Value → Hp → Prop} : Run 81 1 lo st h Q = Cnt 81 Q (xo_getf 9 5 4 lo st h) := run_s rfl
theorem rq_X9_take_4 {lo : Lo} {st : List Value} {h : Hp} {Q : Option Value → Hp → Prop} : Run 81 4 lo st h Q = Cnt 81 Q (xo_iload 1 5 lo st h) := run_s rfl
theorem rq_X9_take_5 {lo : Lo} {st : List Value} {h : Hp} {Q : Option Value → Hp → Prop} : Run 81 5 lo st h Q = CCall 39 2 (some 7) st h (Knt 81 8 lo (st.drop 2) Q) := run_c rfl
theorem rq_X9_take_8 {lo : Lo} {st : List Value} {h : Hp} {Q : Option Value → Hp → Prop} : Run 81 8 lo st h Q = Cnt 81 Q (xo_astore 2 9 lo st h) := run_s rfl
theorem rq_X9_take_9 {lo : Lo} {st : List Value} {h : Hp} {Q : Option Value → Hp → Prop} : Run 81 9 lo st h Q = Cnt 81 Q (xo_aload 2 10 lo st h) := run_s rfl
theorem rq_X9_take_10 {lo : Lo} {st : List Value} {h : Hp} {Q : Option Value → Hp → Prop} : Run 81 10 lo st h Q = Cnt 81 Q (xo_null 13 15 lo st h) := run_s rfl
theorem rq_X9_take_13 {lo : Lo} {st : List Value} {h : Hp} {Q : Option Value → Hp → Prop} : Run 81 13 lo st h Q = Cnt 81 Q (xo_const (.int (-1)) 14 lo st h) := run_s rfl
theorem rq_X9_take_14 {lo : Lo} {st : List Value} {h : Hp} {Q : Option Value → Hp → Prop} : Run 81 14 lo st h Q = Cnt 81 Q (xo_iret lo st h) := run_s rfl
theorem rq_X9_take_15 {lo : Lo} {st : List Value} {h : Hp} {Q : Option Value → Hp → Prop} : Run 81 15 lo st h Q = Cnt 81 Q (xo_aload 0 16 lo st h) := run_s rfl
theorem rq_X9_take_16 {lo : Lo} {st : List Value} {h : Hp} {Q : Option Value → Hp → Prop} : Run 81 16 lo st h Q = Cnt 81 Q (xo_getf 9 4 19 lo st h) := run_s rfl
theorem rq_X9_take_19 {lo : Lo} {st : List Value} {h : Hp} {Q : Option Value → Hp → Prop} : Run 81 19 lo st h Q = Cnt 81 Q (xo_aload 2 20 lo st h) := run_s rfl
theorem rq_X9_take_20 {lo : Lo} {st : List Value} {h : Hp} {Q : Option Value → Hp → Prop} : Run 81 20 lo st h Q = CCall 33 2 (some 6) st h (Knt 81 23 lo (st.drop 2) Q) := run_c rfl
theorem rq_X9_take_23 {lo : Lo} {st : List Value} {h : Hp} {Q : Option Value → Hp → Prop} : Run 81 23 lo st h Q = Cnt 81 Q (xo_aload 0 24 lo st h) := run_s rfl
theorem rq_X9_take_24 {lo : Lo} {st : List Value} {h : Hp} {Q : Option Value → Hp → Prop} : Run 81 24 lo st h Q = Cnt 81 Q (xo_getf 9 4 27 lo st h) := run_s rfl
theorem rq_X9_take_27 {lo : Lo} {st : List Value} {h : Hp} {Q : Option Value → Hp → Prop} : Run 81 27 lo st h Q = Cnt 81 Q (xo_getf 6 1 30 lo st h) := run_s rfl
theorem rq_X9_take_30 {lo : Lo} {st : List Value} {h : Hp} {Q : Option Value → Hp → Prop} : Run 81 30 lo st h Q = Cnt 81 Q (xo_iret lo st h) := run_s rfl
theorem rq_X9_forget_0 {lo : Lo} {st : List Value} {h : Hp} {Q : Option Value → Hp → Prop} : Run 82 0 lo st h Q = Cnt 82 Q (xo_aload 0 1 lo st h) := run_s rfl
theorem rq_X9_forget_1 {lo : Lo} {st : List Value} {h : Hp} {Q : Option Value → Hp → Prop} : Run 82 1 lo st h Q = Cnt 82 Q (xo_getf 9 5 4 lo st h) := run_s rfl
theorem rq_X9_forget_4 {lo : Lo} {st : List Value} {h : Hp} {Q : Option Value → Hp → Prop} : Run 82 4 lo st h Q = Cnt 82 Q (xo_iload 1 5 lo st h) := run_s rfl
theorem rq_X9_forget_5 {lo : Lo} {st : List Value} {h : Hp} {Q : Option Value → Hp → Prop} : Run 82 5 lo st h Q = CCall 39 2 (some 7) st h (Knt 82 8 lo (st.drop 2) Q) := run_c rfl
theorem rq_X9_forget_8 {lo : Lo} {st : List Value} {h : Hp} {Q : Option Value → Hp → Prop} : Run 82 8 lo st h Q = Cnt 82 Q (xo_null 11 13 lo st h) := run_s rfl
theorem rq_X9_forget_11 {lo : Lo} {st : List Value} {h : Hp} {Q : Option Value → Hp → Prop} : Run 82 11 lo st h Q = Cnt 82 Q (xo_const (.int (-1)) 12 lo st h) := run_s rfl
theorem rq_X9_forget_12 {lo : Lo} {st : List Value} {h : Hp} {Q : Option Value → Hp → Prop} : Run 82 12 lo st h Q = Cnt 82 Q (xo_iret lo st h) := run_s rfl
theorem rq_X9_forget_13 {lo : Lo} {st : List Value} {h : Hp} {Q : Option Value → Hp → Prop} : Run 82 13 lo st h Q = Cnt 82 Q (xo_aload 0 14 lo st h) := run_s rfl
theorem rq_X9_forget_14 {lo : Lo} {st : List Value} {h : Hp} {Q : Option Value → Hp → Prop} : Run 82 14 lo st h Q = Cnt 82 Q (xo_getf 9 5 17 lo st h) := run_s rfl
theorem rq_X9_forget_17 {lo : Lo} {st : List Value} {h : Hp} {Q : Option Value → Hp → Prop} : Run 82 17 lo st h Q = Cnt 82 Q (xo_iload 1 18 lo st h) := run_s rfl
theorem rq_X9_forget_18 {lo : Lo} {st : List Value} {h : Hp} {Q : Option Value → Hp → Prop} : Run 82 18 lo st h Q = CCall 41 2 (some 7) st h (Knt 82 21 lo (st.drop 2) Q) := run_c rfl
theorem rq_X9_forget_21 {lo : Lo} {st : List Value} {h : Hp} {Q : Option Value → Hp → Prop} : Run 82 21 lo st h Q = Cnt 82 Q (xo_aload 0 22 lo st h) := run_s rfl
theorem rq_X9_forget_22 {lo : Lo} {st : List Value} {h : Hp} {Q : Option Value → Hp → Prop} : Run 82 22 lo st h Q = Cnt 82 Q (xo_getf 9 5 25 lo st h) := run_s rfl
theorem rq_X9_forget_25 {lo : Lo} {st : List Value} {h : Hp} {Q : Option Value → Hp → Prop} : Run 82 25 lo st h Q = Cnt 82 Q (xo_getf 7 1 28 lo st h) := run_s rfl
theorem rq_X9_forget_28 {lo : Lo} {st : List Value} {h : Hp} {Q : Option Value → Hp → Prop} : Run 82 28 lo st h Q = Cnt 82 Q (xo_iret lo st h) := run_s rfl
theorem rq_X9_name_0 {lo : Lo} {st : List Value} {h : Hp} {Q : Option Value → Hp → Prop} : Run 83 0 lo st h Q = Cnt 83 Q (xo_iload 1 1 lo st h) := run_s rfl
theorem rq_X9_name_1 {lo : Lo} {st : List Value} {h : Hp} {Q : Option Value → Hp → Prop} : Run 83 1 lo st h Q = Cnt 83 Q (xo_const (.int 0) 2 lo st h) := run_s rfl
theorem rq_X9_name_2 {lo : Lo} {st : List Value} {h : Hp} {Q : Option Value → Hp → Prop} : Run 83 2 lo st h Q = Cnt 83 Q (xo_const (.int 9) 4 lo st h) := run_s rfl
theorem rq_X9_name_4 {lo : Lo} {st : List Value} {h : Hp} {Q : Option Value → Hp → Prop} : Run 83 4 lo st h Q = CCall 98 3 none st h (Knt 83 7 lo (st.drop 3) Q) := run_c rfl
theorem rq_X9_name_7 {lo : Lo} {st : List Value} {h : Hp} {Q : Option Value → Hp → Prop} : Run 83 7 lo st h Q = Cnt 83 Q (xo_if1 (fun x => decide (¬ x = 0)) 13 10 lo st h) := run_s rfl
theorem rq_X9_name_10 {lo : Lo} {st : List Value} {h : Hp} {Q : Option Value → Hp → Prop} : Run 83 10 lo st h Q = Cnt 83 Q (xo_const (.int (-2)) 12 lo st h) := run_s rfl
theorem rq_X9_name_12 {lo : Lo} {st : List Value} {h : Hp} {Q : Option Value → Hp → Prop} : Run 83 12 lo st h Q = Cnt 83 Q (xo_iret lo st h) := run_s rfl
theorem rq_X9_name_13 {lo : Lo} {st : List Value} {h : Hp} {Q : Option Value → Hp → Prop} : Run 83 13 lo st h Q = Cnt 83 Q (xo_aload 0 14 lo st h) := run_s rfl
theorem rq_X9_name_14 {lo : Lo} {st : List Value} {h : Hp} {Q : Option Value → Hp → Prop} : Run 83 14 lo st h Q = Cnt 83 Q (xo_getf 9 5 17 lo st h) := run_s rfl
theorem rq_X9_name_17 {lo : Lo} {st : List Value} {h : Hp} {Q : Option Value → Hp → Prop} : Run 83 17 lo st h Q = Cnt 83 Q (xo_iload 1 18 lo st h) := run_s rfl
theorem rq_X9_name_18 {lo : Lo} {st : List Value} {h : Hp} {Q : Option Value → Hp → Prop} : Run 83 18 lo st h Q = CCall 42 2 (some 7) st h (Knt 83 21 lo (st.drop 2) Q) := run_c rfl
theorem rq_X9_name_21 {lo : Lo} {st : List Value} {h : Hp} {Q : Option Value → Hp → Prop} : Run 83 21 lo st h Q = Cnt 83 Q (xo_iret lo st h) := run_s rfl
theorem rq_X9_ofLetter_0 {lo : Lo} {st : List Value} {h : Hp} {Q : Option Value → Hp → Prop} : Run 84 0 lo st h Q = Cnt 84 Q (xo_aload 0 1 lo st h) := run_s rfl
theorem rq_X9_ofLetter_1 {lo : Lo} {st : List Value} {h : Hp} {Q : Option Value → Hp → Prop} : Run 84 1 lo st h Q = Cnt 84 Q (xo_getf 9 5 4 lo st h) := run_s rfl
theorem rq_X9_ofLetter_4 {lo : Lo} {st : List Value} {h : Hp} {Q : Option Value → Hp → Prop} : Run 84 4 lo st h Q = Cnt 84 Q (xo_iload 1 5 lo st h) := run_s rfl
theorem rq_X9_ofLetter_5 {lo : Lo} {st : List Value} {h : Hp} {Q : Option Value → Hp → Prop} : Run 84 5 lo st h Q = CCall 39 2 (some 7) st h (Knt 84 8 lo (st.drop 2) Q) := run_c rfl
theorem rq_X9_ofLetter_8 {lo : Lo} {st : List Value} {h : Hp} {Q : Option Value → Hp → Prop} : Run 84 8 lo st h Q = Cnt 84 Q (xo_astore 3 9 lo st h) := run_s rfl
theorem rq_X9_ofLetter_9 {lo : Lo} {st : List Value} {h : Hp} {Q : Option Value → Hp → Prop} : Run 84 9 lo st h Q = Cnt 84 Q (xo_aload 3 10 lo st h) := run_s rfl
theorem rq_X9_ofLetter_10 {lo : Lo} {st : List Value} {h : Hp} {Q : Option Value → Hp → Prop} : Run 84 10 lo st h Q = Cnt 84 Q (xo_null 13 15 lo st h) := run_s rfl
theorem rq_X9_ofLetter_13 {lo : Lo} {st : List Value} {h : Hp} {Q : Option Value → Hp → Prop} : Run 84 13 lo st h Q = Cnt 84 Q (xo_const (.int (-1)) 14 lo st h) := run_s rfl
theorem rq_X9_ofLetter_14 {lo : Lo} {st : List Value} {h : Hp} {Q : Option Value → Hp → Prop} : Run 84 14 lo st h Q = Cnt 84 Q (xo_iret lo st h) := run_s rfl
theorem rq_X9_ofLetter_15 {lo : Lo} {st : List Value} {h : Hp} {Q : Option Value → Hp → Prop} : Run 84 15 lo st h Q = Cnt 84 Q (xo_iload 2 16 lo st h) := run_s rfl
theorem rq_X9_ofLetter_16 {lo : Lo} {st : List Value} {h : Hp} {Q : Option Value → Hp → Prop} : Run 84 16 lo st h Q = Cnt 84 Q (xo_sw (xtab 16 108 0 6 #[44, 49, 58, 71, 84, 90, 99]) lo st h) := run_s rfl
theorem rq_X9_ofLetter_60 {lo : Lo} {st : List Value} {h : Hp} {Q : Option Value → Hp → Prop} : Run 84 60 lo st h Q = Cnt 84 Q (xo_aload 3 61 lo st h) := run_s rfl
theorem rq_X9_ofLetter_61 {lo : Lo} {st : List Value} {h : Hp} {Q : Option Value → Hp → Prop} : Run 84 61 lo st h Q = Cnt 84 Q (xo_getf 6 1 64 lo st h) := run_s rfl
theorem rq_X9_ofLetter_64 {lo : Lo} {st : List Value} {h : Hp} {Q : Option Value → Hp → Prop} : Run 84 64 lo st h Q = Cnt 84 Q (xo_iret lo st h) := run_s rfl
theorem rq_X9_ofLetter_65 {lo : Lo} {st : List Value} {h : Hp} {Q : Option Value → Hp → Prop} : Run 84 65 lo st h Q = Cnt 84 Q (xo_aload 0 66 lo st h) := run_s rfl
theorem rq_X9_ofLetter_66 {lo : Lo} {st : List Value} {h : Hp} {Q : Option Value → Hp → Prop} : Run 84 66 lo st h Q = Cnt 84 Q (xo_aload 3 67 lo st h) := run_s rfl
theorem rq_X9_ofLetter_67 {lo : Lo} {st : List Value} {h : Hp} {Q : Option Value → Hp → Prop} : Run 84 67 lo st h Q = CCall 102 2 (some 9) st h (Knt 84 70 lo (st.drop 2) Q) := run_c rfl
theorem rq_X9_ofLetter_70 {lo : Lo} {st : List Value} {h : Hp} {Q : Option Value → Hp → Prop} : Run 84 70 lo st h Q = CCall 105 1 none st h (Knt 84 73 lo (st.drop 1) Q) := run_c rfl
theorem rq_X9_ofLetter_73 {lo : Lo} {st : List Value} {h : Hp} {Q : Option Value → Hp → Prop} : Run 84 73 lo st h Q = Cnt 84 Q (xo_iret lo st h) := run_s rfl
theorem rq_X9_ofLetter_74 {lo : Lo} {st : List Value} {h : Hp} {Q : Option Value → Hp → Prop} : Run 84 74 lo st h Q = Cnt 84 Q (xo_aload 0 75 lo st h) := run_s rfl
theorem rq_X9_ofLetter_75 {lo : Lo} {st : List Value} {h : Hp} {Q : Option Value → Hp → Prop} : Run 84 75 lo st h Q = Cnt 84 Q (xo_getf 9 9 78 lo st h) := run_s rfl
theorem rq_X9_ofLetter_78 {lo : Lo} {st : List Value} {h : Hp} {Q : Option Value → Hp → Prop} : Run 84 78 lo st h Q = Cnt 84 Q (xo_aload 0 79 lo st h) := run_s rfl
theorem rq_X9_ofLetter_79 {lo : Lo} {st : List Value} {h : Hp} {Q : Option Value → Hp → Prop} : Run 84 79 lo st h Q = Cnt 84 Q (xo_aload 3 80 lo st h) := run_s rfl
theorem rq_X9_ofLetter_80 {lo : Lo} {st : List Value} {h : Hp} {Q : Option Value → Hp → Prop} : Run 84 80 lo st h Q = CCall 102 2 (some 9) st h (Knt 84 83 lo (st.drop 2) Q) := run_c rfl
theorem rq_X9_ofLetter_83 {lo : Lo} {st : List Value} {h : Hp} {Q : Option Value → Hp → Prop} : Run 84 83 lo st h Q = CCall 4 2 (some 1) st h (Knt 84 86 lo (st.drop 2) Q) := run_c rfl
theorem rq_X9_ofLetter_86 {lo : Lo} {st : List Value} {h : Hp} {Q : Option Value → Hp → Prop} : Run 84 86 lo st h Q = Cnt 84 Q (xo_iret lo st h) := run_s rfl
theorem rq_X9_ofLetter_87 {lo : Lo} {st : List Value} {h : Hp} {Q : Option Value → Hp → Prop} : Run 84 87 lo st h Q = Cnt 84 Q (xo_aload 0 88 lo st h) := run_s rfl
theorem rq_X9_ofLetter_88 {lo : Lo} {st : List Value} {h : Hp} {Q : Option Value → Hp → Prop} : Run 84 88 lo st h Q = Cnt 84 Q (xo_getf 9 9 91 lo st h) := run_s rfl
theorem rq_X9_ofLetter_91 {lo : Lo} {st : List Value} {h : Hp} {Q : Option Value → Hp → Prop} : Run 84 91 lo st h Q = Cnt 84 Q (xo_aload 0 92 lo st h) := run_s rfl
theorem rq_X9_ofLetter_92 {lo : Lo} {st : List Value} {h : Hp} {Q : Option Value → Hp → Prop} : Run 84 92 lo st h Q = Cnt 84 Q (xo_aload 3 93 lo st h) := run_s rfl
theorem rq_X9_ofLetter_93 {lo : Lo} {st : List Value} {h : Hp} {Q : Option Value → Hp → Prop} : Run 84 93 lo st h Q = CCall 102 2 (some 9) st h (Knt 84 96 lo (st.drop 2) Q) := run_c rfl
theorem rq_X9_ofLetter_96 {lo : Lo} {st : List Value} {h : Hp} {Q : Option Value → Hp → Prop} : Run 84 96 lo st h Q = CCall 5 2 (some 1) st h (Knt 84 99 lo (st.drop 2) Q) := run_c rfl
theorem rq_X9_ofLetter_99 {lo : Lo} {st : List Value} {h : Hp} {Q : Option Value → Hp → Prop} : Run 84 99 lo st h Q = Cnt 84 Q (xo_iret lo st h) := run_s rfl
theorem rq_X9_ofLetter_100 {lo : Lo} {st : List Value} {h : Hp} {Q : Option Value → Hp → Prop} : Run 84 100 lo st h Q = Cnt 84 Q (xo_aload 0 101 lo st h) := run_s rfl
theorem rq_X9_ofLetter_101 {lo : Lo} {st : List Value} {h : Hp} {Q : Option Value → Hp → Prop} : Run 84 101 lo st h Q = Cnt 84 Q (xo_aload 3 102 lo st h) := run_s rfl
theorem rq_X9_ofLetter_102 {lo : Lo} {st : List Value} {h : Hp} {Q : Option Value → Hp → Prop} : Run 84 102 lo st h Q = CCall 103 2 (some 9) st h (Knt 84 105 lo (st.drop 2) Q) := run_c rfl
theorem rq_X9_ofLetter_105 {lo : Lo} {st : List Value} {h : Hp} {Q : Option Value → Hp → Prop} : Run 84 105 lo st h Q = Cnt 84 Q (xo_iret lo st h) := run_s rfl
theorem rq_X9_ofLetter_106 {lo : Lo} {st : List Value} {h : Hp} {Q : Option Value → Hp → Prop} : Run 84 106 lo st h Q = Cnt 84 Q (xo_aload 0 107 lo st h) := run_s rfl
theorem rq_X9_ofLetter_107 {lo : Lo} {st : List Value} {h : Hp} {Q : Option Value → Hp → Prop} : Run 84 107 lo st h Q = Cnt 84 Q (xo_aload 3 108 lo st h) := run_s rfl
theorem rq_X9_ofLetter_108 {lo : Lo} {st : List Value} {h : Hp} {Q : Option Value → Hp → Prop} : Run 84 108 lo st h Q = CCall 102 2 (some 9) st h (Knt 84 111 lo (st.drop 2) Q) := run_c rfl
theorem rq_X9_ofLetter_111 {lo : Lo} {st : List Value} {h : Hp} {Q : Option Value → Hp → Prop} : Run 84 111 lo st h Q = CCall 107 1 none st h (Knt 84 114 lo (st.drop 1) Q) := run_c rfl
theorem rq_X9_ofLetter_114 {lo : Lo} {st : List Value} {h : Hp} {Q : Option Value → Hp → Prop} : Run 84 114 lo st h Q = Cnt 84 Q (xo_iret lo st h) := run_s rfl
theorem rq_X9_ofLetter_115 {lo : Lo} {st : List Value} {h : Hp} {Q : Option Value → Hp → Prop} : Run 84 115 lo st h Q = Cnt 84 Q (xo_aload 0 116 lo st h) := run_s rfl
theorem rq_X9_ofLetter_116 {lo : Lo} {st : List Value} {h : Hp} {Q : Option Value → Hp → Prop} : Run 84 116 lo st h Q = Cnt 84 Q (xo_aload 3 117 lo st h) := run_s rfl
theorem rq_X9_ofLetter_117 {lo : Lo} {st : List Value} {h : Hp} {Q : Option Value → Hp → Prop} : Run 84 117 lo st h Q = CCall 102 2 (some 9) st h (Knt 84 120 lo (st.drop 2) Q) := run_c rfl
theorem rq_X9_ofLetter_120 {lo : Lo} {st : List Value} {h : Hp} {Q : Option Value → Hp → Prop} : Run 84 120 lo st h Q = CCall 108 1 none st h (Knt 84 123 lo (st.drop 1) Q) := run_c rfl
theorem rq_X9_ofLetter_123 {lo : Lo} {st : List Value} {h : Hp} {Q : Option Value → Hp → Prop} : Run 84 123 lo st h Q = Cnt 84 Q (xo_iret lo st h) := run_s rfl
theorem rq_X9_ofLetter_124 {lo : Lo} {st : List Value} {h : Hp} {Q : Option Value → Hp → Prop} : Run 84 124 lo st h Q = Cnt 84 Q (xo_const (.int (-2)) 126 lo st h) := run_s rfl
theorem rq_X9_ofLetter_126 {lo : Lo} {st : List Value} {h : Hp} {Q : Option Value → Hp → Prop} : Run 84 126 lo st h Q = Cnt 84 Q (xo_iret lo st h) := run_s rfl
theorem rq_X9_kind_0 {lo : Lo} {st : List Value} {h : Hp} {Q : Option Value → Hp → Prop} : Run 85 0 lo st h Q = Cnt 85 Q (xo_aload 0 1 lo st h) := run_s rfl
theorem rq_X9_kind_1 {lo : Lo} {st : List Value} {h : Hp} {Q : Option Value → Hp → Prop} : Run 85 1 lo st h Q = Cnt 85 Q (xo_getf 9 4 4 lo st h) := run_s rfl
theorem rq_X9_kind_4 {lo : Lo} {st : List Value} {h : Hp} {Q : Option Value → Hp → Prop} : Run 85 4 lo st h Q = Cnt 85 Q (xo_iload 1 5 lo st h) := run_s rfl
theorem rq_X9_kind_5 {lo : Lo} {st : List Value} {h : Hp} {Q : Option Value → Hp → Prop} : Run 85 5 lo st h Q = CCall 29 2 (some 6) st h (Knt 85 8 lo (st.drop 2) Q) := run_c rfl
theorem rq_X9_kind_8 {lo : Lo} {st : List Value} {h : Hp} {Q : Option Value → Hp → Prop} : Run 85 8 lo st h Q = Cnt 85 Q (xo_astore 2 9 lo st h) := run_s rfl
theorem rq_X9_kind_9 {lo : Lo} {st : List Value} {h : Hp} {Q : Option Value → Hp → Prop} : Run 85 9 lo st h Q = Cnt 85 Q (xo_aload 2 10 lo st h) := run_s rfl
theorem rq_X9_kind_10 {lo : Lo} {st : List Value} {h : Hp} {Q : Option Value → Hp → Prop} : Run 85 10 lo st h Q = Cnt 85 Q (xo_null 13 15 lo st h) := run_s rfl
theorem rq_X9_kind_13 {lo : Lo} {st : List Value} {h : Hp} {Q : Option Value → Hp → Prop} : Run 85 13 lo st h Q = Cnt 85 Q (xo_const (.int (-1)) 14 lo st h) := run_s rfl
theorem rq_X9_kind_14 {lo : Lo} {st : List Value} {h : Hp} {Q : Option Value → Hp → Prop} : Run 85 14 lo st h Q = Cnt 85 Q (xo_iret lo st h) := run_s rfl
theorem rq_X9_kind_15 {lo : Lo} {st : List Value} {h : Hp} {Q : Option Value → Hp → Prop} : Run 85 15 lo st h Q = Cnt 85 Q (xo_aload 0 16 lo st h) := run_s rfl
theorem rq_X9_kind_16 {lo : Lo} {st : List Value} {h : Hp} {Q : Option Value → Hp → Prop} : Run 85 16 lo st h Q = CCall 104 1 (some 9) st h (Knt 85 19 lo (st.drop 1) Q) := run_c rfl
theorem rq_X9_kind_19 {lo : Lo} {st : List Value} {h : Hp} {Q : Option Value → Hp → Prop} : Run 85 19 lo st h Q = Cnt 85 Q (xo_aload 0 20 lo st h) := run_s rfl
theorem rq_X9_kind_20 {lo : Lo} {st : List Value} {h : Hp} {Q : Option Value → Hp → Prop} : Run 85 20 lo st h Q = Cnt 85 Q (xo_getf 9 10 23 lo st h) := run_s rfl
theorem rq_X9_kind_23 {lo : Lo} {st : List Value} {h : Hp} {Q : Option Value → Hp → Prop} : Run 85 23 lo st h Q = Cnt 85 Q (xo_aload 2 24 lo st h) := run_s rfl
theorem rq_X9_kind_24 {lo : Lo} {st : List Value} {h : Hp} {Q : Option Value → Hp → Prop} : Run 85 24 lo st h Q = Cnt 85 Q (xo_aload 0 25 lo st h) := run_s rfl
theorem rq_X9_kind_25 {lo : Lo} {st : List Value} {h : Hp} {Q : Option Value → Hp → Prop} : Run 85 25 lo st h Q = Cnt 85 Q (xo_getf 9 2 28 lo st h) := run_s rfl
theorem rq_X9_kind_28 {lo : Lo} {st : List Value} {h : Hp} {Q : Option Value → Hp → Prop} : Run 85 28 lo st h Q = CCall 56 2 (some 8) st h (Knt 85 31 lo (st.drop 2) Q) := run_c rfl
theorem rq_X9_kind_31 {lo : Lo} {st : List Value} {h : Hp} {Q : Option Value → Hp → Prop} : Run 85 31 lo st h Q = CCall 19 2 (some 3) st h (Knt 85 34 lo (st.drop 2) Q) := run_c rfl
theorem rq_X9_kind_34 {lo : Lo} {st : List Value} {h : Hp} {Q : Option Value → Hp → Prop} : Run 85 34 lo st h Q = Cnt 85 Q (xo_iret lo st h) := run_s rfl
theorem rq_X9_apart_0 {lo : Lo} {st : List Value} {h : Hp} {Q : Option Value → Hp → Prop} : Run 86 0 lo st h Q = Cnt 86 Q (xo_aload 0 1 lo st h) := run_s rfl
theorem rq_X9_apart_1 {lo : Lo} {st : List Value} {h : Hp} {Q : Option Value → Hp → Prop} : Run 86 1 lo st h Q = Cnt 86 Q (xo_getf 9 5 4 lo st h) := run_s rfl
theorem rq_X9_apart_4 {lo : Lo} {st : List Value} {h : Hp} {Q : Option Value → Hp → Prop} : Run 86 4 lo st h Q = Cnt 86 Q (xo_iload 1 5 lo st h) := run_s rfl
theorem rq_X9_apart_5 {lo : Lo} {st : List Value} {h : Hp} {Q : Option Value → Hp → Prop} : Run 86 5 lo st h Q = CCall 39 2 (some 7) st h (Knt 86 8 lo (st.drop 2) Q) := run_c rfl
theorem rq_X9_apart_8 {lo : Lo} {st : List Value} {h : Hp} {Q : Option Value → Hp → Prop} : Run 86 8 lo st h Q = Cnt 86 Q (xo_astore 4 10 lo st h) := run_s rfl
theorem rq_X9_apart_10 {lo : Lo} {st : List Value} {h : Hp} {Q : Option Value → Hp → Prop} : Run 86 10 lo st h Q = Cnt 86 Q (xo_aload 4 12 lo st h) := run_s rfl
theorem rq_X9_apart_12 {lo : Lo} {st : List Value} {h : Hp} {Q : Option Value → Hp → Prop} : Run 86 12 lo st h Q = Cnt 86 Q (xo_null 15 17 lo st h) := run_s rfl
theorem rq_X9_apart_15 {lo : Lo} {st : List Value} {h : Hp} {Q : Option Value → Hp → Prop} : Run 86 15 lo st h Q = Cnt 86 Q (xo_const (.int (-1)) 16 lo st h) := run_s rfl
theorem rq_X9_apart_16 {lo : Lo} {st : List Value} {h : Hp} {Q : Option Value → Hp → Prop} : Run 86 16 lo st h Q = Cnt 86 Q (xo_iret lo st h) := run_s rfl
theorem rq_X9_apart_17 {lo : Lo} {st : List Value} {h : Hp} {Q : Option Value → Hp → Prop} : Run 86 17 lo st h Q = Cnt 86 Q (xo_iload 2 18 lo st h) := run_s rfl
theorem rq_X9_apart_18 {lo : Lo} {st : List Value} {h : Hp} {Q : Option Value → Hp → Prop} : Run 86 18 lo st h Q = Cnt 86 Q (xo_const (.int (-31)) 20 lo st h) := run_s rfl
theorem rq_X9_apart_20 {lo : Lo} {st : List Value} {h : Hp} {Q : Option Value → Hp → Prop} : Run 86 20 lo st h Q = Cnt 86 Q (xo_const (.int 31) 22 lo st h) := run_s rfl
theorem rq_X9_apart_22 {lo : Lo} {st : List Value} {h : Hp} {Q : Option Value → Hp → Prop} : Run 86 22 lo st h Q = CCall 98 3 none st h (Knt 86 25 lo (st.drop 3) Q) := run_c rfl
theorem rq_X9_apart_25 {lo : Lo} {st : List Value} {h : Hp} {Q : Option Value → Hp → Prop} : Run 86 25 lo st h Q = Cnt 86 Q (xo_if1 (fun x => decide (x = 0)) 39 28 lo st h) := run_s rfl
theorem rq_X9_apart_28 {lo : Lo} {st : List Value} {h : Hp} {Q : Option Value → Hp → Prop} : Run 86 28 lo st h Q = Cnt 86 Q (xo_iload 3 29 lo st h) := run_s rfl
theorem rq_X9_apart_29 {lo : Lo} {st : List Value} {h : Hp} {Q : Option Value → Hp → Prop} : Run 86 29 lo st h Q = Cnt 86 Q (xo_const (.int (-31)) 31 lo st h) := run_s rfl
theorem rq_X9_apart_31 {lo : Lo} {st : List Value} {h : Hp} {Q : Option Value → Hp → Prop} : Run 86 31 lo st h Q = Cnt 86 Q (xo_const (.int 31) 33 lo st h) := run_s rfl
theorem rq_X9_apart_33 {lo : Lo} {st : List Value} {h : Hp} {Q : Option Value → Hp → Prop} : Run 86 33 lo st h Q = CCall 98 3 none st h (Knt 86 36 lo (st.drop 3) Q) := run_c rfl
theorem rq_X9_apart_36 {lo : Lo} {st : List Value} {h : Hp} {Q : Option Value → Hp → Prop} : Run 86 36 lo st h Q = Cnt 86 Q (xo_if1 (fun x => decide (¬ x = 0)) 42 39 lo st h) := run_s rfl
theorem rq_X9_apart_39 {lo : Lo} {st : List Value} {h : Hp} {Q : Option Value → Hp → Prop} : Run 86 39 lo st h Q = Cnt 86 Q (xo_const (.int (-2)) 41 lo st h) := run_s rfl
theorem rq_X9_apart_41 {lo : Lo} {st : List Value} {h : Hp} {Q : Option Value → Hp → Prop} : Run 86 41 lo st h Q = Cnt 86 Q (xo_iret lo st h) := run_s rfl
theorem rq_X9_apart_42 {lo : Lo} {st : List Value} {h : Hp} {Q : Option Value → Hp → Prop} : Run 86 42 lo st h Q = Cnt 86 Q (xo_aload 0 43 lo st h) := run_s rfl
theorem rq_X9_apart_43 {lo : Lo} {st : List Value} {h : Hp} {Q : Option Value → Hp → Prop} : Run 86 43 lo st h Q = CCall 101 1 (some 9) st h (Knt 86 46 lo (st.drop 1) Q) := run_c rfl
theorem rq_X9_apart_46 {lo : Lo} {st : List Value} {h : Hp} {Q : Option Value → Hp → Prop} : Run 86 46 lo st h Q = Cnt 86 Q (xo_iload 2 47 lo st h) := run_s rfl
theorem rq_X9_apart_47 {lo : Lo} {st : List Value} {h : Hp} {Q : Option Value → Hp → Prop} : Run 86 47 lo st h Q = Cnt 86 Q (xo_iload 3 48 lo st h) := run_s rfl
theorem rq_X9_apart_48 {lo : Lo} {st : List Value} {h : Hp} {Q : Option Value → Hp → Prop} : Run 86 48 lo st h Q = Cnt 86 Q (xo_aload 0 49 lo st h) := run_s rfl
theorem rq_X9_apart_49 {lo : Lo} {st : List Value} {h : Hp} {Q : Option Value → Hp → Prop} : Run 86 49 lo st h Q = Cnt 86 Q (xo_aload 4 51 lo st h) := run_s rfl
theorem rq_X9_apart_51 {lo : Lo} {st : List Value} {h : Hp} {Q : Option Value → Hp → Prop} : Run 86 51 lo st h Q = CCall 102 2 (some 9) st h (Knt 86 54 lo (st.drop 2) Q) := run_c rfl
theorem rq_X9_apart_54 {lo : Lo} {st : List Value} {h : Hp} {Q : Option Value → Hp → Prop} : Run 86 54 lo st h Q = CCall 2 4 none st h (Knt 86 57 lo (st.drop 4) Q) := run_c rfl
theorem rq_X9_apart_57 {lo : Lo} {st : List Value} {h : Hp} {Q : Option Value → Hp → Prop} : Run 86 57 lo st h Q = Cnt 86 Q (xo_iret lo st h) := run_s rfl
theorem rq_X9_fit_0 {lo : Lo} {st : List Value} {h : Hp} {Q : Option Value → Hp → Prop} : Run 87 0 lo st h Q = Cnt 87 Q (xo_aload 0 1 lo st h) := run_s rfl
theorem rq_X9_fit_1 {lo : Lo} {st : List Value} {h : Hp} {Q : Option Value → Hp → Prop} : Run 87 1 lo st h Q = Cnt 87 Q (xo_getf 9 5 4 lo st h) := run_s rfl
theorem rq_X9_fit_4 {lo : Lo} {st : List Value} {h : Hp} {Q : Option Value → Hp → Prop} : Run 87 4 lo st h Q = Cnt 87 Q (xo_iload 1 5 lo st h) := run_s rfl
theorem rq_X9_fit_5 {lo : Lo} {st : List Value} {h : Hp} {Q : Option Value → Hp → Prop} : Run 87 5 lo st h Q = CCall 39 2 (some 7) st h (Knt 87 8 lo (st.drop 2) Q) := run_c rfl
theorem rq_X9_fit_8 {lo : Lo} {st : List Value} {h : Hp} {Q : Option Value → Hp → Prop} : Run 87 8 lo st h Q = Cnt 87 Q (xo_astore 3 9 lo st h) := run_s rfl
theorem rq_X9_fit_9 {lo : Lo} {st : List Value} {h : Hp} {Q : Option Value → Hp → Prop} : Run 87 9 lo st h Q = Cnt 87 Q (xo_aload 3 10 lo st h) := run_s rfl
theorem rq_X9_fit_10 {lo : Lo} {st : List Value} {h : Hp} {Q : Option Value → Hp → Prop} : Run 87 10 lo st h Q = Cnt 87 Q (xo_null 13 15 lo st h) := run_s rfl
theorem rq_X9_fit_13 {lo : Lo} {st : List Value} {h : Hp} {Q : Option Value → Hp → Prop} : Run 87 13 lo st h Q = Cnt 87 Q (xo_const (.int (-1)) 14 lo st h) := run_s rfl
theorem rq_X9_fit_14 {lo : Lo} {st : List Value} {h : Hp} {Q : Option Value → Hp → Prop} : Run 87 14 lo st h Q = Cnt 87 Q (xo_iret lo st h) := run_s rfl
theorem rq_X9_fit_15 {lo : Lo} {st : List Value} {h : Hp} {Q : Option Value → Hp → Prop} : Run 87 15 lo st h Q = Cnt 87 Q (xo_iload 2 16 lo st h) := run_s rfl
theorem rq_X9_fit_16 {lo : Lo} {st : List Value} {h : Hp} {Q : Option Value → Hp → Prop} : Run 87 16 lo st h Q = Cnt 87 Q (xo_const (.int 0) 17 lo st h) := run_s rfl
theorem rq_X9_fit_17 {lo : Lo} {st : List Value} {h : Hp} {Q : Option Value → Hp → Prop} : Run 87 17 lo st h Q = Cnt 87 Q (xo_const (.int 2) 18 lo st h) := run_s rfl
theorem rq_X9_fit_18 {lo : Lo} {st : List Value} {h : Hp} {Q : Option Value → Hp → Prop} : Run 87 18 lo st h Q = CCall 98 3 none st h (Knt 87 21 lo (st.drop 3) Q) := run_c rfl
theorem rq_X9_fit_21 {lo : Lo} {st : List Value} {h : Hp} {Q : Option Value → Hp → Prop} : Run 87 21 lo st h Q = Cnt 87 Q (xo_if1 (fun x => decide (¬ x = 0)) 27 24 lo st h) := run_s rfl
theorem rq_X9_fit_24 {lo : Lo} {st : List Value} {h : Hp} {Q : Option Value → Hp → Prop} : Run 87 24 lo st h Q = Cnt 87 Q (xo_const (.int (-2)) 26 lo st h) := run_s rfl
theorem rq_X9_fit_26 {lo : Lo} {st : List Value} {h : Hp} {Q : Option Value → Hp → Prop} : Run 87 26 lo st h Q = Cnt 87 Q (xo_iret lo st h) := run_s rfl
theorem rq_X9_fit_27 {lo : Lo} {st : List Value} {h : Hp} {Q : Option Value → Hp → Prop} : Run 87 27 lo st h Q = Cnt 87 Q (xo_aload 0 28 lo st h) := run_s rfl
theorem rq_X9_fit_28 {lo : Lo} {st : List Value} {h : Hp} {Q : Option Value → Hp → Prop} : Run 87 28 lo st h Q = Cnt 87 Q (xo_getf 9 11 31 lo st h) := run_s rfl
theorem rq_X9_fit_31 {lo : Lo} {st : List Value} {h : Hp} {Q : Option Value → Hp → Prop} : Run 87 31 lo st h Q = Cnt 87 Q (xo_aload 0 32 lo st h) := run_s rfl
theorem rq_X9_fit_32 {lo : Lo} {st : List Value} {h : Hp} {Q : Option Value → Hp → Prop} : Run 87 32 lo st h Q = CCall 101 1 (some 9) st h (Knt 87 35 lo (st.drop 1) Q) := run_c rfl
theorem rq_X9_fit_35 {lo : Lo} {st : List Value} {h : Hp} {Q : Option Value → Hp → Prop} : Run 87 35 lo st h Q = Cnt 87 Q (xo_aload 0 36 lo st h) := run_s rfl
theorem rq_X9_fit_36 {lo : Lo} {st : List Value} {h : Hp} {Q : Option Value → Hp → Prop} : Run 87 36 lo st h Q = Cnt 87 Q (xo_aload 3 37 lo st h) := run_s rfl
theorem rq_X9_fit_37 {lo : Lo} {st : List Value} {h : Hp} {Q : Option Value → Hp → Prop} : Run 87 37 lo st h Q = CCall 102 2 (some 9) st h (Knt 87 40 lo (st.drop 2) Q) := run_c rfl
theorem rq_X9_fit_40 {lo : Lo} {st : List Value} {h : Hp} {Q : Option Value → Hp → Prop} : Run 87 40 lo st h Q = CCall 1 3 (some 0) st h (Knt 87 43 lo (st.drop 3) Q) := run_c rfl
theorem rq_X9_fit_43 {lo : Lo} {st : List Value} {h : Hp} {Q : Option Value → Hp → Prop} : Run 87 43 lo st h Q = Cnt 87 Q (xo_iload 2 44 lo st h) := run_s rfl
theorem rq_X9_fit_44 {lo : Lo} {st : List Value} {h : Hp} {Q : Option Value → Hp → Prop} : Run 87 44 lo st h Q = Cnt 87 Q (xo_sw (xlook 44 44 #[(0, 28), (1, 36)]) lo st h) := run_s rfl
theorem rq_X9_fit_72 {lo : Lo} {st : List Value} {h : Hp} {Q : Option Value → Hp → Prop} : Run 87 72 lo st h Q = Cnt 87 Q (xo_aload 0 73 lo st h) := run_s rfl
theorem rq_X9_fit_73 {lo : Lo} {st : List Value} {h : Hp} {Q : Option Value → Hp → Prop} : Run 87 73 lo st h Q = Cnt 87 Q (xo_getf 9 11 76 lo st h) := run_s rfl
theorem rq_X9_fit_76 {lo : Lo} {st : List Value} {h : Hp} {Q : Option Value → Hp → Prop} : Run 87 76 lo st h Q = Cnt 87 Q (xo_getf 0 0 79 lo st h) := run_s rfl
theorem rq_X9_fit_79 {lo : Lo} {st : List Value} {h : Hp} {Q : Option Value → Hp → Prop} : Run 87 79 lo st h Q = Cnt 87 Q (xo_iret lo st h) := run_s rfl
theorem rq_X9_fit_80 {lo : Lo} {st : List Value} {h : Hp} {Q : Option Value → Hp → Prop} : Run 87 80 lo st h Q = Cnt 87 Q (xo_aload 0 81 lo st h) := run_s rfl
theorem rq_X9_fit_81 {lo : Lo} {st : List Value} {h : Hp} {Q : Option Value → Hp → Prop} : Run 87 81 lo st h Q = Cnt 87 Q (xo_getf 9 11 84 lo st h) := run_s rfl
theorem rq_X9_fit_84 {lo : Lo} {st : List Value} {h : Hp} {Q : Option Value → Hp → Prop} : Run 87 84 lo st h Q = Cnt 87 Q (xo_getf 0 1 87 lo st h) := run_s rfl
theorem rq_X9_fit_87 {lo : Lo} {st : List Value} {h : Hp} {Q : Option Value → Hp → Prop} : Run 87 87 lo st h Q = Cnt 87 Q (xo_iret lo st h) := run_s rfl
theorem rq_X9_fit_88 {lo : Lo} {st : List Value} {h : Hp} {Q : Option Value → Hp → Prop} : Run 87 88 lo st h Q = Cnt 87 Q (xo_aload 0 89 lo st h) := run_s rfl
theorem rq_X9_fit_89 {lo : Lo} {st : List Value} {h : Hp} {Q : Option Value → Hp → Prop} : Run 87 89 lo st h Q = Cnt 87 Q (xo_getf 9 11 92 lo st h) := run_s rfl
theorem rq_X9_fit_92 {lo : Lo} {st : List Value} {h : Hp} {Q : Option Value → Hp → Prop} : Run 87 92 lo st h Q = Cnt 87 Q (xo_getf 0 2 95 lo st h) := run_s rfl
theorem rq_X9_fit_95 {lo : Lo} {st : List Value} {h : Hp} {Q : Option Value → Hp → Prop} : Run 87 95 lo st h Q = Cnt 87 Q (xo_iret lo st h) := run_s rfl
theorem rq_X9_likest_0 {lo : Lo} {st : List Value} {h : Hp} {Q : Option Value → Hp → Prop} : Run 88 0 lo st h Q = Cnt 88 Q (xo_iload 1 1 lo st h) := run_s rfl
theorem rq_X9_likest_1 {lo : Lo} {st : List Value} {h : Hp} {Q : Option Value → Hp → Prop} : Run 88 1 lo st h Q = Cnt 88 Q (xo_const (.int 0) 2 lo st h) := run_s rfl
theorem rq_X9_likest_2 {lo : Lo} {st : List Value} {h : Hp} {Q : Option Value → Hp → Prop} : Run 88 2 lo st h Q = Cnt 88 Q (xo_const (.int 1) 3 lo st h) := run_s rfl
theorem rq_X9_likest_3 {lo : Lo} {st : List Value} {h : Hp} {Q : Option Value → Hp → Prop} : Run 88 3 lo st h Q = CCall 98 3 none st h (Knt 88 6 lo (st.drop 3) Q) := run_c rfl
theorem rq_X9_likest_6 {lo : Lo} {st : List Value} {h : Hp} {Q : Option Value → Hp → Prop} : Run 88 6 lo st h Q = Cnt 88 Q (xo_if1 (fun x => decide (¬ x = 0)) 12 9 lo st h) := run_s rfl
theorem rq_X9_likest_9 {lo : Lo} {st : List Value} {h : Hp} {Q : Option Value → Hp → Prop} : Run 88 9 lo st h Q = Cnt 88 Q (xo_const (.int (-2)) 11 lo st h) := run_s rfl
theorem rq_X9_likest_11 {lo : Lo} {st : List Value} {h : Hp} {Q : Option Value → Hp → Prop} : Run 88 11 lo st h Q = Cnt 88 Q (xo_iret lo st h) := run_s rfl
theorem rq_X9_likest_12 {lo : Lo} {st : List Value} {h : Hp} {Q : Option Value → Hp → Prop} : Run 88 12 lo st h Q = Cnt 88 Q (xo_const (.int (-9)) 14 lo st h) := run_s rfl
theorem rq_X9_likest_14 {lo : Lo} {st : List Value} {h : Hp} {Q : Option Value → Hp → Prop} : Run 88 14 lo st h Q = Cnt 88 Q (xo_istore 2 15 lo st h) := run_s rfl
theorem rq_X9_likest_15 {lo : Lo} {st : List Value} {h : Hp} {Q : Option Value → Hp → Prop} : Run 88 15 lo st h Q = Cnt 88 Q (xo_const (.int (-9)) 17 lo st h) := run_s rfl
theorem rq_X9_likest_17 {lo : Lo} {st : List Value} {h : Hp} {Q : Option Value → Hp → Prop} : Run 88 17 lo st h Q = Cnt 88 Q (xo_istore 3 18 lo st h) := run_s rfl
theorem rq_X9_likest_18 {lo : Lo} {st : List Value} {h : Hp} {Q : Option Value → Hp → Prop} : Run 88 18 lo st h Q = Cnt 88 Q (xo_aload 0 19 lo st h) := run_s rfl
theorem rq_X9_likest_19 {lo : Lo} {st : List Value} {h : Hp} {Q : Option Value → Hp → Prop} : Run 88 19 lo st h Q = CCall 101 1 (some 9) st h (Knt 88 22 lo (st.drop 1) Q) := run_c rfl
theorem rq_X9_likest_22 {lo : Lo} {st : List Value} {h : Hp} {Q : Option Value → Hp → Prop} : Run 88 22 lo st h Q = Cnt 88 Q (xo_astore 4 24 lo st h) := run_s rfl
theorem rq_X9_likest_24 {lo : Lo} {st : List Value} {h : Hp} {Q : Option Value → Hp → Prop} : Run 88 24 lo st h Q = Cnt 88 Q (xo_const (.int 0) 25 lo st h) := run_s rfl
theorem rq_X9_likest_25 {lo : Lo} {st : List Value} {h : Hp} {Q : Option Value → Hp → Prop} : Run 88 25 lo st h Q = Cnt 88 Q (xo_istore 5 27 lo st h) := run_s rfl
theorem rq_X9_likest_27 {lo : Lo} {st : List Value} {h : Hp} {Q : Option Value → Hp → Prop} : Run 88 27 lo st h Q = Cnt 88 Q (xo_iload 5 29 lo st h) := run_s rfl
theorem rq_X9_likest_29 {lo : Lo} {st : List Value} {h : Hp} {Q : Option Value → Hp → Prop} : Run 88 29 lo st h Q = Cnt 88 Q (xo_const (.int 26) 31 lo st h) := run_s rfl
theorem rq_X9_likest_31 {lo : Lo} {st : List Value} {h : Hp} {Q : Option Value → Hp → Prop} : Run 88 31 lo st h Q = Cnt 88 Q (xo_if2 (fun x y => decide (x ≥ y)) 99 34 lo st h) := run_s rfl
theorem rq_X9_likest_34 {lo : Lo} {st : List Value} {h : Hp} {Q : Option Value → Hp → Prop} : Run 88 34 lo st h Q = Cnt 88 Q (xo_aload 0 35 lo st h) := run_s rfl
theorem rq_X9_likest_35 {lo : Lo} {st : List Value} {h : Hp} {Q : Option Value → Hp → Prop} : Run 88 35 lo st h Q = Cnt 88 Q (xo_getf 9 5 38 lo st h) := run_s rfl
theorem rq_X9_likest_38 {lo : Lo} {st : List Value} {h : Hp} {Q : Option Value → Hp → Prop} : Run 88 38 lo st h Q = Cnt 88 Q (xo_iload 5 40 lo st h) := run_s rfl
theorem rq_X9_likest_40 {lo : Lo} {st : List Value} {h : Hp} {Q : Option Value → Hp → Prop} : Run 88 40 lo st h Q = CCall 39 2 (some 7) st h (Knt 88 43 lo (st.drop 2) Q) := run_c rfl
theorem rq_X9_likest_43 {lo : Lo} {st : List Value} {h : Hp} {Q : Option Value → Hp → Prop} : Run 88 43 lo st h Q = Cnt 88 Q (xo_astore 6 45 lo st h) := run_s rfl
theorem rq_X9_likest_45 {lo : Lo} {st : List Value} {h : Hp} {Q : Option Value → Hp → Prop} : Run 88 45 lo st h Q = Cnt 88 Q (xo_aload 6 47 lo st h) := run_s rfl
theorem rq_X9_likest_47 {lo : Lo} {st : List Value} {h : Hp} {Q : Option Value → Hp → Prop} : Run 88 47 lo st h Q = Cnt 88 Q (xo_null 93 50 lo st h) := run_s rfl
theorem rq_X9_likest_50 {lo : Lo} {st : List Value} {h : Hp} {Q : Option Value → Hp → Prop} : Run 88 50 lo st h Q = Cnt 88 Q (xo_aload 0 51 lo st h) := run_s rfl
theorem rq_X9_likest_51 {lo : Lo} {st : List Value} {h : Hp} {Q : Option Value → Hp → Prop} : Run 88 51 lo st h Q = Cnt 88 Q (xo_getf 9 11 54 lo st h) := run_s rfl
theorem rq_X9_likest_54 {lo : Lo} {st : List Value} {h : Hp} {Q : Option Value → Hp → Prop} : Run 88 54 lo st h Q = Cnt 88 Q (xo_aload 4 56 lo st h) := run_s rfl
theorem rq_X9_likest_56 {lo : Lo} {st : List Value} {h : Hp} {Q : Option Value → Hp → Prop} : Run 88 56 lo st h Q = Cnt 88 Q (xo_aload 0 57 lo st h) := run_s rfl
theorem rq_X9_likest_57 {lo : Lo} {st : List Value} {h : Hp} {Q : Option Value → Hp → Prop} : Run 88 57 lo st h Q = Cnt 88 Q (xo_aload 6 59 lo st h) := run_s rfl
theorem rq_X9_likest_59 {lo : Lo} {st : List Value} {h : Hp} {Q : Option Value → Hp → Prop} : Run 88 59 lo st h Q = CCall 102 2 (some 9) st h (Knt 88 62 lo (st.drop 2) Q) := run_c rfl
theorem rq_X9_likest_62 {lo : Lo} {st : List Value} {h : Hp} {Q : Option Value → Hp → Prop} : Run 88 62 lo st h Q = CCall 1 3 (some 0) st h (Knt 88 65 lo (st.drop 3) Q) := run_c rfl
theorem rq_X9_likest_65 {lo : Lo} {st : List Value} {h : Hp} {Q : Option Value → Hp → Prop} : Run 88 65 lo st h Q = Cnt 88 Q (xo_iload 2 66 lo st h) := run_s rfl
theorem rq_X9_likest_66 {lo : Lo} {st : List Value} {h : Hp} {Q : Option Value → Hp → Prop} : Run 88 66 lo st h Q = Cnt 88 Q (xo_const (.int (-9)) 68 lo st h) := run_s rfl
theorem rq_X9_likest_68 {lo : Lo} {st : List Value} {h : Hp} {Q : Option Value → Hp → Prop} : Run 88 68 lo st h Q = Cnt 88 Q (xo_if2 (fun x y => decide (x = y)) 82 71 lo st h) := run_s rfl
theorem rq_X9_likest_71 {lo : Lo} {st : List Value} {h : Hp} {Q : Option Value → Hp → Prop} : Run 88 71 lo st h Q = Cnt 88 Q (xo_aload 0 72 lo st h) := run_s rfl
theorem rq_X9_likest_72 {lo : Lo} {st : List Value} {h : Hp} {Q : Option Value → Hp → Prop} : Run 88 72 lo st h Q = Cnt 88 Q (xo_getf 9 11 75 lo st h) := run_s rfl
theorem rq_X9_likest_75 {lo : Lo} {st : List Value} {h : Hp} {Q : Option Value → Hp → Prop} : Run 88 75 lo st h Q = Cnt 88 Q (xo_getf 0 0 78 lo st h) := run_s rfl
theorem rq_X9_likest_78 {lo : Lo} {st : List Value} {h : Hp} {Q : Option Value → Hp → Prop} : Run 88 78 lo st h Q = Cnt 88 Q (xo_iload 3 79 lo st h) := run_s rfl
theorem rq_X9_likest_79 {lo : Lo} {st : List Value} {h : Hp} {Q : Option Value → Hp → Prop} : Run 88 79 lo st h Q = Cnt 88 Q (xo_if2 (fun x y => decide (x ≥ y)) 93 82 lo st h) := run_s rfl
theorem rq_X9_likest_82 {lo : Lo} {st : List Value} {h : Hp} {Q : Option Value → Hp → Prop} : Run 88 82 lo st h Q = Cnt 88 Q (xo_iload 5 84 lo st h) := run_s rfl
theorem rq_X9_likest_84 {lo : Lo} {st : List Value} {h : Hp} {Q : Option Value → Hp → Prop} : Run 88 84 lo st h Q = Cnt 88 Q (xo_istore 2 85 lo st h) := run_s rfl
theorem rq_X9_likest_85 {lo : Lo} {st : List Value} {h : Hp} {Q : Option Value → Hp → Prop} : Run 88 85 lo st h Q = Cnt 88 Q (xo_aload 0 86 lo st h) := run_s rfl
theorem rq_X9_likest_86 {lo : Lo} {st : List Value} {h : Hp} {Q : Option Value → Hp → Prop} : Run 88 86 lo st h Q = Cnt 88 Q (xo_getf 9 11 89 lo st h) := run_s rfl
theorem rq_X9_likest_89 {lo : Lo} {st : List Value} {h : Hp} {Q : Option Value → Hp → Prop} : Run 88 89 lo st h Q = Cnt 88 Q (xo_getf 0 0 92 lo st h) := run_s rfl
theorem rq_X9_likest_92 {lo : Lo} {st : List Value} {h : Hp} {Q : Option Value → Hp → Prop} : Run 88 92 lo st h Q = Cnt 88 Q (xo_istore 3 93 lo st h) := run_s rfl
theorem rq_X9_likest_93 {lo : Lo} {st : List Value} {h : Hp} {Q : Option Value → Hp → Prop} : Run 88 93 lo st h Q = Cnt 88 Q (xo_iinc 5 1 96 lo st h) := run_s rfl
theorem rq_X9_likest_96 {lo : Lo} {st : List Value} {h : Hp} {Q : Option Value → Hp → Prop} : Run 88 96 lo st h Q = Cnt 88 Q (xo_goto 27 lo st h) := run_s rfl
theorem rq_X9_likest_99 {lo : Lo} {st : List Value} {h : Hp} {Q : Option Value → Hp → Prop} : Run 88 99 lo st h Q = Cnt 88 Q (xo_iload 1 100 lo st h) := run_s rfl
theorem rq_X9_likest_100 {lo : Lo} {st : List Value} {h : Hp} {Q : Option Value → Hp → Prop} : Run 88 100 lo st h Q = Cnt 88 Q (xo_if1 (fun x => decide (¬ x = 0)) 107 103 lo st h) := run_s rfl
theorem rq_X9_likest_103 {lo : Lo} {st : List Value} {h : Hp} {Q : Option Value → Hp → Prop} : Run 88 103 lo st h Q = Cnt 88 Q (xo_iload 2 104 lo st h) := run_s rfl
theorem rq_X9_likest_104 {lo : Lo} {st : List Value} {h : Hp} {Q : Option Value → Hp → Prop} : Run 88 104 lo st h Q = Cnt 88 Q (xo_goto 108 lo st h) := run_s rfl
theorem rq_X9_likest_107 {lo : Lo} {st : List Value} {h : Hp} {Q : Option Value → Hp → Prop} : Run 88 107 lo st h Q = Cnt 88 Q (xo_iload 3 108 lo st h) := run_s rfl
theorem rq_X9_likest_108 {lo : Lo} {st : List Value} {h : Hp} {Q : Option Value → Hp → Prop} : Run 88 108 lo st h Q = Cnt 88 Q (xo_iret lo st h) := run_s rfl
theorem rq_X9_lesson_0 {lo : Lo} {st : List Value} {h : Hp} {Q : Option Value → Hp → Prop} : Run 89 0 lo st h Q = Cnt 89 Q (xo_iload 1 1 lo st h) := run_s rfl
theorem rq_X9_lesson_1 {lo : Lo} {st : List Value} {h : Hp} {Q : Option Value → Hp → Prop} : Run 89 1 lo st h Q = Cnt 89 Q (xo_const (.int 0) 2 lo st h) := run_s rfl
theorem rq_X9_lesson_2 {lo : Lo} {st : List Value} {h : Hp} {Q : Option Value → Hp → Prop} : Run 89 2 lo st h Q = Cnt 89 Q (xo_const (.int 9) 4 lo st h) := run_s rfl
theorem rq_X9_lesson_4 {lo : Lo} {st : List Value} {h : Hp} {Q : Option Value → Hp → Prop} : Run 89 4 lo st h Q = CCall 98 3 none st h (Knt 89 7 lo (st.drop 3) Q) := run_c rfl
theorem rq_X9_lesson_7 {lo : Lo} {st : List Value} {h : Hp} {Q : Option Value → Hp → Prop} : Run 89 7 lo st h Q = Cnt 89 Q (xo_if1 (fun x => decide (x = 0)) 19 10 lo st h) := run_s rfl
theorem rq_X9_lesson_10 {lo : Lo} {st : List Value} {h : Hp} {Q : Option Value → Hp → Prop} : Run 89 10 lo st h Q = Cnt 89 Q (xo_iload 2 11 lo st h) := run_s rfl
theorem rq_X9_lesson_11 {lo : Lo} {st : List Value} {h : Hp} {Q : Option Value → Hp → Prop} : Run 89 11 lo st h Q = Cnt 89 Q (xo_const (.int 0) 12 lo st h) := run_s rfl
theorem rq_X9_lesson_12 {lo : Lo} {st : List Value} {h : Hp} {Q : Option Value → Hp → Prop} : Run 89 12 lo st h Q = Cnt 89 Q (xo_const (.int 1) 13 lo st h) := run_s rfl
theorem rq_X9_lesson_13 {lo : Lo} {st : List Value} {h : Hp} {Q : Option Value → Hp → Prop} : Run 89 13 lo st h Q = CCall 98 3 none st h (Knt 89 16 lo (st.drop 3) Q) := run_c rfl
theorem rq_X9_lesson_16 {lo : Lo} {st : List Value} {h : Hp} {Q : Option Value → Hp → Prop} : Run 89 16 lo st h Q = Cnt 89 Q (xo_if1 (fun x => decide (¬ x = 0)) 22 19 lo st h) := run_s rfl
theorem rq_X9_lesson_19 {lo : Lo} {st : List Value} {h : Hp} {Q : Option Value → Hp → Prop} : Run 89 19 lo st h Q = Cnt 89 Q (xo_const (.int (-2)) 21 lo st h) := run_s rfl
theorem rq_X9_lesson_21 {lo : Lo} {st : List Value} {h : Hp} {Q : Option Value → Hp → Prop} : Run 89 21 lo st h Q = Cnt 89 Q (xo_iret lo st h) := run_s rfl
theorem rq_X9_lesson_22 {lo : Lo} {st : List Value} {h : Hp} {Q : Option Value → Hp → Prop} : Run 89 22 lo st h Q = Cnt 89 Q (xo_aload 0 23 lo st h) := run_s rfl
theorem rq_X9_lesson_23 {lo : Lo} {st : List Value} {h : Hp} {Q : Option Value → Hp → Prop} : Run 89 23 lo st h Q = Cnt 89 Q (xo_getf 9 12 26 lo st h) := run_s rfl
theorem rq_X9_lesson_26 {lo : Lo} {st : List Value} {h : Hp} {Q : Option Value → Hp → Prop} : Run 89 26 lo st h Q = Cnt 89 Q (xo_iload 1 27 lo st h) := run_s rfl
theorem rq_X9_lesson_27 {lo : Lo} {st : List Value} {h : Hp} {Q : Option Value → Hp → Prop} : Run 89 27 lo st h Q = Cnt 89 Q (xo_aload 0 28 lo st h) := run_s rfl
theorem rq_X9_lesson_28 {lo : Lo} {st : List Value} {h : Hp} {Q : Option Value → Hp → Prop} : Run 89 28 lo st h Q = Cnt 89 Q (xo_getf 9 5 31 lo st h) := run_s rfl
theorem rq_X9_lesson_31 {lo : Lo} {st : List Value} {h : Hp} {Q : Option Value → Hp → Prop} : Run 89 31 lo st h Q = Cnt 89 Q (xo_aload 0 32 lo st h) := run_s rfl
theorem rq_X9_lesson_32 {lo : Lo} {st : List Value} {h : Hp} {Q : Option Value → Hp → Prop} : Run 89 32 lo st h Q = Cnt 89 Q (xo_getf 9 2 35 lo st h) := run_s rfl
theorem rq_X9_lesson_35 {lo : Lo} {st : List Value} {h : Hp} {Q : Option Value → Hp → Prop} : Run 89 35 lo st h Q = CCall 22 4 (some 4) st h (Knt 89 38 lo (st.drop 4) Q) := run_c rfl
theorem rq_X9_lesson_38 {lo : Lo} {st : List Value} {h : Hp} {Q : Option Value → Hp → Prop} : Run 89 38 lo st h Q = Cnt 89 Q (xo_istore 3 39 lo st h) := run_s rfl
theorem rq_X9_lesson_39 {lo : Lo} {st : List Value} {h : Hp} {Q : Option Value → Hp → Prop} : Run 89 39 lo st h Q = Cnt 89 Q (xo_iload 2 40 lo st h) := run_s rfl
theorem rq_X9_lesson_40 {lo : Lo} {st : List Value} {h : Hp} {Q : Option Value → Hp → Prop} : Run 89 40 lo st h Q = Cnt 89 Q (xo_if1 (fun x => decide (x = 0)) 49 43 lo st h) := run_s rfl
theorem rq_X9_lesson_43 {lo : Lo} {st : List Value} {h : Hp} {Q : Option Value → Hp → Prop} : Run 89 43 lo st h Q = Cnt 89 Q (xo_iload 3 44 lo st h) := run_s rfl
theorem rq_X9_lesson_44 {lo : Lo} {st : List Value} {h : Hp} {Q : Option Value → Hp → Prop} : Run 89 44 lo st h Q = Cnt 89 Q (xo_const (.int (-9)) 46 lo st h) := run_s rfl
theorem rq_X9_lesson_46 {lo : Lo} {st : List Value} {h : Hp} {Q : Option Value → Hp → Prop} : Run 89 46 lo st h Q = Cnt 89 Q (xo_if2 (fun x y => decide (¬ x = y)) 53 49 lo st h) := run_s rfl
theorem rq_X9_lesson_49 {lo : Lo} {st : List Value} {h : Hp} {Q : Option Value → Hp → Prop} : Run 89 49 lo st h Q = Cnt 89 Q (xo_iload 3 50 lo st h) := run_s rfl
theorem rq_X9_lesson_50 {lo : Lo} {st : List Value} {h : Hp} {Q : Option Value → Hp → Prop} : Run 89 50 lo st h Q = Cnt 89 Q (xo_goto 60 lo st h) := run_s rfl
theorem rq_X9_lesson_53 {lo : Lo} {st : List Value} {h : Hp} {Q : Option Value → Hp → Prop} : Run 89 53 lo st h Q = Cnt 89 Q (xo_aload 0 54 lo st h) := run_s rfl
theorem rq_X9_lesson_54 {lo : Lo} {st : List Value} {h : Hp} {Q : Option Value → Hp → Prop} : Run 89 54 lo st h Q = Cnt 89 Q (xo_getf 9 12 57 lo st h) := run_s rfl
theorem rq_X9_lesson_57 {lo : Lo} {st : List Value} {h : Hp} {Q : Option Value → Hp → Prop} : Run 89 57 lo st h Q = Cnt 89 Q (xo_getf 4 2 60 lo st h) := run_s rfl
theorem rq_X9_lesson_60 {lo : Lo} {st : List Value} {h : Hp} {Q : Option Value → Hp → Prop} : Run 89 60 lo st h Q = Cnt 89 Q (xo_iret lo st h) := run_s rfl
theorem rq_X9_bestNib_0 {lo : Lo} {st : List Value} {h : Hp} {Q : Option Value → Hp → Prop} : Run 90 0 lo st h Q = Cnt 90 Q (xo_iload 1 1 lo st h) := run_s rfl
theorem rq_X9_bestNib_1 {lo : Lo} {st : List Value} {h : Hp} {Q : Option Value → Hp → Prop} : Run 90 1 lo st h Q = Cnt 90 Q (xo_const (.int 0) 2 lo st h) := run_s rfl
theorem rq_X9_bestNib_2 {lo : Lo} {st : List Value} {h : Hp} {Q : Option Value → Hp → Prop} : Run 90 2 lo st h Q = Cnt 90 Q (xo_const (.int 2) 3 lo st h) := run_s rfl
theorem rq_X9_bestNib_3 {lo : Lo} {st : List Value} {h : Hp} {Q : Option Value → Hp → Prop} : Run 90 3 lo st h Q = CCall 98 3 none st h (Knt 90 6 lo (st.drop 3) Q) := run_c rfl
theorem rq_X9_bestNib_6 {lo : Lo} {st : List Value} {h : Hp} {Q : Option Value → Hp → Prop} : Run 90 6 lo st h Q = Cnt 90 Q (xo_if1 (fun x => decide (¬ x = 0)) 12 9 lo st h) := run_s rfl
theorem rq_X9_bestNib_9 {lo : Lo} {st : List Value} {h : Hp} {Q : Option Value → Hp → Prop} : Run 90 9 lo st h Q = Cnt 90 Q (xo_const (.int (-2)) 11 lo st h) := run_s rfl
theorem rq_X9_bestNib_11 {lo : Lo} {st : List Value} {h : Hp} {Q : Option Value → Hp → Prop} : Run 90 11 lo st h Q = Cnt 90 Q (xo_iret lo st h) := run_s rfl
theorem rq_X9_bestNib_12 {lo : Lo} {st : List Value} {h : Hp} {Q : Option Value → Hp → Prop} : Run 90 12 lo st h Q = Cnt 90 Q (xo_const (.int 0) 13 lo st h) := run_s rfl
theorem rq_X9_bestNib_13 {lo : Lo} {st : List Value} {h : Hp} {Q : Option Value → Hp → Prop} : Run 90 13 lo st h Q = Cnt 90 Q (xo_istore 2 14 lo st h) := run_s rfl
theorem rq_X9_bestNib_14 {lo : Lo} {st : List Value} {h : Hp} {Q : Option Value → Hp → Prop} : Run 90 14 lo st h Q = Cnt 90 Q (xo_const (.int (-6)) 16 lo st h) := run_s rfl
theorem rq_X9_bestNib_16 {lo : Lo} {st : List Value} {h : Hp} {Q : Option Value → Hp → Prop} : Run 90 16 lo st h Q = Cnt 90 Q (xo_istore 3 17 lo st h) := run_s rfl
theorem rq_X9_bestNib_17 {lo : Lo} {st : List Value} {h : Hp} {Q : Option Value → Hp → Prop} : Run 90 17 lo st h Q = Cnt 90 Q (xo_aload 0 18 lo st h) := run_s rfl
theorem rq_X9_bestNib_18 {lo : Lo} {st : List Value} {h : Hp} {Q : Option Value → Hp → Prop} : Run 90 18 lo st h Q = Cnt 90 Q (xo_getf 9 4 21 lo st h) := run_s rfl
theorem rq_X9_bestNib_21 {lo : Lo} {st : List Value} {h : Hp} {Q : Option Value → Hp → Prop} : Run 90 21 lo st h Q = Cnt 90 Q (xo_iload 2 22 lo st h) := run_s rfl
theorem rq_X9_bestNib_22 {lo : Lo} {st : List Value} {h : Hp} {Q : Option Value → Hp → Prop} : Run 90 22 lo st h Q = Cnt 90 Q (xo_iload 3 23 lo st h) := run_s rfl
theorem rq_X9_bestNib_23 {lo : Lo} {st : List Value} {h : Hp} {Q : Option Value → Hp → Prop} : Run 90 23 lo st h Q = Cnt 90 Q (xo_aload 0 24 lo st h) := run_s rfl
theorem rq_X9_bestNib_24 {lo : Lo} {st : List Value} {h : Hp} {Q : Option Value → Hp → Prop} : Run 90 24 lo st h Q = Cnt 90 Q (xo_getf 9 2 27 lo st h) := run_s rfl
theorem rq_X9_bestNib_27 {lo : Lo} {st : List Value} {h : Hp} {Q : Option Value → Hp → Prop} : Run 90 27 lo st h Q = CCall 37 4 (some 6) st h (Knt 90 30 lo (st.drop 4) Q) := run_c rfl
theorem rq_X9_bestNib_30 {lo : Lo} {st : List Value} {h : Hp} {Q : Option Value → Hp → Prop} : Run 90 30 lo st h Q = Cnt 90 Q (xo_istore 4 32 lo st h) := run_s rfl
theorem rq_X9_bestNib_32 {lo : Lo} {st : List Value} {h : Hp} {Q : Option Value → Hp → Prop} : Run 90 32 lo st h Q = Cnt 90 Q (xo_const (.int 0) 33 lo st h) := run_s rfl
theorem rq_X9_bestNib_33 {lo : Lo} {st : List Value} {h : Hp} {Q : Option Value → Hp → Prop} : Run 90 33 lo st h Q = Cnt 90 Q (xo_istore 5 35 lo st h) := run_s rfl
theorem rq_X9_bestNib_35 {lo : Lo} {st : List Value} {h : Hp} {Q : Option Value → Hp → Prop} : Run 90 35 lo st h Q = Cnt 90 Q (xo_iload 5 37 lo st h) := run_s rfl
theorem rq_X9_bestNib_37 {lo : Lo} {st : List Value} {h : Hp} {Q : Option Value → Hp → Prop} : Run 90 37 lo st h Q = Cnt 90 Q (xo_const (.int 6) 39 lo st h) := run_s rfl
theorem rq_X9_bestNib_39 {lo : Lo} {st : List Value} {h : Hp} {Q : Option Value → Hp → Prop} : Run 90 39 lo st h Q = Cnt 90 Q (xo_if2 (fun x y => decide (x > y)) 112 42 lo st h) := run_s rfl
theorem rq_X9_bestNib_42 {lo : Lo} {st : List Value} {h : Hp} {Q : Option Value → Hp → Prop} : Run 90 42 lo st h Q = Cnt 90 Q (xo_const (.int (-6)) 44 lo st h) := run_s rfl
theorem rq_X9_bestNib_44 {lo : Lo} {st : List Value} {h : Hp} {Q : Option Value → Hp → Prop} : Run 90 44 lo st h Q = Cnt 90 Q (xo_istore 6 46 lo st h) := run_s rfl
theorem rq_X9_bestNib_46 {lo : Lo} {st : List Value} {h : Hp} {Q : Option Value → Hp → Prop} : Run 90 46 lo st h Q = Cnt 90 Q (xo_iload 6 48 lo st h) := run_s rfl
theorem rq_X9_bestNib_48 {lo : Lo} {st : List Value} {h : Hp} {Q : Option Value → Hp → Prop} : Run 90 48 lo st h Q = Cnt 90 Q (xo_const (.int 6) 50 lo st h) := run_s rfl
theorem rq_X9_bestNib_50 {lo : Lo} {st : List Value} {h : Hp} {Q : Option Value → Hp → Prop} : Run 90 50 lo st h Q = Cnt 90 Q (xo_if2 (fun x y => decide (x > y)) 106 53 lo st h) := run_s rfl
theorem rq_X9_bestNib_53 {lo : Lo} {st : List Value} {h : Hp} {Q : Option Value → Hp → Prop} : Run 90 53 lo st h Q = Cnt 90 Q (xo_iload 5 55 lo st h) := run_s rfl
theorem rq_X9_bestNib_55 {lo : Lo} {st : List Value} {h : Hp} {Q : Option Value → Hp → Prop} : Run 90 55 lo st h Q = Cnt 90 Q (xo_if1 (fun x => decide (¬ x = 0)) 66 58 lo st h) := run_s rfl
theorem rq_X9_bestNib_58 {lo : Lo} {st : List Value} {h : Hp} {Q : Option Value → Hp → Prop} : Run 90 58 lo st h Q = Cnt 90 Q (xo_iload 6 60 lo st h) := run_s rfl
theorem rq_X9_bestNib_60 {lo : Lo} {st : List Value} {h : Hp} {Q : Option Value → Hp → Prop} : Run 90 60 lo st h Q = Cnt 90 Q (xo_if1 (fun x => decide (¬ x = 0)) 66 63 lo st h) := run_s rfl
theorem rq_X9_bestNib_63 {lo : Lo} {st : List Value} {h : Hp} {Q : Option Value → Hp → Prop} : Run 90 63 lo st h Q = Cnt 90 Q (xo_goto 100 lo st h) := run_s rfl
theorem rq_X9_bestNib_66 {lo : Lo} {st : List Value} {h : Hp} {Q : Option Value → Hp → Prop} : Run 90 66 lo st h Q = Cnt 90 Q (xo_aload 0 67 lo st h) := run_s rfl
theorem rq_X9_bestNib_67 {lo : Lo} {st : List Value} {h : Hp} {Q : Option Value → Hp → Prop} : Run 90 67 lo st h Q = Cnt 90 Q (xo_getf 9 4 70 lo st h) := run_s rfl
theorem rq_X9_bestNib_70 {lo : Lo} {st : List Value} {h : Hp} {Q : Option Value → Hp → Prop} : Run 90 70 lo st h Q = Cnt 90 Q (xo_iload 5 72 lo st h) := run_s rfl
theorem rq_X9_bestNib_72 {lo : Lo} {st : List Value} {h : Hp} {Q : Option Value → Hp → Prop} : Run 90 72 lo st h Q = Cnt 90 Q (xo_iload 6 74 lo st h) := run_s rfl
theorem rq_X9_bestNib_74 {lo : Lo} {st : List Value} {h : Hp} {Q : Option Value → Hp → Prop} : Run 90 74 lo st h Q = Cnt 90 Q (xo_aload 0 75 lo st h) := run_s rfl
theorem rq_X9_bestNib_75 {lo : Lo} {st : List Value} {h : Hp} {Q : Option Value → Hp → Prop} : Run 90 75 lo st h Q = Cnt 90 Q (xo_getf 9 2 78 lo st h) := run_s rfl
theorem rq_X9_bestNib_78 {lo : Lo} {st : List Value} {h : Hp} {Q : Option Value → Hp → Prop} : Run 90 78 lo st h Q = CCall 37 4 (some 6) st h (Knt 90 81 lo (st.drop 4) Q) := run_c rfl
theorem rq_X9_bestNib_81 {lo : Lo} {st : List Value} {h : Hp} {Q : Option Value → Hp → Prop} : Run 90 81 lo st h Q = Cnt 90 Q (xo_istore 7 83 lo st h) := run_s rfl
theorem rq_X9_bestNib_83 {lo : Lo} {st : List Value} {h : Hp} {Q : Option Value → Hp → Prop} : Run 90 83 lo st h Q = Cnt 90 Q (xo_iload 7 85 lo st h) := run_s rfl
theorem rq_X9_bestNib_85 {lo : Lo} {st : List Value} {h : Hp} {Q : Option Value → Hp → Prop} : Run 90 85 lo st h Q = Cnt 90 Q (xo_iload 4 87 lo st h) := run_s rfl
theorem rq_X9_bestNib_87 {lo : Lo} {st : List Value} {h : Hp} {Q : Option Value → Hp → Prop} : Run 90 87 lo st h Q = Cnt 90 Q (xo_if2 (fun x y => decide (x ≥ y)) 100 90 lo st h) := run_s rfl
theorem rq_X9_bestNib_90 {lo : Lo} {st : List Value} {h : Hp} {Q : Option Value → Hp → Prop} : Run 90 90 lo st h Q = Cnt 90 Q (xo_iload 5 92 lo st h) := run_s rfl
theorem rq_X9_bestNib_92 {lo : Lo} {st : List Value} {h : Hp} {Q : Option Value → Hp → Prop} : Run 90 92 lo st h Q = Cnt 90 Q (xo_istore 2 93 lo st h) := run_s rfl
theorem rq_X9_bestNib_93 {lo : Lo} {st : List Value} {h : Hp} {Q : Option Value → Hp → Prop} : Run 90 93 lo st h Q = Cnt 90 Q (xo_iload 6 95 lo st h) := run_s rfl
theorem rq_X9_bestNib_95 {lo : Lo} {st : List Value} {h : Hp} {Q : Option Value → Hp → Prop} : Run 90 95 lo st h Q = Cnt 90 Q (xo_istore 3 96 lo st h) := run_s rfl
theorem rq_X9_bestNib_96 {lo : Lo} {st : List Value} {h : Hp} {Q : Option Value → Hp → Prop} : Run 90 96 lo st h Q = Cnt 90 Q (xo_iload 7 98 lo st h) := run_s rfl
theorem rq_X9_bestNib_98 {lo : Lo} {st : List Value} {h : Hp} {Q : Option Value → Hp → Prop} : Run 90 98 lo st h Q = Cnt 90 Q (xo_istore 4 100 lo st h) := run_s rfl
theorem rq_X9_bestNib_100 {lo : Lo} {st : List Value} {h : Hp} {Q : Option Value → Hp → Prop} : Run 90 100 lo st h Q = Cnt 90 Q (xo_iinc 6 1 103 lo st h) := run_s rfl
theorem rq_X9_bestNib_103 {lo : Lo} {st : List Value} {h : Hp} {Q : Option Value → Hp → Prop} : Run 90 103 lo st h Q = Cnt 90 Q (xo_goto 46 lo st h) := run_s rfl
theorem rq_X9_bestNib_106 {lo : Lo} {st : List Value} {h : Hp} {Q : Option Value → Hp → Prop} : Run 90 106 lo st h Q = Cnt 90 Q (xo_iinc 5 1 109 lo st h) := run_s rfl
theorem rq_X9_bestNib_109 {lo : Lo} {st : List Value} {h : Hp} {Q : Option Value → Hp → Prop} : Run 90 109 lo st h Q = Cnt 90 Q (xo_goto 35 lo st h) := run_s rfl
theorem rq_X9_bestNib_112 {lo : Lo} {st : List Value} {h : Hp} {Q : Option Value → Hp → Prop} : Run 90 112 lo st h Q = Cnt 90 Q (xo_iload 1 113 lo st h) := run_s rfl
theorem rq_X9_bestNib_113 {lo : Lo} {st : List Value} {h : Hp} {Q : Option Value → Hp → Prop} : Run 90 113 lo st h Q = Cnt 90 Q (xo_sw (xlook 113 31 #[(0, 27), (1, 29)]) lo st h) := run_s rfl
theorem rq_X9_bestNib_140 {lo : Lo} {st : List Value} {h : Hp} {Q : Option Value → Hp → Prop} : Run 90 140 lo st h Q = Cnt 90 Q (xo_iload 2 141 lo st h) := run_s rfl
theorem rq_X9_bestNib_141 {lo : Lo} {st : List Value} {h : Hp} {Q : Option Value → Hp → Prop} : Run 90 141 lo st h Q = Cnt 90 Q (xo_iret lo st h) := run_s rfl
theorem rq_X9_bestNib_142 {lo : Lo} {st : List Value} {h : Hp} {Q : Option Value → Hp → Prop} : Run 90 142 lo st h Q = Cnt 90 Q (xo_iload 3 143 lo st h) := run_s rfl
theorem rq_X9_bestNib_143 {lo : Lo} {st : List Value} {h : Hp} {Q : Option Value → Hp → Prop} : Run 90 143 lo st h Q = Cnt 90 Q (xo_iret lo st h) := run_s rfl
theorem rq_X9_bestNib_144 {lo : Lo} {st : List Value} {h : Hp} {Q : Option Value → Hp → Prop} : Run 90 144 lo st h Q = Cnt 90 Q (xo_iload 4 146 lo st h) := run_s rfl
theorem rq_X9_bestNib_146 {lo : Lo} {st : List Value} {h : Hp} {Q : Option Value → Hp → Prop} : Run 90 146 lo st h Q = Cnt 90 Q (xo_iret lo st h) := run_s rfl
theorem rq_X9_bestLimit_0 {lo : Lo} {st : List Value} {h : Hp} {Q : Option Value → Hp → Prop} : Run 91 0 lo st h Q = Cnt 91 Q (xo_iload 1 1 lo st h) := run_s rfl
theorem rq_X9_bestLimit_1 {lo : Lo} {st : List Value} {h : Hp} {Q : Option Value → Hp → Prop} : Run 91 1 lo st h Q = Cnt 91 Q (xo_const (.int 0) 2 lo st h) := run_s rfl
theorem rq_X9_bestLimit_2 {lo : Lo} {st : List Value} {h : Hp} {Q : Option Value → Hp → Prop} : Run 91 2 lo st h Q = Cnt 91 Q (xo_const (.int 1) 3 lo st h) := run_s rfl
theorem rq_X9_bestLimit_3 {lo : Lo} {st : List Value} {h : Hp} {Q : Option Value → Hp → Prop} : Run 91 3 lo st h Q = CCall 98 3 none st h (Knt 91 6 lo (st.drop 3) Q) := run_c rfl
theorem rq_X9_bestLimit_6 {lo : Lo} {st : List Value} {h : Hp} {Q : Option Value → Hp → Prop} : Run 91 6 lo st h Q = Cnt 91 Q (xo_if1 (fun x => decide (¬ x = 0)) 12 9 lo st h) := run_s rfl
theorem rq_X9_bestLimit_9 {lo : Lo} {st : List Value} {h : Hp} {Q : Option Value → Hp → Prop} : Run 91 9 lo st h Q = Cnt 91 Q (xo_const (.int (-2)) 11 lo st h) := run_s rfl
theorem rq_X9_bestLimit_11 {lo : Lo} {st : List Value} {h : Hp} {Q : Option Value → Hp → Prop} : Run 91 11 lo st h Q = Cnt 91 Q (xo_iret lo st h) := run_s rfl
theorem rq_X9_bestLimit_12 {lo : Lo} {st : List Value} {h : Hp} {Q : Option Value → Hp → Prop} : Run 91 12 lo st h Q = Cnt 91 Q (xo_const (.int 1) 13 lo st h) := run_s rfl
theorem rq_X9_bestLimit_13 {lo : Lo} {st : List Value} {h : Hp} {Q : Option Value → Hp → Prop} : Run 91 13 lo st h Q = Cnt 91 Q (xo_istore 2 14 lo st h) := run_s rfl
theorem rq_X9_bestLimit_14 {lo : Lo} {st : List Value} {h : Hp} {Q : Option Value → Hp → Prop} : Run 91 14 lo st h Q = Cnt 91 Q (xo_aload 0 15 lo st h) := run_s rfl
theorem rq_X9_bestLimit_15 {lo : Lo} {st : List Value} {h : Hp} {Q : Option Value → Hp → Prop} : Run 91 15 lo st h Q = Cnt 91 Q (xo_getf 9 4 18 lo st h) := run_s rfl
theorem rq_X9_bestLimit_18 {lo : Lo} {st : List Value} {h : Hp} {Q : Option Value → Hp → Prop} : Run 91 18 lo st h Q = Cnt 91 Q (xo_iload 2 19 lo st h) := run_s rfl
theorem rq_X9_bestLimit_19 {lo : Lo} {st : List Value} {h : Hp} {Q : Option Value → Hp → Prop} : Run 91 19 lo st h Q = CCall 36 2 (some 6) st h (Knt 91 22 lo (st.drop 2) Q) := run_c rfl
theorem rq_X9_bestLimit_22 {lo : Lo} {st : List Value} {h : Hp} {Q : Option Value → Hp → Prop} : Run 91 22 lo st h Q = Cnt 91 Q (xo_istore 3 23 lo st h) := run_s rfl
theorem rq_X9_bestLimit_23 {lo : Lo} {st : List Value} {h : Hp} {Q : Option Value → Hp → Prop} : Run 91 23 lo st h Q = Cnt 91 Q (xo_const (.int 2) 24 lo st h) := run_s rfl
theorem rq_X9_bestLimit_24 {lo : Lo} {st : List Value} {h : Hp} {Q : Option Value → Hp → Prop} : Run 91 24 lo st h Q = Cnt 91 Q (xo_istore 4 26 lo st h) := run_s rfl
theorem rq_X9_bestLimit_26 {lo : Lo} {st : List Value} {h : Hp} {Q : Option Value → Hp → Prop} : Run 91 26 lo st h Q = Cnt 91 Q (xo_iload 4 28 lo st h) := run_s rfl
theorem rq_X9_bestLimit_28 {lo : Lo} {st : List Value} {h : Hp} {Q : Option Value → Hp → Prop} : Run 91 28 lo st h Q = Cnt 91 Q (xo_const (.int 20) 30 lo st h) := run_s rfl
theorem rq_X9_bestLimit_30 {lo : Lo} {st : List Value} {h : Hp} {Q : Option Value → Hp → Prop} : Run 91 30 lo st h Q = Cnt 91 Q (xo_if2 (fun x y => decide (x > y)) 62 33 lo st h) := run_s rfl
theorem rq_X9_bestLimit_33 {lo : Lo} {st : List Value} {h : Hp} {Q : Option Value → Hp → Prop} : Run 91 33 lo st h Q = Cnt 91 Q (xo_aload 0 34 lo st h) := run_s rfl
theorem rq_X9_bestLimit_34 {lo : Lo} {st : List Value} {h : Hp} {Q : Option Value → Hp → Prop} : Run 91 34 lo st h Q = Cnt 91 Q (xo_getf 9 4 37 lo st h) := run_s rfl
theorem rq_X9_bestLimit_37 {lo : Lo} {st : List Value} {h : Hp} {Q : Option Value → Hp → Prop} : Run 91 37 lo st h Q = Cnt 91 Q (xo_iload 4 39 lo st h) := run_s rfl
theorem rq_X9_bestLimit_39 {lo : Lo} {st : List Value} {h : Hp} {Q : Option Value → Hp → Prop} : Run 91 39 lo st h Q = CCall 36 2 (some 6) st h (Knt 91 42 lo (st.drop 2) Q) := run_c rfl
theorem rq_X9_bestLimit_42 {lo : Lo} {st : List Value} {h : Hp} {Q : Option Value → Hp → Prop} : Run 91 42 lo st h Q = Cnt 91 Q (xo_istore 5 44 lo st h) := run_s rfl
theorem rq_X9_bestLimit_44 {lo : Lo} {st : List Value} {h : Hp} {Q : Option Value → Hp → Prop} : Run 91 44 lo st h Q = Cnt 91 Q (xo_iload 5 46 lo st h) := run_s rfl
theorem rq_X9_bestLimit_46 {lo : Lo} {st : List Value} {h : Hp} {Q : Option Value → Hp → Prop} : Run 91 46 lo st h Q = Cnt 91 Q (xo_iload 3 47 lo st h) := run_s rfl
theorem rq_X9_bestLimit_47 {lo : Lo} {st : List Value} {h : Hp} {Q : Option Value → Hp → Prop} : Run 91 47 lo st h Q = Cnt 91 Q (xo_if2 (fun x y => decide (x ≥ y)) 56 50 lo st h) := run_s rfl
theorem rq_X9_bestLimit_50 {lo : Lo} {st : List Value} {h : Hp} {Q : Option Value → Hp → Prop} : Run 91 50 lo st h Q = Cnt 91 Q (xo_iload 4 52 lo st h) := run_s rfl
theorem rq_X9_bestLimit_52 {lo : Lo} {st : List Value} {h : Hp} {Q : Option Value → Hp → Prop} : Run 91 52 lo st h Q = Cnt 91 Q (xo_istore 2 53 lo st h) := run_s rfl
theorem rq_X9_bestLimit_53 {lo : Lo} {st : List Value} {h : Hp} {Q : Option Value → Hp → Prop} : Run 91 53 lo st h Q = Cnt 91 Q (xo_iload 5 55 lo st h) := run_s rfl
theorem rq_X9_bestLimit_55 {lo : Lo} {st : List Value} {h : Hp} {Q : Option Value → Hp → Prop} : Run 91 55 lo st h Q = Cnt 91 Q (xo_istore 3 56 lo st h) := run_s rfl
theorem rq_X9_bestLimit_56 {lo : Lo} {st : List Value} {h : Hp} {Q : Option Value → Hp → Prop} : Run 91 56 lo st h Q = Cnt 91 Q (xo_iinc 4 1 59 lo st h) := run_s rfl
theorem rq_X9_bestLimit_59 {lo : Lo} {st : List Value} {h : Hp} {Q : Option Value → Hp → Prop} : Run 91 59 lo st h Q = Cnt 91 Q (xo_goto 26 lo st h) := run_s rfl
theorem rq_X9_bestLimit_62 {lo : Lo} {st : List Value} {h : Hp} {Q : Option Value → Hp → Prop} : Run 91 62 lo st h Q = Cnt 91 Q (xo_iload 1 63 lo st h) := run_s rfl
theorem rq_X9_bestLimit_63 {lo : Lo} {st : List Value} {h : Hp} {Q : Option Value → Hp → Prop} : Run 91 63 lo st h Q = Cnt 91 Q (xo_if1 (fun x => decide (¬ x = 0)) 70 66 lo st h) := run_s rfl
theorem rq_X9_bestLimit_66 {lo : Lo} {st : List Value} {h : Hp} {Q : Option Value → Hp → Prop} : Run 91 66 lo st h Q = Cnt 91 Q (xo_iload 2 67 lo st h) := run_s rfl
theorem rq_X9_bestLimit_67 {lo : Lo} {st : List Value} {h : Hp} {Q : Option Value → Hp → Prop} : Run 91 67 lo st h Q = Cnt 91 Q (xo_goto 71 lo st h) := run_s rfl
theorem rq_X9_bestLimit_70 {lo : Lo} {st : List Value} {h : Hp} {Q : Option Value → Hp → Prop} : Run 91 70 lo st h Q = Cnt 91 Q (xo_iload 3 71 lo st h) := run_s rfl
theorem rq_X9_bestLimit_71 {lo : Lo} {st : List Value} {h : Hp} {Q : Option Value → Hp → Prop} : Run 91 71 lo st h Q = Cnt 91 Q (xo_iret lo st h) := run_s rfl
theorem rq_X9_frame_0 {lo : Lo} {st : List Value} {h : Hp} {Q : Option Value → Hp → Prop} : Run 92 0 lo st h Q = Cnt 92 Q (xo_iload 1 1 lo st h) := run_s rfl
theorem rq_X9_frame_1 {lo : Lo} {st : List Value} {h : Hp} {Q : Option Value → Hp → Prop} : Run 92 1 lo st h Q = Cnt 92 Q (xo_const (.int 64) 3 lo st h) := run_s rfl
theorem rq_X9_frame_3 {lo : Lo} {st : List Value} {h : Hp} {Q : Option Value → Hp → Prop} : Run 92 3 lo st h Q = Cnt 92 Q (xo_if2 (fun x y => decide (x ≤ y)) 9 6 lo st h) := run_s rfl
theorem rq_X9_frame_6 {lo : Lo} {st : List Value} {h : Hp} {Q : Option Value → Hp → Prop} : Run 92 6 lo st h Q = Cnt 92 Q (xo_const (.int (-2)) 8 lo st h) := run_s rfl
theorem rq_X9_frame_8 {lo : Lo} {st : List Value} {h : Hp} {Q : Option Value → Hp → Prop} : Run 92 8 lo st h Q = Cnt 92 Q (xo_iret lo st h) := run_s rfl
theorem rq_X9_frame_9 {lo : Lo} {st : List Value} {h : Hp} {Q : Option Value → Hp → Prop} : Run 92 9 lo st h Q = Cnt 92 Q (xo_iload 1 10 lo st h) := run_s rfl
theorem rq_X9_frame_10 {lo : Lo} {st : List Value} {h : Hp} {Q : Option Value → Hp → Prop} : Run 92 10 lo st h Q = Cnt 92 Q (xo_if1 (fun x => decide (x ≥ 0)) 16 13 lo st h) := run_s rfl
theorem rq_X9_frame_13 {lo : Lo} {st : List Value} {h : Hp} {Q : Option Value → Hp → Prop} : Run 92 13 lo st h Q = Cnt 92 Q (xo_const (.int (-14)) 15 lo st h) := run_s rfl
theorem rq_X9_frame_15 {lo : Lo} {st : List Value} {h : Hp} {Q : Option Value → Hp → Prop} : Run 92 15 lo st h Q = Cnt 92 Q (xo_iret lo st h) := run_s rfl
theorem rq_X9_frame_16 {lo : Lo} {st : List Value} {h : Hp} {Q : Option Value → Hp → Prop} : Run 92 16 lo st h Q = Cnt 92 Q (xo_aload 0 17 lo st h) := run_s rfl
theorem rq_X9_frame_17 {lo : Lo} {st : List Value} {h : Hp} {Q : Option Value → Hp → Prop} : Run 92 17 lo st h Q = Cnt 92 Q (xo_getf 9 6 20 lo st h) := run_s rfl
theorem rq_X9_frame_20 {lo : Lo} {st : List Value} {h : Hp} {Q : Option Value → Hp → Prop} : Run 92 20 lo st h Q = Cnt 92 Q (xo_iload 1 21 lo st h) := run_s rfl
theorem rq_X9_frame_21 {lo : Lo} {st : List Value} {h : Hp} {Q : Option Value → Hp → Prop} : Run 92 21 lo st h Q = CCall 10 2 (some 2) st h (Knt 92 24 lo (st.drop 2) Q) := run_c rfl
theorem rq_X9_frame_24 {lo : Lo} {st : List Value} {h : Hp} {Q : Option Value → Hp → Prop} : Run 92 24 lo st h Q = Cnt 92 Q (xo_iload 1 25 lo st h) := run_s rfl
theorem rq_X9_frame_25 {lo : Lo} {st : List Value} {h : Hp} {Q : Option Value → Hp → Prop} : Run 92 25 lo st h Q = Cnt 92 Q (xo_iret lo st h) := run_s rfl
theorem rq_X9_shoot_0 {lo : Lo} {st : List Value} {h : Hp} {Q : Option Value → Hp → Prop} : Run 93 0 lo st h Q = Cnt 93 Q (xo_iload 2 1 lo st h) := run_s rfl
theorem rq_X9_shoot_1 {lo : Lo} {st : List Value} {h : Hp} {Q : Option Value → Hp → Prop} : Run 93 1 lo st h Q = Cnt 93 Q (xo_const (.int 0) 2 lo st h) := run_s rfl
theorem rq_X9_shoot_2 {lo : Lo} {st : List Value} {h : Hp} {Q : Option Value → Hp → Prop} : Run 93 2 lo st h Q = Cnt 93 Q (xo_const (.int 31) 4 lo st h) := run_s rfl
theorem rq_X9_shoot_4 {lo : Lo} {st : List Value} {h : Hp} {Q : Option Value → Hp → Prop} : Run 93 4 lo st h Q = CCall 98 3 none st h (Knt 93 7 lo (st.drop 3) Q) := run_c rfl
theorem rq_X9_shoot_7 {lo : Lo} {st : List Value} {h : Hp} {Q : Option Value → Hp → Prop} : Run 93 7 lo st h Q = Cnt 93 Q (xo_if1 (fun x => decide (¬ x = 0)) 13 10 lo st h) := run_s rfl
theorem rq_X9_shoot_10 {lo : Lo} {st : List Value} {h : Hp} {Q : Option Value → Hp → Prop} : Run 93 10 lo st h Q = Cnt 93 Q (xo_const (.int (-2)) 12 lo st h) := run_s rfl
theorem rq_X9_shoot_12 {lo : Lo} {st : List Value} {h : Hp} {Q : Option Value → Hp → Prop} : Run 93 12 lo st h Q = Cnt 93 Q (xo_iret lo st h) := run_s rfl
theorem rq_X9_shoot_13 {lo : Lo} {st : List Value} {h : Hp} {Q : Option Value → Hp → Prop} : Run 93 13 lo st h Q = Cnt 93 Q (xo_aload 0 14 lo st h) := run_s rfl
theorem rq_X9_shoot_14 {lo : Lo} {st : List Value} {h : Hp} {Q : Option Value → Hp → Prop} : Run 93 14 lo st h Q = Cnt 93 Q (xo_getf 9 6 17 lo st h) := run_s rfl
theorem rq_X9_shoot_17 {lo : Lo} {st : List Value} {h : Hp} {Q : Option Value → Hp → Prop} : Run 93 17 lo st h Q = Cnt 93 Q (xo_iload 1 18 lo st h) := run_s rfl
theorem rq_X9_shoot_18 {lo : Lo} {st : List Value} {h : Hp} {Q : Option Value → Hp → Prop} : Run 93 18 lo st h Q = CCall 12 2 (some 2) st h (Knt 93 21 lo (st.drop 2) Q) := run_c rfl
theorem rq_X9_shoot_21 {lo : Lo} {st : List Value} {h : Hp} {Q : Option Value → Hp → Prop} : Run 93 21 lo st h Q = Cnt 93 Q (xo_istore 3 22 lo st h) := run_s rfl
theorem rq_X9_shoot_22 {lo : Lo} {st : List Value} {h : Hp} {Q : Option Value → Hp → Prop} : Run 93 22 lo st h Q = Cnt 93 Q (xo_iload 3 23 lo st h) := run_s rfl
theorem rq_X9_shoot_23 {lo : Lo} {st : List Value} {h : Hp} {Q : Option Value → Hp → Prop} : Run 93 23 lo st h Q = Cnt 93 Q (xo_if1 (fun x => decide (x = 0)) 28 26 lo st h) := run_s rfl
theorem rq_X9_shoot_26 {lo : Lo} {st : List Value} {h : Hp} {Q : Option Value → Hp → Prop} : Run 93 26 lo st h Q = Cnt 93 Q (xo_iload 3 27 lo st h) := run_s rfl
theorem rq_X9_shoot_27 {lo : Lo} {st : List Value} {h : Hp} {Q : Option Value → Hp → Prop} : Run 93 27 lo st h Q = Cnt 93 Q (xo_iret lo st h) := run_s rfl
theorem rq_X9_shoot_28 {lo : Lo} {st : List Value} {h : Hp} {Q : Option Value → Hp → Prop} : Run 93 28 lo st h Q = Cnt 93 Q (xo_aload 0 29 lo st h) := run_s rfl
theorem rq_X9_shoot_29 {lo : Lo} {st : List Value} {h : Hp} {Q : Option Value → Hp → Prop} : Run 93 29 lo st h Q = Cnt 93 Q (xo_getf 9 6 32 lo st h) := run_s rfl
theorem rq_X9_shoot_32 {lo : Lo} {st : List Value} {h : Hp} {Q : Option Value → Hp → Prop} : Run 93 32 lo st h Q = Cnt 93 Q (xo_getf 2 0 35 lo st h) := run_s rfl
theorem rq_X9_shoot_35 {lo : Lo} {st : List Value} {h : Hp} {Q : Option Value → Hp → Prop} : Run 93 35 lo st h Q = Cnt 93 Q (xo_iload 1 36 lo st h) := run_s rfl
theorem rq_X9_shoot_36 {lo : Lo} {st : List Value} {h : Hp} {Q : Option Value → Hp → Prop} : Run 93 36 lo st h Q = Cnt 93 Q (xo_aload 0 37 lo st h) := run_s rfl
theorem rq_X9_shoot_37 {lo : Lo} {st : List Value} {h : Hp} {Q : Option Value → Hp → Prop} : Run 93 37 lo st h Q = CCall 101 1 (some 9) st h (Knt 93 40 lo (st.drop 1) Q) := run_c rfl
theorem rq_X9_shoot_40 {lo : Lo} {st : List Value} {h : Hp} {Q : Option Value → Hp → Prop} : Run 93 40 lo st h Q = Cnt 93 Q (xo_iload 2 41 lo st h) := run_s rfl
theorem rq_X9_shoot_41 {lo : Lo} {st : List Value} {h : Hp} {Q : Option Value → Hp → Prop} : Run 93 41 lo st h Q = Cnt 93 Q (xo_iald 42 lo st h) := run_s rfl
theorem rq_X9_shoot_42 {lo : Lo} {st : List Value} {h : Hp} {Q : Option Value → Hp → Prop} : Run 93 42 lo st h Q = Cnt 93 Q (xo_iast 43 lo st h) := run_s rfl
theorem rq_X9_shoot_43 {lo : Lo} {st : List Value} {h : Hp} {Q : Option Value → Hp → Prop} : Run 93 43 lo st h Q = Cnt 93 Q (xo_aload 0 44 lo st h) := run_s rfl
theorem rq_X9_shoot_44 {lo : Lo} {st : List Value} {h : Hp} {Q : Option Value → Hp → Prop} : Run 93 44 lo st h Q = Cnt 93 Q (xo_getf 9 6 47 lo st h) := run_s rfl
theorem rq_X9_shoot_47 {lo : Lo} {st : List Value} {h : Hp} {Q : Option Value → Hp → Prop} : Run 93 47 lo st h Q = Cnt 93 Q (xo_getf 2 0 50 lo st h) := run_s rfl
theorem rq_X9_shoot_50 {lo : Lo} {st : List Value} {h : Hp} {Q : Option Value → Hp → Prop} : Run 93 50 lo st h Q = Cnt 93 Q (xo_iload 1 51 lo st h) := run_s rfl
theorem rq_X9_shoot_51 {lo : Lo} {st : List Value} {h : Hp} {Q : Option Value → Hp → Prop} : Run 93 51 lo st h Q = Cnt 93 Q (xo_iald 52 lo st h) := run_s rfl
theorem rq_X9_shoot_52 {lo : Lo} {st : List Value} {h : Hp} {Q : Option Value → Hp → Prop} : Run 93 52 lo st h Q = CCall 190 1 none st h (Knt 93 55 lo (st.drop 1) Q) := run_c rfl
theorem rq_X9_shoot_55 {lo : Lo} {st : List Value} {h : Hp} {Q : Option Value → Hp → Prop} : Run 93 55 lo st h Q = Cnt 93 Q (xo_iret lo st h) := run_s rfl
theorem rq_X9_roll_0 {lo : Lo} {st : List Value} {h : Hp} {Q : Option Value → Hp → Prop} : Run 94 0 lo st h Q = Cnt 94 Q (xo_iload 2 1 lo st h) := run_s rfl
theorem rq_X9_roll_1 {lo : Lo} {st : List Value} {h : Hp} {Q : Option Value → Hp → Prop} : Run 94 1 lo st h Q = Cnt 94 Q (xo_const (.int 0) 2 lo st h) := run_s rfl
theorem rq_X9_roll_2 {lo : Lo} {st : List Value} {h : Hp} {Q : Option Value → Hp → Prop} : Run 94 2 lo st h Q = Cnt 94 Q (xo_const (.int 31) 4 lo st h) := run_s rfl
theorem rq_X9_roll_4 {lo : Lo} {st : List Value} {h : Hp} {Q : Option Value → Hp → Prop} : Run 94 4 lo st h Q = CCall 98 3 none st h (Knt 94 7 lo (st.drop 3) Q) := run_c rfl
theorem rq_X9_roll_7 {lo : Lo} {st : List Value} {h : Hp} {Q : Option Value → Hp → Prop} : Run 94 7 lo st h Q = Cnt 94 Q (xo_if1 (fun x => decide (¬ x = 0)) 13 10 lo st h) := run_s rfl
theorem rq_X9_roll_10 {lo : Lo} {st : List Value} {h : Hp} {Q : Option Value → Hp → Prop} : Run 94 10 lo st h Q = Cnt 94 Q (xo_const (.int (-2)) 12 lo st h) := run_s rfl
theorem rq_X9_roll_12 {lo : Lo} {st : List Value} {h : Hp} {Q : Option Value → Hp → Prop} : Run 94 12 lo st h Q = Cnt 94 Q (xo_iret lo st h) := run_s rfl
theorem rq_X9_roll_13 {lo : Lo} {st : List Value} {h : Hp} {Q : Option Value → Hp → Prop} : Run 94 13 lo st h Q = Cnt 94 Q (xo_aload 0 14 lo st h) := run_s rfl
theorem rq_X9_roll_14 {lo : Lo} {st : List Value} {h : Hp} {Q : Option Value → Hp → Prop} : Run 94 14 lo st h Q = Cnt 94 Q (xo_getf 9 6 17 lo st h) := run_s rfl
theorem rq_X9_roll_17 {lo : Lo} {st : List Value} {h : Hp} {Q : Option Value → Hp → Prop} : Run 94 17 lo st h Q = Cnt 94 Q (xo_iload 1 18 lo st h) := run_s rfl
theorem rq_X9_roll_18 {lo : Lo} {st : List Value} {h : Hp} {Q : Option Value → Hp → Prop} : Run 94 18 lo st h Q = CCall 12 2 (some 2) st h (Knt 94 21 lo (st.drop 2) Q) := run_c rfl
theorem rq_X9_roll_21 {lo : Lo} {st : List Value} {h : Hp} {Q : Option Value → Hp → Prop} : Run 94 21 lo st h Q = Cnt 94 Q (xo_istore 3 22 lo st h) := run_s rfl
theorem rq_X9_roll_22 {lo : Lo} {st : List Value} {h : Hp} {Q : Option Value → Hp → Prop} : Run 94 22 lo st h Q = Cnt 94 Q (xo_iload 3 23 lo st h) := run_s rfl
theorem rq_X9_roll_23 {lo : Lo} {st : List Value} {h : Hp} {Q : Option Value → Hp → Prop} : Run 94 23 lo st h Q = Cnt 94 Q (xo_if1 (fun x => decide (x = 0)) 28 26 lo st h) := run_s rfl
theorem rq_X9_roll_26 {lo : Lo} {st : List Value} {h : Hp} {Q : Option Value → Hp → Prop} : Run 94 26 lo st h Q = Cnt 94 Q (xo_iload 3 27 lo st h) := run_s rfl
theorem rq_X9_roll_27 {lo : Lo} {st : List Value} {h : Hp} {Q : Option Value → Hp → Prop} : Run 94 27 lo st h Q = Cnt 94 Q (xo_iret lo st h) := run_s rfl
theorem rq_X9_roll_28 {lo : Lo} {st : List Value} {h : Hp} {Q : Option Value → Hp → Prop} : Run 94 28 lo st h Q = Cnt 94 Q (xo_aload 0 29 lo st h) := run_s rfl
theorem rq_X9_roll_29 {lo : Lo} {st : List Value} {h : Hp} {Q : Option Value → Hp → Prop} : Run 94 29 lo st h Q = Cnt 94 Q (xo_getf 9 6 32 lo st h) := run_s rfl
theorem rq_X9_roll_32 {lo : Lo} {st : List Value} {h : Hp} {Q : Option Value → Hp → Prop} : Run 94 32 lo st h Q = Cnt 94 Q (xo_getf 2 0 35 lo st h) := run_s rfl
theorem rq_X9_roll_35 {lo : Lo} {st : List Value} {h : Hp} {Q : Option Value → Hp → Prop} : Run 94 35 lo st h Q = Cnt 94 Q (xo_iload 1 36 lo st h) := run_s rfl
theorem rq_X9_roll_36 {lo : Lo} {st : List Value} {h : Hp} {Q : Option Value → Hp → Prop} : Run 94 36 lo st h Q = Cnt 94 Q (xo_aload 0 37 lo st h) := run_s rfl
theorem rq_X9_roll_37 {lo : Lo} {st : List Value} {h : Hp} {Q : Option Value → Hp → Prop} : Run 94 37 lo st h Q = Cnt 94 Q (xo_getf 9 6 40 lo st h) := run_s rfl
theorem rq_X9_roll_40 {lo : Lo} {st : List Value} {h : Hp} {Q : Option Value → Hp → Prop} : Run 94 40 lo st h Q = Cnt 94 Q (xo_getf 2 0 43 lo st h) := run_s rfl
theorem rq_X9_roll_43 {lo : Lo} {st : List Value} {h : Hp} {Q : Option Value → Hp → Prop} : Run 94 43 lo st h Q = Cnt 94 Q (xo_iload 1 44 lo st h) := run_s rfl
theorem rq_X9_roll_44 {lo : Lo} {st : List Value} {h : Hp} {Q : Option Value → Hp → Prop} : Run 94 44 lo st h Q = Cnt 94 Q (xo_iald 45 lo st h) := run_s rfl
theorem rq_X9_roll_45 {lo : Lo} {st : List Value} {h : Hp} {Q : Option Value → Hp → Prop} : Run 94 45 lo st h Q = Cnt 94 Q (xo_iload 2 46 lo st h) := run_s rfl
theorem rq_X9_roll_46 {lo : Lo} {st : List Value} {h : Hp} {Q : Option Value → Hp → Prop} : Run 94 46 lo st h Q = Cnt 94 Q (xo_bin (fun x y => (x.toUInt32 >>> (y.toUInt32 &&& Int32.toUInt32 31)).toInt32) 47 lo st h) := run_s rfl
theorem rq_X9_roll_47 {lo : Lo} {st : List Value} {h : Hp} {Q : Option Value → Hp → Prop} : Run 94 47 lo st h Q = Cnt 94 Q (xo_iast 48 lo st h) := run_s rfl
theorem rq_X9_roll_48 {lo : Lo} {st : List Value} {h : Hp} {Q : Option Value → Hp → Prop} : Run 94 48 lo st h Q = Cnt 94 Q (xo_aload 0 49 lo st h) := run_s rfl
theorem rq_X9_roll_49 {lo : Lo} {st : List Value} {h : Hp} {Q : Option Value → Hp → Prop} : Run 94 49 lo st h Q = Cnt 94 Q (xo_getf 9 6 52 lo st h) := run_s rfl
theorem rq_X9_roll_52 {lo : Lo} {st : List Value} {h : Hp} {Q : Option Value → Hp → Prop} : Run 94 52 lo st h Q = Cnt 94 Q (xo_getf 2 0 55 lo st h) := run_s rfl
theorem rq_X9_roll_55 {lo : Lo} {st : List Value} {h : Hp} {Q : Option Value → Hp → Prop} : Run 94 55 lo st h Q = Cnt 94 Q (xo_iload 1 56 lo st h) := run_s rfl
theorem rq_X9_roll_56 {lo : Lo} {st : List Value} {h : Hp} {Q : Option Value → Hp → Prop} : Run 94 56 lo st h Q = Cnt 94 Q (xo_iald 57 lo st h) := run_s rfl
theorem rq_X9_roll_57 {lo : Lo} {st : List Value} {h : Hp} {Q : Option Value → Hp → Prop} : Run 94 57 lo st h Q = CCall 190 1 none st h (Knt 94 60 lo (st.drop 1) Q) := run_c rfl
theorem rq_X9_roll_60 {lo : Lo} {st : List Value} {h : Hp} {Q : Option Value → Hp → Prop} : Run 94 60 lo st h Q = Cnt 94 Q (xo_iret lo st h) := run_s rfl
theorem rq_X9_seen_0 {lo : Lo} {st : List Value} {h : Hp} {Q : Option Value → Hp → Prop} : Run 95 0 lo st h Q = Cnt 95 Q (xo_aload 0 1 lo st h) := run_s rfl
theorem rq_X9_seen_1 {lo : Lo} {st : List Value} {h : Hp} {Q : Option Value → Hp → Prop} : Run 95 1 lo st h Q = Cnt 95 Q (xo_getf 9 6 4 lo st h) := run_s rfl
theorem rq_X9_seen_4 {lo : Lo} {st : List Value} {h : Hp} {Q : Option Value → Hp → Prop} : Run 95 4 lo st h Q = Cnt 95 Q (xo_iload 1 5 lo st h) := run_s rfl
theorem rq_X9_seen_5 {lo : Lo} {st : List Value} {h : Hp} {Q : Option Value → Hp → Prop} : Run 95 5 lo st h Q = CCall 12 2 (some 2) st h (Knt 95 8 lo (st.drop 2) Q) := run_c rfl
theorem rq_X9_seen_8 {lo : Lo} {st : List Value} {h : Hp} {Q : Option Value → Hp → Prop} : Run 95 8 lo st h Q = Cnt 95 Q (xo_istore 2 9 lo st h) := run_s rfl
theorem rq_X9_seen_9 {lo : Lo} {st : List Value} {h : Hp} {Q : Option Value → Hp → Prop} : Run 95 9 lo st h Q = Cnt 95 Q (xo_iload 2 10 lo st h) := run_s rfl
theorem rq_X9_seen_10 {lo : Lo} {st : List Value} {h : Hp} {Q : Option Value → Hp → Prop} : Run 95 10 lo st h Q = Cnt 95 Q (xo_if1 (fun x => decide (x = 0)) 18 13 lo st h) := run_s rfl
theorem rq_X9_seen_13 {lo : Lo} {st : List Value} {h : Hp} {Q : Option Value → Hp → Prop} : Run 95 13 lo st h Q = Cnt 95 Q (xo_iload 2 14 lo st h) := run_s rfl
theorem rq_X9_seen_14 {lo : Lo} {st : List Value} {h : Hp} {Q : Option Value → Hp → Prop} : Run 95 14 lo st h Q = Cnt 95 Q (xo_i2l 15 lo st h) := run_s rfl
theorem rq_X9_seen_15 {lo : Lo} {st : List Value} {h : Hp} {Q : Option Value → Hp → Prop} : Run 95 15 lo st h Q = Cnt 95 Q (xo_goto 30 lo st h) := run_s rfl
theorem rq_X9_seen_18 {lo : Lo} {st : List Value} {h : Hp} {Q : Option Value → Hp → Prop} : Run 95 18 lo st h Q = Cnt 95 Q (xo_aload 0 19 lo st h) := run_s rfl
theorem rq_X9_seen_19 {lo : Lo} {st : List Value} {h : Hp} {Q : Option Value → Hp → Prop} : Run 95 19 lo st h Q = Cnt 95 Q (xo_getf 9 6 22 lo st h) := run_s rfl
theorem rq_X9_seen_22 {lo : Lo} {st : List Value} {h : Hp} {Q : Option Value → Hp → Prop} : Run 95 22 lo st h Q = Cnt 95 Q (xo_getf 2 0 25 lo st h) := run_s rfl
theorem rq_X9_seen_25 {lo : Lo} {st : List Value} {h : Hp} {Q : Option Value → Hp → Prop} : Run 95 25 lo st h Q = Cnt 95 Q (xo_iload 1 26 lo st h) := run_s rfl
theorem rq_X9_seen_26 {lo : Lo} {st : List Value} {h : Hp} {Q : Option Value → Hp → Prop} : Run 95 26 lo st h Q = Cnt 95 Q (xo_iald 27 lo st h) := run_s rfl
theorem rq_X9_seen_27 {lo : Lo} {st : List Value} {h : Hp} {Q : Option Value → Hp → Prop} : Run 95 27 lo st h Q = CCall 99 1 none st h (Knt 95 30 lo (st.drop 1) Q) := run_c rfl
theorem rq_X9_seen_30 {lo : Lo} {st : List Value} {h : Hp} {Q : Option Value → Hp → Prop} : Run 95 30 lo st h Q = Cnt 95 Q (xo_lret lo st h) := run_s rfl
theorem rq_X9_spoil_0 {lo : Lo} {st : List Value} {h : Hp} {Q : Option Value → Hp → Prop} : Run 96 0 lo st h Q = Cnt 96 Q (xo_aload 0 1 lo st h) := run_s rfl
theorem rq_X9_spoil_1 {lo : Lo} {st : List Value} {h : Hp} {Q : Option Value → Hp → Prop} : Run 96 1 lo st h Q = Cnt 96 Q (xo_getf 9 6 4 lo st h) := run_s rfl
theorem rq_X9_spoil_4 {lo : Lo} {st : List Value} {h : Hp} {Q : Option Value → Hp → Prop} : Run 96 4 lo st h Q = Cnt 96 Q (xo_getf 2 1 7 lo st h) := run_s rfl
theorem rq_X9_spoil_7 {lo : Lo} {st : List Value} {h : Hp} {Q : Option Value → Hp → Prop} : Run 96 7 lo st h Q = Cnt 96 Q (xo_istore 1 8 lo st h) := run_s rfl
theorem rq_X9_spoil_8 {lo : Lo} {st : List Value} {h : Hp} {Q : Option Value → Hp → Prop} : Run 96 8 lo st h Q = Cnt 96 Q (xo_aload 0 9 lo st h) := run_s rfl
theorem rq_X9_spoil_9 {lo : Lo} {st : List Value} {h : Hp} {Q : Option Value → Hp → Prop} : Run 96 9 lo st h Q = Cnt 96 Q (xo_getf 9 6 12 lo st h) := run_s rfl
theorem rq_X9_spoil_12 {lo : Lo} {st : List Value} {h : Hp} {Q : Option Value → Hp → Prop} : Run 96 12 lo st h Q = CCall 11 1 (some 2) st h (Knt 96 15 lo (st.drop 1) Q) := run_c rfl
theorem rq_X9_spoil_15 {lo : Lo} {st : List Value} {h : Hp} {Q : Option Value → Hp → Prop} : Run 96 15 lo st h Q = Cnt 96 Q (xo_iload 1 16 lo st h) := run_s rfl
theorem rq_X9_spoil_16 {lo : Lo} {st : List Value} {h : Hp} {Q : Option Value → Hp → Prop} : Run 96 16 lo st h Q = Cnt 96 Q (xo_iret lo st h) := run_s rfl
theorem rq_X9_many_0 {lo : Lo} {st : List Value} {h : Hp} {Q : Option Value → Hp → Prop} : Run 97 0 lo st h Q = Cnt 97 Q (xo_iload 1 1 lo st h) := run_s rfl
theorem rq_X9_many_1 {lo : Lo} {st : List Value} {h : Hp} {Q : Option Value → Hp → Prop} : Run 97 1 lo st h Q = Cnt 97 Q (xo_sw (xtab 1 88 0 5 #[39, 47, 55, 63, 71, 83]) lo st h) := run_s rfl
theorem rq_X9_many_40 {lo : Lo} {st : List Value} {h : Hp} {Q : Option Value → Hp → Prop} : Run 97 40 lo st h Q = Cnt 97 Q (xo_aload 0 41 lo st h) := run_s rfl
theorem rq_X9_many_41 {lo : Lo} {st : List Value} {h : Hp} {Q : Option Value → Hp → Prop} : Run 97 41 lo st h Q = Cnt 97 Q (xo_getf 9 3 44 lo st h) := run_s rfl
theorem rq_X9_many_44 {lo : Lo} {st : List Value} {h : Hp} {Q : Option Value → Hp → Prop} : Run 97 44 lo st h Q = Cnt 97 Q (xo_getf 5 2 47 lo st h) := run_s rfl
theorem rq_X9_many_47 {lo : Lo} {st : List Value} {h : Hp} {Q : Option Value → Hp → Prop} : Run 97 47 lo st h Q = Cnt 97 Q (xo_iret lo st h) := run_s rfl
theorem rq_X9_many_48 {lo : Lo} {st : List Value} {h : Hp} {Q : Option Value → Hp → Prop} : Run 97 48 lo st h Q = Cnt 97 Q (xo_aload 0 49 lo st h) := run_s rfl
theorem rq_X9_many_49 {lo : Lo} {st : List Value} {h : Hp} {Q : Option Value → Hp → Prop} : Run 97 49 lo st h Q = Cnt 97 Q (xo_getf 9 4 52 lo st h) := run_s rfl
theorem rq_X9_many_52 {lo : Lo} {st : List Value} {h : Hp} {Q : Option Value → Hp → Prop} : Run 97 52 lo st h Q = Cnt 97 Q (xo_getf 6 1 55 lo st h) := run_s rfl
theorem rq_X9_many_55 {lo : Lo} {st : List Value} {h : Hp} {Q : Option Value → Hp → Prop} : Run 97 55 lo st h Q = Cnt 97 Q (xo_iret lo st h) := run_s rfl
theorem rq_X9_many_56 {lo : Lo} {st : List Value} {h : Hp} {Q : Option Value → Hp → Prop} : Run 97 56 lo st h Q = Cnt 97 Q (xo_aload 0 57 lo st h) := run_s rfl
theorem rq_X9_many_57 {lo : Lo} {st : List Value} {h : Hp} {Q : Option Value → Hp → Prop} : Run 97 57 lo st h Q = Cnt 97 Q (xo_getf 9 4 60 lo st h) := run_s rfl
theorem rq_X9_many_60 {lo : Lo} {st : List Value} {h : Hp} {Q : Option Value → Hp → Prop} : Run 97 60 lo st h Q = CCall 35 1 (some 6) st h (Knt 97 63 lo (st.drop 1) Q) := run_c rfl
theorem rq_X9_many_63 {lo : Lo} {st : List Value} {h : Hp} {Q : Option Value → Hp → Prop} : Run 97 63 lo st h Q = Cnt 97 Q (xo_iret lo st h) := run_s rfl
theorem rq_X9_many_64 {lo : Lo} {st : List Value} {h : Hp} {Q : Option Value → Hp → Prop} : Run 97 64 lo st h Q = Cnt 97 Q (xo_aload 0 65 lo st h) := run_s rfl
theorem rq_X9_many_65 {lo : Lo} {st : List Value} {h : Hp} {Q : Option Value → Hp → Prop} : Run 97 65 lo st h Q = Cnt 97 Q (xo_getf 9 5 68 lo st h) := run_s rfl
theorem rq_X9_many_68 {lo : Lo} {st : List Value} {h : Hp} {Q : Option Value → Hp → Prop} : Run 97 68 lo st h Q = Cnt 97 Q (xo_getf 7 1 71 lo st h) := run_s rfl
theorem rq_X9_many_71 {lo : Lo} {st : List Value} {h : Hp} {Q : Option Value → Hp → Prop} : Run 97 71 lo st h Q = Cnt 97 Q (xo_iret lo st h) := run_s rfl
theorem rq_X9_many_72 {lo : Lo} {st : List Value} {h : Hp} {Q : Option Value → Hp → Prop} : Run 97 72 lo st h Q = Cnt 97 Q (xo_aload 0 73 lo st h) := run_s rfl
theorem rq_X9_many_73 {lo : Lo} {st : List Value} {h : Hp} {Q : Option Value → Hp → Prop} : Run 97 73 lo st h Q = CCall 104 1 (some 9) st h (Knt 97 76 lo (st.drop 1) Q) := run_c rfl
theorem rq_X9_many_76 {lo : Lo} {st : List Value} {h : Hp} {Q : Option Value → Hp → Prop} : Run 97 76 lo st h Q = Cnt 97 Q (xo_aload 0 77 lo st h) := run_s rfl
theorem rq_X9_many_77 {lo : Lo} {st : List Value} {h : Hp} {Q : Option Value → Hp → Prop} : Run 97 77 lo st h Q = Cnt 97 Q (xo_getf 9 10 80 lo st h) := run_s rfl
theorem rq_X9_many_80 {lo : Lo} {st : List Value} {h : Hp} {Q : Option Value → Hp → Prop} : Run 97 80 lo st h Q = Cnt 97 Q (xo_getf 3 1 83 lo st h) := run_s rfl
theorem rq_X9_many_83 {lo : Lo} {st : List Value} {h : Hp} {Q : Option Value → Hp → Prop} : Run 97 83 lo st h Q = Cnt 97 Q (xo_iret lo st h) := run_s rfl
theorem rq_X9_many_84 {lo : Lo} {st : List Value} {h : Hp} {Q : Option Value → Hp → Prop} : Run 97 84 lo st h Q = Cnt 97 Q (xo_aload 0 85 lo st h) := run_s rfl
theorem rq_X9_many_85 {lo : Lo} {st : List Value} {h : Hp} {Q : Option Value → Hp → Prop} : Run 97 85 lo st h Q = Cnt 97 Q (xo_getf 9 2 88 lo st h) := run_s rfl
theorem rq_X9_many_88 {lo : Lo} {st : List Value} {h : Hp} {Q : Option Value → Hp → Prop} : Run 97 88 lo st h Q = Cnt 97 Q (xo_iret lo st h) := run_s rfl
theorem rq_X9_many_89 {lo : Lo} {st : List Value} {h : Hp} {Q : Option Value → Hp → Prop} : Run 97 89 lo st h Q = Cnt 97 Q (xo_const (.int (-2)) 91 lo st h) := run_s rfl
theorem rq_X9_many_91 {lo : Lo} {st : List Value} {h : Hp} {Q : Option Value → Hp → Prop} : Run 97 91 lo st h Q = Cnt 97 Q (xo_iret lo st h) := run_s rfl
theorem rq_X9_within_0 {lo : Lo} {st : List Value} {h : Hp} {Q : Option Value → Hp → Prop} : Run 98 0 lo st h Q = Cnt 98 Q (xo_iload 0 1 lo st h) := run_s rfl
theorem rq_X9_within_1 {lo : Lo} {st : List Value} {h : Hp} {Q : Option Value → Hp → Prop} : Run 98 1 lo st h Q = Cnt 98 Q (xo_iload 1 2 lo st h) := run_s rfl
theorem rq_X9_within_2 {lo : Lo} {st : List Value} {h : Hp} {Q : Option Value → Hp → Prop} : Run 98 2 lo st h Q = Cnt 98 Q (xo_if2 (fun x y => decide (x < y)) 14 5 lo st h) := run_s rfl
theorem rq_X9_within_5 {lo : Lo} {st : List Value} {h : Hp} {Q : Option Value → Hp → Prop} : Run 98 5 lo st h Q = Cnt 98 Q (xo_iload 0 6 lo st h) := run_s rfl
theorem rq_X9_within_6 {lo : Lo} {st : List Value} {h : Hp} {Q : Option Value → Hp → Prop} : Run 98 6 lo st h Q = Cnt 98 Q (xo_iload 2 7 lo st h) := run_s rfl
theorem rq_X9_within_7 {lo : Lo} {st : List Value} {h : Hp} {Q : Option Value → Hp → Prop} : Run 98 7 lo st h Q = Cnt 98 Q (xo_if2 (fun x y => decide (x > y)) 14 10 lo st h) := run_s rfl
theorem rq_X9_within_10 {lo : Lo} {st : List Value} {h : Hp} {Q : Option Value → Hp → Prop} : Run 98 10 lo st h Q = Cnt 98 Q (xo_const (.int 1) 11 lo st h) := run_s rfl
theorem rq_X9_within_11 {lo : Lo} {st : List Value} {h : Hp} {Q : Option Value → Hp → Prop} : Run 98 11 lo st h Q = Cnt 98 Q (xo_goto 15 lo st h) := run_s rfl
theorem rq_X9_within_14 {lo : Lo} {st : List Value} {h : Hp} {Q : Option Value → Hp → Prop} : Run 98 14 lo st h Q = Cnt 98 Q (xo_const (.int 0) 15 lo st h) := run_s rfl
theorem rq_X9_within_15 {lo : Lo} {st : List Value} {h : Hp} {Q : Option Value → Hp → Prop} : Run 98 15 lo st h Q = Cnt 98 Q (xo_zret lo st h) := run_s rfl
theorem rq_X9_withoutSign_0 {lo : Lo} {st : List Value} {h : Hp} {Q : Option Value → Hp → Prop} : Run 99 0 lo st h Q = Cnt 99 Q (xo_iload 0 1 lo st h) := run_s rfl
theorem rq_X9_withoutSign_1 {lo : Lo} {st : List Value} {h : Hp} {Q : Option Value → Hp → Prop} : Run 99 1 lo st h Q = Cnt 99 Q (xo_i2l 2 lo st h) := run_s rfl
theorem rq_X9_withoutSign_2 {lo : Lo} {st : List Value} {h : Hp} {Q : Option Value → Hp → Prop} : Run 99 2 lo st h Q = Cnt 99 Q (xo_const (.long 4294967295) 5 lo st h) := run_s rfl
theorem rq_X9_withoutSign_5 {lo : Lo} {st : List Value} {h : Hp} {Q : Option Value → Hp → Prop} : Run 99 5 lo st h Q = Cnt 99 Q (xo_land 6 lo st h) := run_s rfl
theorem rq_X9_withoutSign_6 {lo : Lo} {st : List Value} {h : Hp} {Q : Option Value → Hp → Prop} : Run 99 6 lo st h Q = Cnt 99 Q (xo_lret lo st h) := run_s rfl
theorem rq_X9_rowsOf_0 {lo : Lo} {st : List Value} {h : Hp} {Q : Option Value → Hp → Prop} : Run 100 0 lo st h Q = Cnt 100 Q (xo_iload 1 1 lo st h) := run_s rfl
theorem rq_X9_rowsOf_1 {lo : Lo} {st : List Value} {h : Hp} {Q : Option Value → Hp → Prop} : Run 100 1 lo st h Q = Cnt 100 Q (xo_const (.int (-1)) 2 lo st h) := run_s rfl
theorem rq_X9_rowsOf_2 {lo : Lo} {st : List Value} {h : Hp} {Q : Option Value → Hp → Prop} : Run 100 2 lo st h Q = Cnt 100 Q (xo_if2 (fun x y => decide (¬ x = y)) 10 5 lo st h) := run_s rfl
theorem rq_X9_rowsOf_5 {lo : Lo} {st : List Value} {h : Hp} {Q : Option Value → Hp → Prop} : Run 100 5 lo st h Q = Cnt 100 Q (xo_aload 0 6 lo st h) := run_s rfl
theorem rq_X9_rowsOf_6 {lo : Lo} {st : List Value} {h : Hp} {Q : Option Value → Hp → Prop} : Run 100 6 lo st h Q = CCall 101 1 (some 9) st h (Knt 100 9 lo (st.drop 1) Q) := run_c rfl
theorem rq_X9_rowsOf_9 {lo : Lo} {st : List Value} {h : Hp} {Q : Option Value → Hp → Prop} : Run 100 9 lo st h Q = Cnt 100 Q (xo_aret lo st h) := run_s rfl
theorem rq_X9_rowsOf_10 {lo : Lo} {st : List Value} {h : Hp} {Q : Option Value → Hp → Prop} : Run 100 10 lo st h Q = Cnt 100 Q (xo_aload 0 11 lo st h) := run_s rfl
theorem rq_X9_rowsOf_11 {lo : Lo} {st : List Value} {h : Hp} {Q : Option Value → Hp → Prop} : Run 100 11 lo st h Q = Cnt 100 Q (xo_getf 9 4 14 lo st h) := run_s rfl
theorem rq_X9_rowsOf_14 {lo : Lo} {st : List Value} {h : Hp} {Q : Option Value → Hp → Prop} : Run 100 14 lo st h Q = Cnt 100 Q (xo_iload 1 15 lo st h) := run_s rfl
theorem rq_X9_rowsOf_15 {lo : Lo} {st : List Value} {h : Hp} {Q : Option Value → Hp → Prop} : Run 100 15 lo st h Q = CCall 29 2 (some 6) st h (Knt 100 18 lo (st.drop 2) Q) := run_c rfl
theorem rq_X9_rowsOf_18 {lo : Lo} {st : List Value} {h : Hp} {Q : Option Value → Hp → Prop} : Run 100 18 lo st h Q = Cnt 100 Q (xo_astore 2 19 lo st h) := run_s rfl
theorem rq_X9_rowsOf_19 {lo : Lo} {st : List Value} {h : Hp} {Q : Option Value → Hp → Prop} : Run 100 19 lo st h Q = Cnt 100 Q (xo_aload 2 20 lo st h) := run_s rfl
theorem rq_X9_rowsOf_20 {lo : Lo} {st : List Value} {h : Hp} {Q : Option Value → Hp → Prop} : Run 100 20 lo st h Q = Cnt 100 Q (xo_null 23 27 lo st h) := run_s rfl
theorem rq_X9_rowsOf_23 {lo : Lo} {st : List Value} {h : Hp} {Q : Option Value → Hp → Prop} : Run 100 23 lo st h Q = Cnt 100 Q (xo_const .null 24 lo st h) := run_s rfl
theorem rq_X9_rowsOf_24 {lo : Lo} {st : List Value} {h : Hp} {Q : Option Value → Hp → Prop} : Run 100 24 lo st h Q = Cnt 100 Q (xo_goto 31 lo st h) := run_s rfl
theorem rq_X9_rowsOf_27 {lo : Lo} {st : List Value} {h : Hp} {Q : Option Value → Hp → Prop} : Run 100 27 lo st h Q = Cnt 100 Q (xo_aload 2 28 lo st h) := run_s rfl
theorem rq_X9_rowsOf_28 {lo : Lo} {st : List Value} {h : Hp} {Q : Option Value → Hp → Prop} : Run 100 28 lo st h Q = Cnt 100 Q (xo_getf 8 5 31 lo st h) := run_s rfl
theorem rq_X9_rowsOf_31 {lo : Lo} {st : List Value} {h : Hp} {Q : Option Value → Hp → Prop} : Run 100 31 lo st h Q = Cnt 100 Q (xo_aret lo st h) := run_s rfl
theorem rq_X9_gatherSheet_0 {lo : Lo} {st : List Value} {h : Hp} {Q : Option Value → Hp → Prop} : Run 101 0 lo st h Q = Cnt 101 Q (xo_aload 0 1 lo st h) := run_s rfl
theorem rq_X9_gatherSheet_1 {lo : Lo} {st : List Value} {h : Hp} {Q : Option Value → Hp → Prop} : Run 101 1 lo st h Q = Cnt 101 Q (xo_getf 9 4 4 lo st h) := run_s rfl
theorem rq_X9_gatherSheet_4 {lo : Lo} {st : List Value} {h : Hp} {Q : Option Value → Hp → Prop} : Run 101 4 lo st h Q = Cnt 101 Q (xo_aload 0 5 lo st h) := run_s rfl
theorem rq_X9_gatherSheet_5 {lo : Lo} {st : List Value} {h : Hp} {Q : Option Value → Hp → Prop} : Run 101 5 lo st h Q = Cnt 101 Q (xo_getf 9 7 8 lo st h) := run_s rfl
theorem rq_X9_gatherSheet_8 {lo : Lo} {st : List Value} {h : Hp} {Q : Option Value → Hp → Prop} : Run 101 8 lo st h Q = CCall 34 2 (some 6) st h (Knt 101 11 lo (st.drop 2) Q) := run_c rfl
theorem rq_X9_gatherSheet_11 {lo : Lo} {st : List Value} {h : Hp} {Q : Option Value → Hp → Prop} : Run 101 11 lo st h Q = Cnt 101 Q (xo_aload 0 12 lo st h) := run_s rfl
theorem rq_X9_gatherSheet_12 {lo : Lo} {st : List Value} {h : Hp} {Q : Option Value → Hp → Prop} : Run 101 12 lo st h Q = Cnt 101 Q (xo_getf 9 7 15 lo st h) := run_s rfl
theorem rq_X9_gatherSheet_15 {lo : Lo} {st : List Value} {h : Hp} {Q : Option Value → Hp → Prop} : Run 101 15 lo st h Q = Cnt 101 Q (xo_aret lo st h) := run_s rfl
theorem rq_X9_gatherLetter_0 {lo : Lo} {st : List Value} {h : Hp} {Q : Option Value → Hp → Prop} : Run 102 0 lo st h Q = Cnt 102 Q (xo_aload 1 1 lo st h) := run_s rfl
theorem rq_X9_gatherLetter_1 {lo : Lo} {st : List Value} {h : Hp} {Q : Option Value → Hp → Prop} : Run 102 1 lo st h Q = Cnt 102 Q (xo_aload 0 2 lo st h) := run_s rfl
theorem rq_X9_gatherLetter_2 {lo : Lo} {st : List Value} {h : Hp} {Q : Option Value → Hp → Prop} : Run 102 2 lo st h Q = Cnt 102 Q (xo_getf 9 8 5 lo st h) := run_s rfl
theorem rq_X9_gatherLetter_5 {lo : Lo} {st : List Value} {h : Hp} {Q : Option Value → Hp → Prop} : Run 102 5 lo st h Q = CCall 34 2 (some 6) st h (Knt 102 8 lo (st.drop 2) Q) := run_c rfl
theorem rq_X9_gatherLetter_8 {lo : Lo} {st : List Value} {h : Hp} {Q : Option Value → Hp → Prop} : Run 102 8 lo st h Q = Cnt 102 Q (xo_aload 0 9 lo st h) := run_s rfl
theorem rq_X9_gatherLetter_9 {lo : Lo} {st : List Value} {h : Hp} {Q : Option Value → Hp → Prop} : Run 102 9 lo st h Q = Cnt 102 Q (xo_getf 9 8 12 lo st h) := run_s rfl
theorem rq_X9_gatherLetter_12 {lo : Lo} {st : List Value} {h : Hp} {Q : Option Value → Hp → Prop} : Run 102 12 lo st h Q = Cnt 102 Q (xo_aret lo st h) := run_s rfl
theorem rq_X9_countKindsOf_0 {lo : Lo} {st : List Value} {h : Hp} {Q : Option Value → Hp → Prop} : Run 103 0 lo st h Q = Cnt 103 Q (xo_aload 0 1 lo st h) := run_s rfl
theorem rq_X9_countKindsOf_1 {lo : Lo} {st : List Value} {h : Hp} {Q : Option Value → Hp → Prop} : Run 103 1 lo st h Q = Cnt 103 Q (xo_getf 9 10 4 lo st h) := run_s rfl
theorem rq_X9_countKindsOf_4 {lo : Lo} {st : List Value} {h : Hp} {Q : Option Value → Hp → Prop} : Run 103 4 lo st h Q = CCall 15 1 (some 3) st h (Knt 103 7 lo (st.drop 1) Q) := run_c rfl
theorem rq_X9_countKindsOf_7 {lo : Lo} {st : List Value} {h : Hp} {Q : Option Value → Hp → Prop} : Run 103 7 lo st h Q = Cnt 103 Q (xo_aload 0 8 lo st h) := run_s rfl
theorem rq_X9_countKindsOf_8 {lo : Lo} {st : List Value} {h : Hp} {Q : Option Value → Hp → Prop} : Run 103 8 lo st h Q = Cnt 103 Q (xo_getf 9 10 11 lo st h) := run_s rfl
theorem rq_X9_countKindsOf_11 {lo : Lo} {st : List Value} {h : Hp} {Q : Option Value → Hp → Prop} : Run 103 11 lo st h Q = Cnt 103 Q (xo_aload 1 12 lo st h) := run_s rfl
theorem rq_X9_countKindsOf_12 {lo : Lo} {st : List Value} {h : Hp} {Q : Option Value → Hp → Prop} : Run 103 12 lo st h Q = Cnt 103 Q (xo_aload 0 13 lo st h) := run_s rfl
theorem rq_X9_countKindsOf_13 {lo : Lo} {st : List Value} {h : Hp} {Q : Option Value → Hp → Prop} : Run 103 13 lo st h Q = Cnt 103 Q (xo_getf 9 2 16 lo st h) := run_s rfl
theorem rq_X9_countKindsOf_16 {lo : Lo} {st : List Value} {h : Hp} {Q : Option Value → Hp → Prop} : Run 103 16 lo st h Q = CCall 16 3 (some 3) st h (Knt 103 19 lo (st.drop 3) Q) := run_c rfl
theorem rq_X9_countKindsOf_19 {lo : Lo} {st : List Value} {h : Hp} {Q : Option Value → Hp → Prop} : Run 103 19 lo st h Q = Cnt 103 Q (xo_aload 0 20 lo st h) := run_s rfl
theorem rq_X9_countKindsOf_20 {lo : Lo} {st : List Value} {h : Hp} {Q : Option Value → Hp → Prop} : Run 103 20 lo st h Q = Cnt 103 Q (xo_getf 9 10 23 lo st h) := run_s rfl
theorem rq_X9_countKindsOf_23 {lo : Lo} {st : List Value} {h : Hp} {Q : Option Value → Hp → Prop} : Run 103 23 lo st h Q = Cnt 103 Q (xo_getf 3 1 26 lo st h) := run_s rfl
theorem rq_X9_countKindsOf_26 {lo : Lo} {st : List Value} {h : Hp} {Q : Option Value → Hp → Prop} : Run 103 26 lo st h Q = Cnt 103 Q (xo_iret lo st h) := run_s rfl
theorem rq_X9_gatherAllKinds_0 {lo : Lo} {st : List Value} {h : Hp} {Q : Option Value → Hp → Prop} : Run 104 0 lo st h Q = Cnt 104 Q (xo_aload 0 1 lo st h) := run_s rfl
theorem rq_X9_gatherAllKinds_1 {lo : Lo} {st : List Value} {h : Hp} {Q : Option Value → Hp → Prop} : Run 104 1 lo st h Q = Cnt 104 Q (xo_getf 9 10 4 lo st h) := run_s rfl
theorem rq_X9_gatherAllKinds_4 {lo : Lo} {st : List Value} {h : Hp} {Q : Option Value → Hp → Prop} : Run 104 4 lo st h Q = CCall 15 1 (some 3) st h (Knt 104 7 lo (st.drop 1) Q) := run_c rfl
theorem rq_X9_gatherAllKinds_7 {lo : Lo} {st : List Value} {h : Hp} {Q : Option Value → Hp → Prop} : Run 104 7 lo st h Q = Cnt 104 Q (xo_aload 0 8 lo st h) := run_s rfl
theorem rq_X9_gatherAllKinds_8 {lo : Lo} {st : List Value} {h : Hp} {Q : Option Value → Hp → Prop} : Run 104 8 lo st h Q = Cnt 104 Q (xo_getf 9 10 11 lo st h) := run_s rfl
theorem rq_X9_gatherAllKinds_11 {lo : Lo} {st : List Value} {h : Hp} {Q : Option Value → Hp → Prop} : Run 104 11 lo st h Q = Cnt 104 Q (xo_aload 0 12 lo st h) := run_s rfl
theorem rq_X9_gatherAllKinds_12 {lo : Lo} {st : List Value} {h : Hp} {Q : Option Value → Hp → Prop} : Run 104 12 lo st h Q = Cnt 104 Q (xo_getf 9 4 15 lo st h) := run_s rfl
theorem rq_X9_gatherAllKinds_15 {lo : Lo} {st : List Value} {h : Hp} {Q : Option Value → Hp → Prop} : Run 104 15 lo st h Q = Cnt 104 Q (xo_aload 0 16 lo st h) := run_s rfl
theorem rq_X9_gatherAllKinds_16 {lo : Lo} {st : List Value} {h : Hp} {Q : Option Value → Hp → Prop} : Run 104 16 lo st h Q = Cnt 104 Q (xo_getf 9 2 19 lo st h) := run_s rfl
theorem rq_X9_gatherAllKinds_19 {lo : Lo} {st : List Value} {h : Hp} {Q : Option Value → Hp → Prop} : Run 104 19 lo st h Q = CCall 16 3 (some 3) st h (Knt 104 22 lo (st.drop 3) Q) := run_c rfl
theorem rq_X9_gatherAllKinds_22 {lo : Lo} {st : List Value} {h : Hp} {Q : Option Value → Hp → Prop} : Run 104 22 lo st h Q = Cnt 104 Q (xo_const (.int 0) 23 lo st h) := run_s rfl
theorem rq_X9_gatherAllKinds_23 {lo : Lo} {st : List Value} {h : Hp} {Q : Option Value → Hp → Prop} : Run 104 23 lo st h Q = Cnt 104 Q (xo_istore 1 24 lo st h) := run_s rfl
theorem rq_X9_gatherAllKinds_24 {lo : Lo} {st : List Value} {h : Hp} {Q : Option Value → Hp → Prop} : Run 104 24 lo st h Q = Cnt 104 Q (xo_iload 1 25 lo st h) := run_s rfl
theorem rq_X9_gatherAllKinds_25 {lo : Lo} {st : List Value} {h : Hp} {Q : Option Value → Hp → Prop} : Run 104 25 lo st h Q = Cnt 104 Q (xo_const (.int 26) 27 lo st h) := run_s rfl
theorem rq_X9_gatherAllKinds_27 {lo : Lo} {st : List Value} {h : Hp} {Q : Option Value → Hp → Prop} : Run 104 27 lo st h Q = Cnt 104 Q (xo_if2 (fun x y => decide (x ≥ y)) 61 30 lo st h) := run_s rfl
theorem rq_X9_gatherAllKinds_30 {lo : Lo} {st : List Value} {h : Hp} {Q : Option Value → Hp → Prop} : Run 104 30 lo st h Q = Cnt 104 Q (xo_aload 0 31 lo st h) := run_s rfl
theorem rq_X9_gatherAllKinds_31 {lo : Lo} {st : List Value} {h : Hp} {Q : Option Value → Hp → Prop} : Run 104 31 lo st h Q = Cnt 104 Q (xo_getf 9 5 34 lo st h) := run_s rfl
theorem rq_X9_gatherAllKinds_34 {lo : Lo} {st : List Value} {h : Hp} {Q : Option Value → Hp → Prop} : Run 104 34 lo st h Q = Cnt 104 Q (xo_iload 1 35 lo st h) := run_s rfl
theorem rq_X9_gatherAllKinds_35 {lo : Lo} {st : List Value} {h : Hp} {Q : Option Value → Hp → Prop} : Run 104 35 lo st h Q = CCall 39 2 (some 7) st h (Knt 104 38 lo (st.drop 2) Q) := run_c rfl
theorem rq_X9_gatherAllKinds_38 {lo : Lo} {st : List Value} {h : Hp} {Q : Option Value → Hp → Prop} : Run 104 38 lo st h Q = Cnt 104 Q (xo_astore 2 39 lo st h) := run_s rfl
theorem rq_X9_gatherAllKinds_39 {lo : Lo} {st : List Value} {h : Hp} {Q : Option Value → Hp → Prop} : Run 104 39 lo st h Q = Cnt 104 Q (xo_aload 2 40 lo st h) := run_s rfl
theorem rq_X9_gatherAllKinds_40 {lo : Lo} {st : List Value} {h : Hp} {Q : Option Value → Hp → Prop} : Run 104 40 lo st h Q = Cnt 104 Q (xo_null 55 43 lo st h) := run_s rfl
theorem rq_X9_gatherAllKinds_43 {lo : Lo} {st : List Value} {h : Hp} {Q : Option Value → Hp → Prop} : Run 104 43 lo st h Q = Cnt 104 Q (xo_aload 0 44 lo st h) := run_s rfl
theorem rq_X9_gatherAllKinds_44 {lo : Lo} {st : List Value} {h : Hp} {Q : Option Value → Hp → Prop} : Run 104 44 lo st h Q = Cnt 104 Q (xo_getf 9 10 47 lo st h) := run_s rfl
theorem rq_X9_gatherAllKinds_47 {lo : Lo} {st : List Value} {h : Hp} {Q : Option Value → Hp → Prop} : Run 104 47 lo st h Q = Cnt 104 Q (xo_aload 2 48 lo st h) := run_s rfl
theorem rq_X9_gatherAllKinds_48 {lo : Lo} {st : List Value} {h : Hp} {Q : Option Value → Hp → Prop} : Run 104 48 lo st h Q = Cnt 104 Q (xo_aload 0 49 lo st h) := run_s rfl
theorem rq_X9_gatherAllKinds_49 {lo : Lo} {st : List Value} {h : Hp} {Q : Option Value → Hp → Prop} : Run 104 49 lo st h Q = Cnt 104 Q (xo_getf 9 2 52 lo st h) := run_s rfl
theorem rq_X9_gatherAllKinds_52 {lo : Lo} {st : List Value} {h : Hp} {Q : Option Value → Hp → Prop} : Run 104 52 lo st h Q = CCall 16 3 (some 3) st h (Knt 104 55 lo (st.drop 3) Q) := run_c rfl
theorem rq_X9_gatherAllKinds_55 {lo : Lo} {st : List Value} {h : Hp} {Q : Option Value → Hp → Prop} : Run 104 55 lo st h Q = Cnt 104 Q (xo_iinc 1 1 58 lo st h) := run_s rfl
theorem rq_X9_gatherAllKinds_58 {lo : Lo} {st : List Value} {h : Hp} {Q : Option Value → Hp → Prop} : Run 104 58 lo st h Q = Cnt 104 Q (xo_goto 24 lo st h) := run_s rfl
theorem rq_X9_gatherAllKinds_61 {lo : Lo} {st : List Value} {h : Hp} {Q : Option Value → Hp → Prop} : Run 104 61 lo st h Q = Cnt 104 Q (xo_vret lo st h) := run_s rfl
theorem rq_X9_countBits_0 {lo : Lo} {st : List Value} {h : Hp} {Q : Option Value → Hp → Prop} : Run 105 0 lo st h Q = Cnt 105 Q (xo_const (.int 0) 1 lo st h) := run_s rfl
theorem rq_X9_countBits_1 {lo : Lo} {st : List Value} {h : Hp} {Q : Option Value → Hp → Prop} : Run 105 1 lo st h Q = Cnt 105 Q (xo_istore 1 2 lo st h) := run_s rfl
theorem rq_X9_countBits_2 {lo : Lo} {st : List Value} {h : Hp} {Q : Option Value → Hp → Prop} : Run 105 2 lo st h Q = Cnt 105 Q (xo_aload 0 3 lo st h) := run_s rfl
theorem rq_X9_countBits_3 {lo : Lo} {st : List Value} {h : Hp} {Q : Option Value → Hp → Prop} : Run 105 3 lo st h Q = Cnt 105 Q (xo_astore 2 4 lo st h) := run_s rfl
theorem rq_X9_countBits_4 {lo : Lo} {st : List Value} {h : Hp} {Q : Option Value → Hp → Prop} : Run 105 4 lo st h Q = Cnt 105 Q (xo_aload 2 5 lo st h) := run_s rfl
theorem rq_X9_countBits_5 {lo : Lo} {st : List Value} {h : Hp} {Q : Option Value → Hp → Prop} : Run 105 5 lo st h Q = Cnt 105 Q (xo_alen 6 lo st h) := run_s rfl
theorem rq_X9_countBits_6 {lo : Lo} {st : List Value} {h : Hp} {Q : Option Value → Hp → Prop} : Run 105 6 lo st h Q = Cnt 105 Q (xo_istore 3 7 lo st h) := run_s rfl
theorem rq_X9_countBits_7 {lo : Lo} {st : List Value} {h : Hp} {Q : Option Value → Hp → Prop} : Run 105 7 lo st h Q = Cnt 105 Q (xo_const (.int 0) 8 lo st h) := run_s rfl
theorem rq_X9_countBits_8 {lo : Lo} {st : List Value} {h : Hp} {Q : Option Value → Hp → Prop} : Run 105 8 lo st h Q = Cnt 105 Q (xo_istore 4 10 lo st h) := run_s rfl
theorem rq_X9_countBits_10 {lo : Lo} {st : List Value} {h : Hp} {Q : Option Value → Hp → Prop} : Run 105 10 lo st h Q = Cnt 105 Q (xo_iload 4 12 lo st h) := run_s rfl
theorem rq_X9_countBits_12 {lo : Lo} {st : List Value} {h : Hp} {Q : Option Value → Hp → Prop} : Run 105 12 lo st h Q = Cnt 105 Q (xo_iload 3 13 lo st h) := run_s rfl
theorem rq_X9_countBits_13 {lo : Lo} {st : List Value} {h : Hp} {Q : Option Value → Hp → Prop} : Run 105 13 lo st h Q = Cnt 105 Q (xo_if2 (fun x y => decide (x ≥ y)) 36 16 lo st h) := run_s rfl
theorem rq_X9_countBits_16 {lo : Lo} {st : List Value} {h : Hp} {Q : Option Value → Hp → Prop} : Run 105 16 lo st h Q = Cnt 105 Q (xo_aload 2 17 lo st h) := run_s rfl
theorem rq_X9_countBits_17 {lo : Lo} {st : List Value} {h : Hp} {Q : Option Value → Hp → Prop} : Run 105 17 lo st h Q = Cnt 105 Q (xo_iload 4 19 lo st h) := run_s rfl
theorem rq_X9_countBits_19 {lo : Lo} {st : List Value} {h : Hp} {Q : Option Value → Hp → Prop} : Run 105 19 lo st h Q = Cnt 105 Q (xo_iald 20 lo st h) := run_s rfl
theorem rq_X9_countBits_20 {lo : Lo} {st : List Value} {h : Hp} {Q : Option Value → Hp → Prop} : Run 105 20 lo st h Q = Cnt 105 Q (xo_istore 5 22 lo st h) := run_s rfl
theorem rq_X9_countBits_22 {lo : Lo} {st : List Value} {h : Hp} {Q : Option Value → Hp → Prop} : Run 105 22 lo st h Q = Cnt 105 Q (xo_iload 1 23 lo st h) := run_s rfl
theorem rq_X9_countBits_23 {lo : Lo} {st : List Value} {h : Hp} {Q : Option Value → Hp → Prop} : Run 105 23 lo st h Q = Cnt 105 Q (xo_iload 5 25 lo st h) := run_s rfl
theorem rq_X9_countBits_25 {lo : Lo} {st : List Value} {h : Hp} {Q : Option Value → Hp → Prop} : Run 105 25 lo st h Q = CCall 190 1 none st h (Knt 105 28 lo (st.drop 1) Q) := run_c rfl
theorem rq_X9_countBits_28 {lo : Lo} {st : List Value} {h : Hp} {Q : Option Value → Hp → Prop} : Run 105 28 lo st h Q = Cnt 105 Q (xo_bin (fun x y => x + y) 29 lo st h) := run_s rfl
theorem rq_X9_countBits_29 {lo : Lo} {st : List Value} {h : Hp} {Q : Option Value → Hp → Prop} : Run 105 29 lo st h Q = Cnt 105 Q (xo_istore 1 30 lo st h) := run_s rfl
theorem rq_X9_countBits_30 {lo : Lo} {st : List Value} {h : Hp} {Q : Option Value → Hp → Prop} : Run 105 30 lo st h Q = Cnt 105 Q (xo_iinc 4 1 33 lo st h) := run_s rfl
theorem rq_X9_countBits_33 {lo : Lo} {st : List Value} {h : Hp} {Q : Option Value → Hp → Prop} : Run 105 33 lo st h Q = Cnt 105 Q (xo_goto 10 lo st h) := run_s rfl
theorem rq_X9_countBits_36 {lo : Lo} {st : List Value} {h : Hp} {Q : Option Value → Hp → Prop} : Run 105 36 lo st h Q = Cnt 105 Q (xo_iload 1 37 lo st h) := run_s rfl
theorem rq_X9_countBits_37 {lo : Lo} {st : List Value} {h : Hp} {Q : Option Value → Hp → Prop} : Run 105 37 lo st h Q = Cnt 105 Q (xo_iret lo st h) := run_s rfl
theorem rq_X9_columnsOf_0 {lo : Lo} {st : List Value} {h : Hp} {Q : Option Value → Hp → Prop} : Run 106 0 lo st h Q = Cnt 106 Q (xo_const (.int 0) 1 lo st h) := run_s rfl
theorem rq_X9_columnsOf_1 {lo : Lo} {st : List Value} {h : Hp} {Q : Option Value → Hp → Prop} : Run 106 1 lo st h Q = Cnt 106 Q (xo_istore 1 2 lo st h) := run_s rfl
theorem rq_X9_columnsOf_2 {lo : Lo} {st : List Value} {h : Hp} {Q : Option Value → Hp → Prop} : Run 106 2 lo st h Q = Cnt 106 Q (xo_aload 0 3 lo st h) := run_s rfl
theorem rq_X9_columnsOf_3 {lo : Lo} {st : List Value} {h : Hp} {Q : Option Value → Hp → Prop} : Run 106 3 lo st h Q = Cnt 106 Q (xo_astore 2 4 lo st h) := run_s rfl
theorem rq_X9_columnsOf_4 {lo : Lo} {st : List Value} {h : Hp} {Q : Option Value → Hp → Prop} : Run 106 4 lo st h Q = Cnt 106 Q (xo_aload 2 5 lo st h) := run_s rfl
theorem rq_X9_columnsOf_5 {lo : Lo} {st : List Value} {h : Hp} {Q : Option Value → Hp → Prop} : Run 106 5 lo st h Q = Cnt 106 Q (xo_alen 6 lo st h) := run_s rfl
theorem rq_X9_columnsOf_6 {lo : Lo} {st : List Value} {h : Hp} {Q : Option Value → Hp → Prop} : Run 106 6 lo st h Q = Cnt 106 Q (xo_istore 3 7 lo st h) := run_s rfl
theorem rq_X9_columnsOf_7 {lo : Lo} {st : List Value} {h : Hp} {Q : Option Value → Hp → Prop} : Run 106 7 lo st h Q = Cnt 106 Q (xo_const (.int 0) 8 lo st h) := run_s rfl
theorem rq_X9_columnsOf_8 {lo : Lo} {st : List Value} {h : Hp} {Q : Option Value → Hp → Prop} : Run 106 8 lo st h Q = Cnt 106 Q (xo_istore 4 10 lo st h) := run_s rfl
theorem rq_X9_columnsOf_10 {lo : Lo} {st : List Value} {h : Hp} {Q : Option Value → Hp → Prop} : Run 106 10 lo st h Q = Cnt 106 Q (xo_iload 4 12 lo st h) := run_s rfl
theorem rq_X9_columnsOf_12 {lo : Lo} {st : List Value} {h : Hp} {Q : Option Value → Hp → Prop} : Run 106 12 lo st h Q = Cnt 106 Q (xo_iload 3 13 lo st h) := run_s rfl
theorem rq_X9_columnsOf_13 {lo : Lo} {st : List Value} {h : Hp} {Q : Option Value → Hp → Prop} : Run 106 13 lo st h Q = Cnt 106 Q (xo_if2 (fun x y => decide (x ≥ y)) 33 16 lo st h) := run_s rfl
theorem rq_X9_columnsOf_16 {lo : Lo} {st : List Value} {h : Hp} {Q : Option Value → Hp → Prop} : Run 106 16 lo st h Q = Cnt 106 Q (xo_aload 2 17 lo st h) := run_s rfl
theorem rq_X9_columnsOf_17 {lo : Lo} {st : List Value} {h : Hp} {Q : Option Value → Hp → Prop} : Run 106 17 lo st h Q = Cnt 106 Q (xo_iload 4 19 lo st h) := run_s rfl
theorem rq_X9_columnsOf_19 {lo : Lo} {st : List Value} {h : Hp} {Q : Option Value → Hp → Prop} : Run 106 19 lo st h Q = Cnt 106 Q (xo_iald 20 lo st h) := run_s rfl
theorem rq_X9_columnsOf_20 {lo : Lo} {st : List Value} {h : Hp} {Q : Option Value → Hp → Prop} : Run 106 20 lo st h Q = Cnt 106 Q (xo_istore 5 22 lo st h) := run_s rfl
theorem rq_X9_columnsOf_22 {lo : Lo} {st : List Value} {h : Hp} {Q : Option Value → Hp → Prop} : Run 106 22 lo st h Q = Cnt 106 Q (xo_iload 1 23 lo st h) := run_s rfl
theorem rq_X9_columnsOf_23 {lo : Lo} {st : List Value} {h : Hp} {Q : Option Value → Hp → Prop} : Run 106 23 lo st h Q = Cnt 106 Q (xo_iload 5 25 lo st h) := run_s rfl
theorem rq_X9_columnsOf_25 {lo : Lo} {st : List Value} {h : Hp} {Q : Option Value → Hp → Prop} : Run 106 25 lo st h Q = Cnt 106 Q (xo_bin (fun x y => x ||| y) 26 lo st h) := run_s rfl
theorem rq_X9_columnsOf_26 {lo : Lo} {st : List Value} {h : Hp} {Q : Option Value → Hp → Prop} : Run 106 26 lo st h Q = Cnt 106 Q (xo_istore 1 27 lo st h) := run_s rfl
theorem rq_X9_columnsOf_27 {lo : Lo} {st : List Value} {h : Hp} {Q : Option Value → Hp → Prop} : Run 106 27 lo st h Q = Cnt 106 Q (xo_iinc 4 1 30 lo st h) := run_s rfl
theorem rq_X9_columnsOf_30 {lo : Lo} {st : List Value} {h : Hp} {Q : Option Value → Hp → Prop} : Run 106 30 lo st h Q = Cnt 106 Q (xo_goto 10 lo st h) := run_s rfl
theorem rq_X9_columnsOf_33 {lo : Lo} {st : List Value} {h : Hp} {Q : Option Value → Hp → Prop} : Run 106 33 lo st h Q = Cnt 106 Q (xo_iload 1 34 lo st h) := run_s rfl
theorem rq_X9_columnsOf_34 {lo : Lo} {st : List Value} {h : Hp} {Q : Option Value → Hp → Prop} : Run 106 34 lo st h Q = Cnt 106 Q (xo_iret lo st h) := run_s rfl
theorem rq_X9_leastX_0 {lo : Lo} {st : List Value} {h : Hp} {Q : Option Value → Hp → Prop} : Run 107 0 lo st h Q = Cnt 107 Q (xo_aload 0 1 lo st h) := run_s rfl
theorem rq_X9_leastX_1 {lo : Lo} {st : List Value} {h : Hp} {Q : Option Value → Hp → Prop} : Run 107 1 lo st h Q = CCall 106 1 none st h (Knt 107 4 lo (st.drop 1) Q) := run_c rfl
theorem rq_X9_leastX_4 {lo : Lo} {st : List Value} {h : Hp} {Q : Option Value → Hp → Prop} : Run 107 4 lo st h Q = Cnt 107 Q (xo_istore 1 5 lo st h) := run_s rfl
theorem rq_X9_leastX_5 {lo : Lo} {st : List Value} {h : Hp} {Q : Option Value → Hp → Prop} : Run 107 5 lo st h Q = Cnt 107 Q (xo_const (.int 0) 6 lo st h) := run_s rfl
theorem rq_X9_leastX_6 {lo : Lo} {st : List Value} {h : Hp} {Q : Option Value → Hp → Prop} : Run 107 6 lo st h Q = Cnt 107 Q (xo_istore 2 7 lo st h) := run_s rfl
theorem rq_X9_leastX_7 {lo : Lo} {st : List Value} {h : Hp} {Q : Option Value → Hp → Prop} : Run 107 7 lo st h Q = Cnt 107 Q (xo_iload 2 8 lo st h) := run_s rfl
theorem rq_X9_leastX_8 {lo : Lo} {st : List Value} {h : Hp} {Q : Option Value → Hp → Prop} : Run 107 8 lo st h Q = Cnt 107 Q (xo_const (.int 32) 10 lo st h) := run_s rfl
theorem rq_X9_leastX_10 {lo : Lo} {st : List Value} {h : Hp} {Q : Option Value → Hp → Prop} : Run 107 10 lo st h Q = Cnt 107 Q (xo_if2 (fun x y => decide (x ≥ y)) 29 13 lo st h) := run_s rfl
theorem rq_X9_leastX_13 {lo : Lo} {st : List Value} {h : Hp} {Q : Option Value → Hp → Prop} : Run 107 13 lo st h Q = Cnt 107 Q (xo_iload 1 14 lo st h) := run_s rfl
theorem rq_X9_leastX_14 {lo : Lo} {st : List Value} {h : Hp} {Q : Option Value → Hp → Prop} : Run 107 14 lo st h Q = Cnt 107 Q (xo_iload 2 15 lo st h) := run_s rfl
theorem rq_X9_leastX_15 {lo : Lo} {st : List Value} {h : Hp} {Q : Option Value → Hp → Prop} : Run 107 15 lo st h Q = Cnt 107 Q (xo_bin (fun x y => (x.toUInt32 >>> (y.toUInt32 &&& Int32.toUInt32 31)).toInt32) 16 lo st h) := run_s rfl
theorem rq_X9_leastX_16 {lo : Lo} {st : List Value} {h : Hp} {Q : Option Value → Hp → Prop} : Run 107 16 lo st h Q = Cnt 107 Q (xo_const (.int 1) 17 lo st h) := run_s rfl
theorem rq_X9_leastX_17 {lo : Lo} {st : List Value} {h : Hp} {Q : Option Value → Hp → Prop} : Run 107 17 lo st h Q = Cnt 107 Q (xo_bin (fun x y => x &&& y) 18 lo st h) := run_s rfl
theorem rq_X9_leastX_18 {lo : Lo} {st : List Value} {h : Hp} {Q : Option Value → Hp → Prop} : Run 107 18 lo st h Q = Cnt 107 Q (xo_if1 (fun x => decide (x = 0)) 23 21 lo st h) := run_s rfl
theorem rq_X9_leastX_21 {lo : Lo} {st : List Value} {h : Hp} {Q : Option Value → Hp → Prop} : Run 107 21 lo st h Q = Cnt 107 Q (xo_iload 2 22 lo st h) := run_s rfl
theorem rq_X9_leastX_22 {lo : Lo} {st : List Value} {h : Hp} {Q : Option Value → Hp → Prop} : Run 107 22 lo st h Q = Cnt 107 Q (xo_iret lo st h) := run_s rfl
theorem rq_X9_leastX_23 {lo : Lo} {st : List Value} {h : Hp} {Q : Option Value → Hp → Prop} : Run 107 23 lo st h Q = Cnt 107 Q (xo_iinc 2 1 26 lo st h) := run_s rfl
theorem rq_X9_leastX_26 {lo : Lo} {st : List Value} {h : Hp} {Q : Option Value → Hp → Prop} : Run 107 26 lo st h Q = Cnt 107 Q (xo_goto 7 lo st h) := run_s rfl
theorem rq_X9_leastX_29 {lo : Lo} {st : List Value} {h : Hp} {Q : Option Value → Hp → Prop} : Run 107 29 lo st h Q = Cnt 107 Q (xo_const (.int (-9)) 31 lo st h) := run_s rfl
theorem rq_X9_leastX_31 {lo : Lo} {st : List Value} {h : Hp} {Q : Option Value → Hp → Prop} : Run 107 31 lo st h Q = Cnt 107 Q (xo_iret lo st h) := run_s rfl
theorem rq_X9_greatestX_0 {lo : Lo} {st : List Value} {h : Hp} {Q : Option Value → Hp → Prop} : Run 108 0 lo st h Q = Cnt 108 Q (xo_aload 0 1 lo st h) := run_s rfl
theorem rq_X9_greatestX_1 {lo : Lo} {st : List Value} {h : Hp} {Q : Option Value → Hp → Prop} : Run 108 1 lo st h Q = CCall 106 1 none st h (Knt 108 4 lo (st.drop 1) Q) := run_c rfl
theorem rq_X9_greatestX_4 {lo : Lo} {st : List Value} {h : Hp} {Q : Option Value → Hp → Prop} : Run 108 4 lo st h Q = Cnt 108 Q (xo_istore 1 5 lo st h) := run_s rfl
theorem rq_X9_greatestX_5 {lo : Lo} {st : List Value} {h : Hp} {Q : Option Value → Hp → Prop} : Run 108 5 lo st h Q = Cnt 108 Q (xo_const (.int 31) 7 lo st h) := run_s rfl
theorem rq_X9_greatestX_7 {lo : Lo} {st : List Value} {h : Hp} {Q : Option Value → Hp → Prop} : Run 108 7 lo st h Q = Cnt 108 Q (xo_istore 2 8 lo st h) := run_s rfl
theorem rq_X9_greatestX_8 {lo : Lo} {st : List Value} {h : Hp} {Q : Option Value → Hp → Prop} : Run 108 8 lo st h Q = Cnt 108 Q (xo_iload 2 9 lo st h) := run_s rfl
theorem rq_X9_greatestX_9 {lo : Lo} {st : List Value} {h : Hp} {Q : Option Value → Hp → Prop} : Run 108 9 lo st h Q = Cnt 108 Q (xo_if1 (fun x => decide (x < 0)) 28 12 lo st h) := run_s rfl
theorem rq_X9_greatestX_12 {lo : Lo} {st : List Value} {h : Hp} {Q : Option Value → Hp → Prop} : Run 108 12 lo st h Q = Cnt 108 Q (xo_iload 1 13 lo st h) := run_s rfl
theorem rq_X9_greatestX_13 {lo : Lo} {st : List Value} {h : Hp} {Q : Option Value → Hp → Prop} : Run 108 13 lo st h Q = Cnt 108 Q (xo_iload 2 14 lo st h) := run_s rfl
theorem rq_X9_greatestX_14 {lo : Lo} {st : List Value} {h : Hp} {Q : Option Value → Hp → Prop} : Run 108 14 lo st h Q = Cnt 108 Q (xo_bin (fun x y => (x.toUInt32 >>> (y.toUInt32 &&& Int32.toUInt32 31)).toInt32) 15 lo st h) := run_s rfl
theorem rq_X9_greatestX_15 {lo : Lo} {st : List Value} {h : Hp} {Q : Option Value → Hp → Prop} : Run 108 15 lo st h Q = Cnt 108 Q (xo_const (.int 1) 16 lo st h) := run_s rfl
theorem rq_X9_greatestX_16 {lo : Lo} {st : List Value} {h : Hp} {Q : Option Value → Hp → Prop} : Run 108 16 lo st h Q = Cnt 108 Q (xo_bin (fun x y => x &&& y) 17 lo st h) := run_s rfl
theorem rq_X9_greatestX_17 {lo : Lo} {st : List Value} {h : Hp} {Q : Option Value → Hp → Prop} : Run 108 17 lo st h Q = Cnt 108 Q (xo_if1 (fun x => decide (x = 0)) 22 20 lo st h) := run_s rfl
theorem rq_X9_greatestX_20 {lo : Lo} {st : List Value} {h : Hp} {Q : Option Value → Hp → Prop} : Run 108 20 lo st h Q = Cnt 108 Q (xo_iload 2 21 lo st h) := run_s rfl
theorem rq_X9_greatestX_21 {lo : Lo} {st : List Value} {h : Hp} {Q : Option Value → Hp → Prop} : Run 108 21 lo st h Q = Cnt 108 Q (xo_iret lo st h) := run_s rfl
theorem rq_X9_greatestX_22 {lo : Lo} {st : List Value} {h : Hp} {Q : Option Value → Hp → Prop} : Run 108 22 lo st h Q = Cnt 108 Q (xo_iinc 2 (-1) 25 lo st h) := run_s rfl
theorem rq_X9_greatestX_25 {lo : Lo} {st : List Value} {h : Hp} {Q : Option Value → Hp → Prop} : Run 108 25 lo st h Q = Cnt 108 Q (xo_goto 8 lo st h) := run_s rfl
theorem rq_X9_greatestX_28 {lo : Lo} {st : List Value} {h : Hp} {Q : Option Value → Hp → Prop} : Run 108 28 lo st h Q = Cnt 108 Q (xo_const (.int (-9)) 30 lo st h) := run_s rfl
theorem rq_X9_greatestX_30 {lo : Lo} {st : List Value} {h : Hp} {Q : Option Value → Hp → Prop} : Run 108 30 lo st h Q = Cnt 108 Q (xo_iret lo st h) := run_s rfl
theorem rq_X9_greatestDivisor_0 {lo : Lo} {st : List Value} {h : Hp} {Q : Option Value → Hp → Prop} : Run 109 0 lo st h Q = Cnt 109 Q (xo_iload 0 1 lo st h) := run_s rfl
theorem rq_X9_greatestDivisor_1 {lo : Lo} {st : List Value} {h : Hp} {Q : Option Value → Hp → Prop} : Run 109 1 lo st h Q = Cnt 109 Q (xo_istore 2 2 lo st h) := run_s rfl
theorem rq_X9_greatestDivisor_2 {lo : Lo} {st : List Value} {h : Hp} {Q : Option Value → Hp → Prop} : Run 109 2 lo st h Q = Cnt 109 Q (xo_iload 1 3 lo st h) := run_s rfl
theorem rq_X9_greatestDivisor_3 {lo : Lo} {st : List Value} {h : Hp} {Q : Option Value → Hp → Prop} : Run 109 3 lo st h Q = Cnt 109 Q (xo_istore 3 4 lo st h) := run_s rfl
theorem rq_X9_greatestDivisor_4 {lo : Lo} {st : List Value} {h : Hp} {Q : Option Value → Hp → Prop} : Run 109 4 lo st h Q = Cnt 109 Q (xo_const (.int 0) 5 lo st h) := run_s rfl
theorem rq_X9_greatestDivisor_5 {lo : Lo} {st : List Value} {h : Hp} {Q : Option Value → Hp → Prop} : Run 109 5 lo st h Q = Cnt 109 Q (xo_istore 4 7 lo st h) := run_s rfl
theorem rq_X9_greatestDivisor_7 {lo : Lo} {st : List Value} {h : Hp} {Q : Option Value → Hp → Prop} : Run 109 7 lo st h Q = Cnt 109 Q (xo_iload 4 9 lo st h) := run_s rfl
theorem rq_X9_greatestDivisor_9 {lo : Lo} {st : List Value} {h : Hp} {Q : Option Value → Hp → Prop} : Run 109 9 lo st h Q = Cnt 109 Q (xo_const (.int 64) 11 lo st h) := run_s rfl
theorem rq_X9_greatestDivisor_11 {lo : Lo} {st : List Value} {h : Hp} {Q : Option Value → Hp → Prop} : Run 109 11 lo st h Q = Cnt 109 Q (xo_if2 (fun x y => decide (x ≥ y)) 34 14 lo st h) := run_s rfl
theorem rq_X9_greatestDivisor_14 {lo : Lo} {st : List Value} {h : Hp} {Q : Option Value → Hp → Prop} : Run 109 14 lo st h Q = Cnt 109 Q (xo_iload 3 15 lo st h) := run_s rfl
theorem rq_X9_greatestDivisor_15 {lo : Lo} {st : List Value} {h : Hp} {Q : Option Value → Hp → Prop} : Run 109 15 lo st h Q = Cnt 109 Q (xo_if1 (fun x => decide (x = 0)) 34 18 lo st h) := run_s rfl
theorem rq_X9_greatestDivisor_18 {lo : Lo} {st : List Value} {h : Hp} {Q : Option Value → Hp → Prop} : Run 109 18 lo st h Q = Cnt 109 Q (xo_iload 2 19 lo st h) := run_s rfl
theorem rq_X9_greatestDivisor_19 {lo : Lo} {st : List Value} {h : Hp} {Q : Option Value → Hp → Prop} : Run 109 19 lo st h Q = Cnt 109 Q (xo_iload 3 20 lo st h) := run_s rfl
theorem rq_X9_greatestDivisor_20 {lo : Lo} {st : List Value} {h : Hp} {Q : Option Value → Hp → Prop} : Run 109 20 lo st h Q = Cnt 109 Q (xo_div (fun x y => x - x / y * y) 21 lo st h) := run_s rfl
theorem rq_X9_greatestDivisor_21 {lo : Lo} {st : List Value} {h : Hp} {Q : Option Value → Hp → Prop} : Run 109 21 lo st h Q = Cnt 109 Q (xo_istore 5 23 lo st h) := run_s rfl
theorem rq_X9_greatestDivisor_23 {lo : Lo} {st : List Value} {h : Hp} {Q : Option Value → Hp → Prop} : Run 109 23 lo st h Q = Cnt 109 Q (xo_iload 3 24 lo st h) := run_s rfl
theorem rq_X9_greatestDivisor_24 {lo : Lo} {st : List Value} {h : Hp} {Q : Option Value → Hp → Prop} : Run 109 24 lo st h Q = Cnt 109 Q (xo_istore 2 25 lo st h) := run_s rfl
theorem rq_X9_greatestDivisor_25 {lo : Lo} {st : List Value} {h : Hp} {Q : Option Value → Hp → Prop} : Run 109 25 lo st h Q = Cnt 109 Q (xo_iload 5 27 lo st h) := run_s rfl
theorem rq_X9_greatestDivisor_27 {lo : Lo} {st : List Value} {h : Hp} {Q : Option Value → Hp → Prop} : Run 109 27 lo st h Q = Cnt 109 Q (xo_istore 3 28 lo st h) := run_s rfl
theorem rq_X9_greatestDivisor_28 {lo : Lo} {st : List Value} {h : Hp} {Q : Option Value → Hp → Prop} : Run 109 28 lo st h Q = Cnt 109 Q (xo_iinc 4 1 31 lo st h) := run_s rfl
theorem rq_X9_greatestDivisor_31 {lo : Lo} {st : List Value} {h : Hp} {Q : Option Value → Hp → Prop} : Run 109 31 lo st h Q = Cnt 109 Q (xo_goto 7 lo st h) := run_s rfl
theorem rq_X9_greatestDivisor_34 {lo : Lo} {st : List Value} {h : Hp} {Q : Option Value → Hp → Prop} : Run 109 34 lo st h Q = Cnt 109 Q (xo_iload 2 35 lo st h) := run_s rfl
theorem rq_X9_greatestDivisor_35 {lo : Lo} {st : List Value} {h : Hp} {Q : Option Value → Hp → Prop} : Run 109 35 lo st h Q = Cnt 109 Q (xo_iret lo st h) := run_s rfl
theorem rq_J6_bitCount_0f7a4_0 {lo : Lo} {st : List Value} {h : Hp} {Q : Option Value → Hp → Prop} : Run 190 0 lo st h Q = Cnt 190 Q (xo_iload 0 1 lo st h) := run_s rfl
theorem rq_J6_bitCount_0f7a4_1 {lo : Lo} {st : List Value} {h : Hp} {Q : Option Value → Hp → Prop} : Run 190 1 lo st h Q = Cnt 190 Q (xo_iload 0 2 lo st h) := run_s rfl
theorem rq_J6_bitCount_0f7a4_2 {lo : Lo} {st : List Value} {h : Hp} {Q : Option Value → Hp → Prop} : Run 190 2 lo st h Q = Cnt 190 Q (xo_const (.int 1) 3 lo st h) := run_s rfl
theorem rq_J6_bitCount_0f7a4_3 {lo : Lo} {st : List Value} {h : Hp} {Q : Option Value → Hp → Prop} : Run 190 3 lo st h Q = Cnt 190 Q (xo_bin (fun x y => (x.toUInt32 >>> (y.toUInt32 &&& Int32.toUInt32 31)).toInt32) 4 lo st h) := run_s rfl
theorem rq_J6_bitCount_0f7a4_4 {lo : Lo} {st : List Value} {h : Hp} {Q : Option Value → Hp → Prop} : Run 190 4 lo st h Q = Cnt 190 Q (xo_const (.int 1431655765) 7 lo st h) := run_s rfl
theorem rq_J6_bitCount_0f7a4_7 {lo : Lo} {st : List Value} {h : Hp} {Q : Option Value → Hp → Prop} : Run 190 7 lo st h Q = Cnt 190 Q (xo_bin (fun x y => x &&& y) 8 lo st h) := run_s rfl
theorem rq_J6_bitCount_0f7a4_8 {lo : Lo} {st : List Value} {h : Hp} {Q : Option Value → Hp → Prop} : Run 190 8 lo st h Q = Cnt 190 Q (xo_bin (fun x y => x - y) 9 lo st h) := run_s rfl
theorem rq_J6_bitCount_0f7a4_9 {lo : Lo} {st : List Value} {h : Hp} {Q : Option Value → Hp → Prop} : Run 190 9 lo st h Q = Cnt 190 Q (xo_istore 0 10 lo st h) := run_s rfl
theorem rq_J6_bitCount_0f7a4_10 {lo : Lo} {st : List Value} {h : Hp} {Q : Option Value → Hp → Prop} : Run 190 10 lo st h Q = Cnt 190 Q (xo_iload 0 11 lo st h) := run_s rfl
theorem rq_J6_bitCount_0f7a4_11 {lo : Lo} {st : List Value} {h : Hp} {Q : Option Value → Hp → Prop} : Run 190 11 lo st h Q = Cnt 190 Q (xo_const (.int 858993459) 14 lo st h) := run_s rfl
theorem rq_J6_bitCount_0f7a4_14 {lo : Lo} {st : List Value} {h : Hp} {Q : Option Value → Hp → Prop} : Run 190 14 lo st h Q = Cnt 190 Q (xo_bin (fun x y => x &&& y) 15 lo st h) := run_s rfl
theorem rq_J6_bitCount_0f7a4_15 {lo : Lo} {st : List Value} {h : Hp} {Q : Option Value → Hp → Prop} : Run 190 15 lo st h Q = Cnt 190 Q (xo_iload 0 16 lo st h) := run_s rfl
theorem rq_J6_bitCount_0f7a4_16 {lo : Lo} {st : List Value} {h : Hp} {Q : Option Value → Hp → Prop} : Run 190 16 lo st h Q = Cnt 190 Q (xo_const (.int 2) 17 lo st h) := run_s rfl
theorem rq_J6_bitCount_0f7a4_17 {lo : Lo} {st : List Value} {h : Hp} {Q : Option Value → Hp → Prop} : Run 190 17 lo st h Q = Cnt 190 Q (xo_bin (fun x y => (x.toUInt32 >>> (y.toUInt32 &&& Int32.toUInt32 31)).toInt32) 18 lo st h) := run_s rfl
theorem rq_J6_bitCount_0f7a4_18 {lo : Lo} {st : List Value} {h : Hp} {Q : Option Value → Hp → Prop} : Run 190 18 lo st h Q = Cnt 190 Q (xo_const (.int 858993459) 21 lo st h) := run_s rfl
theorem rq_J6_bitCount_0f7a4_21 {lo : Lo} {st : List Value} {h : Hp} {Q : Option Value → Hp → Prop} : Run 190 21 lo st h Q = Cnt 190 Q (xo_bin (fun x y => x &&& y) 22 lo st h) := run_s rfl
theorem rq_J6_bitCount_0f7a4_22 {lo : Lo} {st : List Value} {h : Hp} {Q : Option Value → Hp → Prop} : Run 190 22 lo st h Q = Cnt 190 Q (xo_bin (fun x y => x + y) 23 lo st h) := run_s rfl
theorem rq_J6_bitCount_0f7a4_23 {lo : Lo} {st : List Value} {h : Hp} {Q : Option Value → Hp → Prop} : Run 190 23 lo st h Q = Cnt 190 Q (xo_istore 0 24 lo st h) := run_s rfl
theorem rq_J6_bitCount_0f7a4_24 {lo : Lo} {st : List Value} {h : Hp} {Q : Option Value → Hp → Prop} : Run 190 24 lo st h Q = Cnt 190 Q (xo_iload 0 25 lo st h) := run_s rfl
theorem rq_J6_bitCount_0f7a4_25 {lo : Lo} {st : List Value} {h : Hp} {Q : Option Value → Hp → Prop} : Run 190 25 lo st h Q = Cnt 190 Q (xo_iload 0 26 lo st h) := run_s rfl
theorem rq_J6_bitCount_0f7a4_26 {lo : Lo} {st : List Value} {h : Hp} {Q : Option Value → Hp → Prop} : Run 190 26 lo st h Q = Cnt 190 Q (xo_const (.int 4) 27 lo st h) := run_s rfl
theorem rq_J6_bitCount_0f7a4_27 {lo : Lo} {st : List Value} {h : Hp} {Q : Option Value → Hp → Prop} : Run 190 27 lo st h Q = Cnt 190 Q (xo_bin (fun x y => (x.toUInt32 >>> (y.toUInt32 &&& Int32.toUInt32 31)).toInt32) 28 lo st h) := run_s rfl
theorem rq_J6_bitCount_0f7a4_28 {lo : Lo} {st : List Value} {h : Hp} {Q : Option Value → Hp → Prop} : Run 190 28 lo st h Q = Cnt 190 Q (xo_bin (fun x y => x + y) 29 lo st h) := run_s rfl
theorem rq_J6_bitCount_0f7a4_29 {lo : Lo} {st : List Value} {h : Hp} {Q : Option Value → Hp → Prop} : Run 190 29 lo st h Q = Cnt 190 Q (xo_const (.int 252645135) 32 lo st h) := run_s rfl
theorem rq_J6_bitCount_0f7a4_32 {lo : Lo} {st : List Value} {h : Hp} {Q : Option Value → Hp → Prop} : Run 190 32 lo st h Q = Cnt 190 Q (xo_bin (fun x y => x &&& y) 33 lo st h) := run_s rfl
theorem rq_J6_bitCount_0f7a4_33 {lo : Lo} {st : List Value} {h : Hp} {Q : Option Value → Hp → Prop} : Run 190 33 lo st h Q = Cnt 190 Q (xo_istore 0 34 lo st h) := run_s rfl
theorem rq_J6_bitCount_0f7a4_34 {lo : Lo} {st : List Value} {h : Hp} {Q : Option Value → Hp → Prop} : Run 190 34 lo st h Q = Cnt 190 Q (xo_iload 0 35 lo st h) := run_s rfl
theorem rq_J6_bitCount_0f7a4_35 {lo : Lo} {st : List Value} {h : Hp} {Q : Option Value → Hp → Prop} : Run 190 35 lo st h Q = Cnt 190 Q (xo_iload 0 36 lo st h) := run_s rfl
theorem rq_J6_bitCount_0f7a4_36 {lo : Lo} {st : List Value} {h : Hp} {Q : Option Value → Hp → Prop} : Run 190 36 lo st h Q = Cnt 190 Q (xo_const (.int 8) 38 lo st h) := run_s rfl
theorem rq_J6_bitCount_0f7a4_38 {lo : Lo} {st : List Value} {h : Hp} {Q : Option Value → Hp → Prop} : Run 190 38 lo st h Q = Cnt 190 Q (xo_bin (fun x y => (x.toUInt32 >>> (y.toUInt32 &&& Int32.toUInt32 31)).toInt32) 39 lo st h) := run_s rfl
theorem rq_J6_bitCount_0f7a4_39 {lo : Lo} {st : List Value} {h : Hp} {Q : Option Value → Hp → Prop} : Run 190 39 lo st h Q = Cnt 190 Q (xo_bin (fun x y => x + y) 40 lo st h) := run_s rfl
theorem rq_J6_bitCount_0f7a4_40 {lo : Lo} {st : List Value} {h : Hp} {Q : Option Value → Hp → Prop} : Run 190 40 lo st h Q = Cnt 190 Q (xo_istore 0 41 lo st h) := run_s rfl
theorem rq_J6_bitCount_0f7a4_41 {lo : Lo} {st : List Value} {h : Hp} {Q : Option Value → Hp → Prop} : Run 190 41 lo st h Q = Cnt 190 Q (xo_iload 0 42 lo st h) := run_s rfl
theorem rq_J6_bitCount_0f7a4_42 {lo : Lo} {st : List Value} {h : Hp} {Q : Option Value → Hp → Prop} : Run 190 42 lo st h Q = Cnt 190 Q (xo_iload 0 43 lo st h) := run_s rfl
theorem rq_J6_bitCount_0f7a4_43 {lo : Lo} {st : List Value} {h : Hp} {Q : Option Value → Hp → Prop} : Run 190 43 lo st h Q = Cnt 190 Q (xo_const (.int 16) 45 lo st h) := run_s rfl
theorem rq_J6_bitCount_0f7a4_45 {lo : Lo} {st : List Value} {h : Hp} {Q : Option Value → Hp → Prop} : Run 190 45 lo st h Q = Cnt 190 Q (xo_bin (fun x y => (x.toUInt32 >>> (y.toUInt32 &&& Int32.toUInt32 31)).toInt32) 46 lo st h) := run_s rfl
theorem rq_J6_bitCount_0f7a4_46 {lo : Lo} {st : List Value} {h : Hp} {Q : Option Value → Hp → Prop} : Run 190 46 lo st h Q = Cnt 190 Q (xo_bin (fun x y => x + y) 47 lo st h) := run_s rfl
theorem rq_J6_bitCount_0f7a4_47 {lo : Lo} {st : List Value} {h : Hp} {Q : Option Value → Hp → Prop} : Run 190 47 lo st h Q = Cnt 190 Q (xo_istore 0 48 lo st h) := run_s rfl
theorem rq_J6_bitCount_0f7a4_48 {lo : Lo} {st : List Value} {h : Hp} {Q : Option Value → Hp → Prop} : Run 190 48 lo st h Q = Cnt 190 Q (xo_iload 0 49 lo st h) := run_s rfl
theorem rq_J6_bitCount_0f7a4_49 {lo : Lo} {st : List Value} {h : Hp} {Q : Option Value → Hp → Prop} : Run 190 49 lo st h Q = Cnt 190 Q (xo_const (.int 63) 51 lo st h) := run_s rfl
theorem rq_J6_bitCount_0f7a4_51 {lo : Lo} {st : List Value} {h : Hp} {Q : Option Value → Hp → Prop} : Run 190 51 lo st h Q = Cnt 190 Q (xo_bin (fun x y => x &&& y) 52 lo st h) := run_s rfl
theorem rq_J6_bitCount_0f7a4_52 {lo : Lo} {st : List Value} {h : Hp} {Q : Option Value → Hp → Prop} : Run 190 52 lo st h Q = Cnt 190 Q (xo_iret lo st h) := run_s rfl
theorem rq_J9_abs_0f7a4_0 {lo : Lo} {st : List Value} {h : Hp} {Q : Option Value → Hp → Prop} : Run 191 0 lo st h Q = Cnt 191 Q (xo_iload 0 1 lo st h) := run_s rfl
theorem rq_J9_abs_0f7a4_1 {lo : Lo} {st : List Value} {h : Hp} {Q : Option Value → Hp → Prop} : Run 191 1 lo st h Q = Cnt 191 Q (xo_if1 (fun x => decide (x ≥ 0)) 9 4 lo st h) := run_s rfl
theorem rq_J9_abs_0f7a4_4 {lo : Lo} {st : List Value} {h : Hp} {Q : Option Value → Hp → Prop} : Run 191 4 lo st h Q = Cnt 191 Q (xo_iload 0 5 lo st h) := run_s rfl
theorem rq_J9_abs_0f7a4_5 {lo : Lo} {st : List Value} {h : Hp} {Q : Option Value → Hp → Prop} : Run 191 5 lo st h Q = Cnt 191 Q (xo_un (fun x => -x) 6 lo st h) := run_s rfl
theorem rq_J9_abs_0f7a4_6 {lo : Lo} {st : List Value} {h : Hp} {Q : Option Value → Hp → Prop} : Run 191 6 lo st h Q = Cnt 191 Q (xo_goto 10 lo st h) := run_s rfl
theorem rq_J9_abs_0f7a4_9 {lo : Lo} {st : List Value} {h : Hp} {Q : Option Value → Hp → Prop} : Run 191 9 lo st h Q = Cnt 191 Q (xo_iload 0 10 lo st h) := run_s rfl
theorem rq_J9_abs_0f7a4_10 {lo : Lo} {st : List Value} {h : Hp} {Q : Option Value → Hp → Prop} : Run 191 10 lo st h Q = Cnt 191 Q (xo_iret lo st h) := run_s rfl
theorem rq_J9_max_7cf53_0 {lo : Lo} {st : List Value} {h : Hp} {Q : Option Value → Hp → Prop} : Run 192 0 lo st h Q = Cnt 192 Q (xo_iload 0 1 lo st h) := run_s rfl
theorem rq_J9_max_7cf53_1 {lo : Lo} {st : List Value} {h : Hp} {Q : Option Value → Hp → Prop} : Run 192 1 lo st h Q = Cnt 192 Q (xo_iload 1 2 lo st h) := run_s rfl
theorem rq_J9_max_7cf53_2 {lo : Lo} {st : List Value} {h : Hp} {Q : Option Value → Hp → Prop} : Run 192 2 lo st h Q = Cnt 192 Q (xo_if2 (fun x y => decide (x < y)) 9 5 lo st h) := run_s rfl
theorem rq_J9_max_7cf53_5 {lo : Lo} {st : List Value} {h : Hp} {Q : Option Value → Hp → Prop} : Run 192 5 lo st h Q = Cnt 192 Q (xo_iload 0 6 lo st h) := run_s rfl
theorem rq_J9_max_7cf53_6 {lo : Lo} {st : List Value} {h : Hp} {Q : Option Value → Hp → Prop} : Run 192 6 lo st h Q = Cnt 192 Q (xo_goto 10 lo st h) := run_s rfl
theorem rq_J9_max_7cf53_9 {lo : Lo} {st : List Value} {h : Hp} {Q : Option Value → Hp → Prop} : Run 192 9 lo st h Q = Cnt 192 Q (xo_iload 1 10 lo st h) := run_s rfl
theorem rq_J9_max_7cf53_10 {lo : Lo} {st : List Value} {h : Hp} {Q : Option Value → Hp → Prop} : Run 192 10 lo st h Q = Cnt 192 Q (xo_iret lo st h) := run_s rfl
theorem rq_J9_min_7cf53_0 {lo : Lo} {st : List Value} {h : Hp} {Q : Option Value → Hp → Prop} : Run 193 0 lo st h Q = Cnt 193 Q (xo_iload 0 1 lo st h) := run_s rfl
theorem rq_J9_min_7cf53_1 {lo : Lo} {st : List Value} {h : Hp} {Q : Option Value → Hp → Prop} : Run 193 1 lo st h Q = Cnt 193 Q (xo_iload 1 2 lo st h) := run_s rfl
theorem rq_J9_min_7cf53_2 {lo : Lo} {st : List Value} {h : Hp} {Q : Option Value → Hp → Prop} : Run 193 2 lo st h Q = Cnt 193 Q (xo_if2 (fun x y => decide (x > y)) 9 5 lo st h) := run_s rfl
theorem rq_J9_min_7cf53_5 {lo : Lo} {st : List Value} {h : Hp} {Q : Option Value → Hp → Prop} : Run 193 5 lo st h Q = Cnt 193 Q (xo_iload 0 6 lo st h) := run_s rfl
theorem rq_J9_min_7cf53_6 {lo : Lo} {st : List Value} {h : Hp} {Q : Option Value → Hp → Prop} : Run 193 6 lo st h Q = Cnt 193 Q (xo_goto 10 lo st h) := run_s rfl
theorem rq_J9_min_7cf53_9 {lo : Lo} {st : List Value} {h : Hp} {Q : Option Value → Hp → Prop} : Run 193 9 lo st h Q = Cnt 193 Q (xo_iload 1 10 lo st h) := run_s rfl
theorem rq_J9_min_7cf53_10 {lo : Lo} {st : List Value} {h : Hp} {Q : Option Value → Hp → Prop} : Run 193 10 lo st h Q = Cnt 193 Q (xo_iret lo st h) := run_s rfl
theorem rq_J7_fill_53178_0 {lo : Lo} {st : List Value} {h : Hp} {Q : Option Value → Hp → Prop} : Run 194 0 lo st h Q = Cnt 194 Q (xo_const (.int 0) 1 lo st h) := run_s rfl
theorem rq_J7_fill_53178_1 {lo : Lo} {st : List Value} {h : Hp} {Q : Option Value → Hp → Prop} : Run 194 1 lo st h Q = Cnt 194 Q (xo_istore 2 2 lo st h) := run_s rfl
theorem rq_J7_fill_53178_2 {lo : Lo} {st : List Value} {h : Hp} {Q : Option Value → Hp → Prop} : Run 194 2 lo st h Q = Cnt 194 Q (xo_aload 0 3 lo st h) := run_s rfl
theorem rq_J7_fill_53178_3 {lo : Lo} {st : List Value} {h : Hp} {Q : Option Value → Hp → Prop} : Run 194 3 lo st h Q = Cnt 194 Q (xo_alen 4 lo st h) := run_s rfl
theorem rq_J7_fill_53178_4 {lo : Lo} {st : List Value} {h : Hp} {Q : Option Value → Hp → Prop} : Run 194 4 lo st h Q = Cnt 194 Q (xo_istore 3 5 lo st h) := run_s rfl
theorem rq_J7_fill_53178_5 {lo : Lo} {st : List Value} {h : Hp} {Q : Option Value → Hp → Prop} : Run 194 5 lo st h Q = Cnt 194 Q (xo_iload 2 6 lo st h) := run_s rfl
theorem rq_J7_fill_53178_6 {lo : Lo} {st : List Value} {h : Hp} {Q : Option Value → Hp → Prop} : Run 194 6 lo st h Q = Cnt 194 Q (xo_iload 3 7 lo st h) := run_s rfl
theorem rq_J7_fill_53178_7 {lo : Lo} {st : List Value} {h : Hp} {Q : Option Value → Hp → Prop} : Run 194 7 lo st h Q = Cnt 194 Q (xo_if2 (fun x y => decide (x ≥ y)) 20 10 lo st h) := run_s rfl
theorem rq_J7_fill_53178_10 {lo : Lo} {st : List Value} {h : Hp} {Q : Option Value → Hp → Prop} : Run 194 10 lo st h Q = Cnt 194 Q (xo_aload 0 11 lo st h) := run_s rfl
theorem rq_J7_fill_53178_11 {lo : Lo} {st : List Value} {h : Hp} {Q : Option Value → Hp → Prop} : Run 194 11 lo st h Q = Cnt 194 Q (xo_iload 2 12 lo st h) := run_s rfl
theorem rq_J7_fill_53178_12 {lo : Lo} {st : List Value} {h : Hp} {Q : Option Value → Hp → Prop} : Run 194 12 lo st h Q = Cnt 194 Q (xo_iload 1 13 lo st h) := run_s rfl
theorem rq_J7_fill_53178_13 {lo : Lo} {st : List Value} {h : Hp} {Q : Option Value → Hp → Prop} : Run 194 13 lo st h Q = Cnt 194 Q (xo_iast 14 lo st h) := run_s rfl
theorem rq_J7_fill_53178_14 {lo : Lo} {st : List Value} {h : Hp} {Q : Option Value → Hp → Prop} : Run 194 14 lo st h Q = Cnt 194 Q (xo_iinc 2 1 17 lo st h) := run_s rfl
theorem rq_J7_fill_53178_17 {lo : Lo} {st : List Value} {h : Hp} {Q : Option Value → Hp → Prop} : Run 194 17 lo st h Q = Cnt 194 Q (xo_goto 5 lo st h) := run_s rfl
theorem rq_J7_fill_53178_20 {lo : Lo} {st : List Value} {h : Hp} {Q : Option Value → Hp → Prop} : Run 194 20 lo st h Q = Cnt 194 Q (xo_vret lo st h) := run_s rfl
theorem rq_J7_copyOf_59c91_0 {lo : Lo} {st : List Value} {h : Hp} {Q : Option Value → Hp → Prop} : Run 195 0 lo st h Q = Cnt 195 Q (xo_iload 1 1 lo st h) := run_s rfl
theorem rq_J7_copyOf_59c91_1 {lo : Lo} {st : List Value} {h : Hp} {Q : Option Value → Hp → Prop} : Run 195 1 lo st h Q = Cnt 195 Q (xo_aload 0 2 lo st h) := run_s rfl
theorem rq_J7_copyOf_59c91_2 {lo : Lo} {st : List Value} {h : Hp} {Q : Option Value → Hp → Prop} : Run 195 2 lo st h Q = Cnt 195 Q (xo_alen 3 lo st h) := run_s rfl
theorem rq_J7_copyOf_59c91_3 {lo : Lo} {st : List Value} {h : Hp} {Q : Option Value → Hp → Prop} : Run 195 3 lo st h Q = Cnt 195 Q (xo_if2 (fun x y => decide (¬ x = y)) 14 6 lo st h) := run_s rfl
theorem rq_J7_copyOf_59c91_6 {lo : Lo} {st : List Value} {h : Hp} {Q : Option Value → Hp → Prop} : Run 195 6 lo st h Q = Cnt 195 Q (xo_aload 0 7 lo st h) := run_s rfl
theorem rq_J7_copyOf_59c91_7 {lo : Lo} {st : List Value} {h : Hp} {Q : Option Value → Hp → Prop} : Run 195 7 lo st h Q = Cnt 195 Q (xo_clone 10 lo st h) := run_s rfl
theorem rq_J7_copyOf_59c91_10 {lo : Lo} {st : List Value} {h : Hp} {Q : Option Value → Hp → Prop} : Run 195 10 lo st h Q = Cnt 195 Q (xo_cast 13 lo st h) := run_s rfl
theorem rq_J7_copyOf_59c91_13 {lo : Lo} {st : List Value} {h : Hp} {Q : Option Value → Hp → Prop} : Run 195 13 lo st h Q = Cnt 195 Q (xo_aret lo st h) := run_s rfl
theorem rq_J7_copyOf_59c91_14 {lo : Lo} {st : List Value} {h : Hp} {Q : Option Value → Hp → Prop} : Run 195 14 lo st h Q = Cnt 195 Q (xo_iload 1 15 lo st h) := run_s rfl
theorem rq_J7_copyOf_59c91_15 {lo : Lo} {st : List Value} {h : Hp} {Q : Option Value → Hp → Prop} : Run 195 15 lo st h Q = Cnt 195 Q (xo_newi 0 17 lo st h) := run_s rfl
theorem rq_J7_copyOf_59c91_17 {lo : Lo} {st : List Value} {h : Hp} {Q : Option Value → Hp → Prop} : Run 195 17 lo st h Q = Cnt 195 Q (xo_astore 2 18 lo st h) := run_s rfl
theorem rq_J7_copyOf_59c91_18 {lo : Lo} {st : List Value} {h : Hp} {Q : Option Value → Hp → Prop} : Run 195 18 lo st h Q = Cnt 195 Q (xo_aload 0 19 lo st h) := run_s rfl
theorem rq_J7_copyOf_59c91_19 {lo : Lo} {st : List Value} {h : Hp} {Q : Option Value → Hp → Prop} : Run 195 19 lo st h Q = Cnt 195 Q (xo_const (.int 0) 20 lo st h) := run_s rfl
theorem rq_J7_copyOf_59c91_20 {lo : Lo} {st : List Value} {h : Hp} {Q : Option Value → Hp → Prop} : Run 195 20 lo st h Q = Cnt 195 Q (xo_aload 2 21 lo st h) := run_s rfl
theorem rq_J7_copyOf_59c91_21 {lo : Lo} {st : List Value} {h : Hp} {Q : Option Value → Hp → Prop} : Run 195 21 lo st h Q = Cnt 195 Q (xo_const (.int 0) 22 lo st h) := run_s rfl
theorem rq_J7_copyOf_59c91_22 {lo : Lo} {st : List Value} {h : Hp} {Q : Option Value → Hp → Prop} : Run 195 22 lo st h Q = Cnt 195 Q (xo_aload 0 23 lo st h) := run_s rfl
theorem rq_J7_copyOf_59c91_23 {lo : Lo} {st : List Value} {h : Hp} {Q : Option Value → Hp → Prop} : Run 195 23 lo st h Q = Cnt 195 Q (xo_alen 24 lo st h) := run_s rfl
theorem rq_J7_copyOf_59c91_24 {lo : Lo} {st : List Value} {h : Hp} {Q : Option Value → Hp → Prop} : Run 195 24 lo st h Q = Cnt 195 Q (xo_iload 1 25 lo st h) := run_s rfl
theorem rq_J7_copyOf_59c91_25 {lo : Lo} {st : List Value} {h : Hp} {Q : Option Value → Hp → Prop} : Run 195 25 lo st h Q = Cnt 195 Q (xo_m2 (fun x y => if y < x then y else x) 28 lo st h) := run_s rfl
theorem rq_J7_copyOf_59c91_31 {lo : Lo} {st : List Value} {h : Hp} {Q : Option Value → Hp → Prop} : Run 195 31 lo st h Q = Cnt 195 Q (xo_aload 2 32 lo st h) := run_s rfl
theorem rq_J7_copyOf_59c91_32 {lo : Lo} {st : List Value} {h : Hp} {Q : Option Value → Hp → Prop} : Run 195 32 lo st h Q = Cnt 195 Q (xo_aret lo st h) := run_s rfl
