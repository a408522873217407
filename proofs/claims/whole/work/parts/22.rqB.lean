/-! equations, place by place -/
theorem rq_X10_init_0 {lo : Lo} {st : List Value} {h : Hp} {Q : Option Value → Hp → Prop} : Run 110 0 lo st h Q = Cnt 110 Q (xo_aload 0 1 lo st h) := run_s rfl
theorem rq_X10_init_1 {lo : Lo} {st : List Value} {h : Hp} {Q : Option Value → Hp → Prop} : Run 110 1 lo st h Q = Cnt 110 Q (xo_oinit 4 lo st h) := run_s rfl
theorem rq_X10_init_4 {lo : Lo} {st : List Value} {h : Hp} {Q : Option Value → Hp → Prop} : Run 110 4 lo st h Q = Cnt 110 Q (xo_aload 0 5 lo st h) := run_s rfl
theorem rq_X10_init_5 {lo : Lo} {st : List Value} {h : Hp} {Q : Option Value → Hp → Prop} : Run 110 5 lo st h Q = Cnt 110 Q (xo_const (.int 2) 6 lo st h) := run_s rfl
theorem rq_X10_init_6 {lo : Lo} {st : List Value} {h : Hp} {Q : Option Value → Hp → Prop} : Run 110 6 lo st h Q = Cnt 110 Q (xo_putf 10 0 true 9 lo st h) := run_s rfl
theorem rq_X10_init_9 {lo : Lo} {st : List Value} {h : Hp} {Q : Option Value → Hp → Prop} : Run 110 9 lo st h Q = Cnt 110 Q (xo_aload 0 10 lo st h) := run_s rfl
theorem rq_X10_init_10 {lo : Lo} {st : List Value} {h : Hp} {Q : Option Value → Hp → Prop} : Run 110 10 lo st h Q = Cnt 110 Q (xo_const (.int (-2)) 12 lo st h) := run_s rfl
theorem rq_X10_init_12 {lo : Lo} {st : List Value} {h : Hp} {Q : Option Value → Hp → Prop} : Run 110 12 lo st h Q = Cnt 110 Q (xo_putf 10 1 true 15 lo st h) := run_s rfl
theorem rq_X10_init_15 {lo : Lo} {st : List Value} {h : Hp} {Q : Option Value → Hp → Prop} : Run 110 15 lo st h Q = Cnt 110 Q (xo_aload 0 16 lo st h) := run_s rfl
theorem rq_X10_init_16 {lo : Lo} {st : List Value} {h : Hp} {Q : Option Value → Hp → Prop} : Run 110 16 lo st h Q = Cnt 110 Q (xo_const (.int 8) 18 lo st h) := run_s rfl
theorem rq_X10_init_18 {lo : Lo} {st : List Value} {h : Hp} {Q : Option Value → Hp → Prop} : Run 110 18 lo st h Q = Cnt 110 Q (xo_newi 0 20 lo st h) := run_s rfl
theorem rq_X10_init_20 {lo : Lo} {st : List Value} {h : Hp} {Q : Option Value → Hp → Prop} : Run 110 20 lo st h Q = Cnt 110 Q (xo_putf 10 3 false 23 lo st h) := run_s rfl
theorem rq_X10_init_23 {lo : Lo} {st : List Value} {h : Hp} {Q : Option Value → Hp → Prop} : Run 110 23 lo st h Q = Cnt 110 Q (xo_aload 0 24 lo st h) := run_s rfl
theorem rq_X10_init_24 {lo : Lo} {st : List Value} {h : Hp} {Q : Option Value → Hp → Prop} : Run 110 24 lo st h Q = Cnt 110 Q (xo_const (.int 8) 26 lo st h) := run_s rfl
theorem rq_X10_init_26 {lo : Lo} {st : List Value} {h : Hp} {Q : Option Value → Hp → Prop} : Run 110 26 lo st h Q = Cnt 110 Q (xo_newi 0 28 lo st h) := run_s rfl
theorem rq_X10_init_28 {lo : Lo} {st : List Value} {h : Hp} {Q : Option Value → Hp → Prop} : Run 110 28 lo st h Q = Cnt 110 Q (xo_putf 10 4 false 31 lo st h) := run_s rfl
theorem rq_X10_init_31 {lo : Lo} {st : List Value} {h : Hp} {Q : Option Value → Hp → Prop} : Run 110 31 lo st h Q = Cnt 110 Q (xo_aload 0 32 lo st h) := run_s rfl
theorem rq_X10_init_32 {lo : Lo} {st : List Value} {h : Hp} {Q : Option Value → Hp → Prop} : Run 110 32 lo st h Q = Cnt 110 Q (xo_const (.int 27) 34 lo st h) := run_s rfl
theorem rq_X10_init_34 {lo : Lo} {st : List Value} {h : Hp} {Q : Option Value → Hp → Prop} : Run 110 34 lo st h Q = Cnt 110 Q (xo_newi 0 36 lo st h) := run_s rfl
theorem rq_X10_init_36 {lo : Lo} {st : List Value} {h : Hp} {Q : Option Value → Hp → Prop} : Run 110 36 lo st h Q = Cnt 110 Q (xo_putf 10 5 false 39 lo st h) := run_s rfl
theorem rq_X10_init_39 {lo : Lo} {st : List Value} {h : Hp} {Q : Option Value → Hp → Prop} : Run 110 39 lo st h Q = Cnt 110 Q (xo_aload 0 40 lo st h) := run_s rfl
theorem rq_X10_init_40 {lo : Lo} {st : List Value} {h : Hp} {Q : Option Value → Hp → Prop} : Run 110 40 lo st h Q = Cnt 110 Q (xo_const (.int 162) 43 lo st h) := run_s rfl
theorem rq_X10_init_43 {lo : Lo} {st : List Value} {h : Hp} {Q : Option Value → Hp → Prop} : Run 110 43 lo st h Q = Cnt 110 Q (xo_newi 0 45 lo st h) := run_s rfl
theorem rq_X10_init_45 {lo : Lo} {st : List Value} {h : Hp} {Q : Option Value → Hp → Prop} : Run 110 45 lo st h Q = Cnt 110 Q (xo_putf 10 6 false 48 lo st h) := run_s rfl
theorem rq_X10_init_48 {lo : Lo} {st : List Value} {h : Hp} {Q : Option Value → Hp → Prop} : Run 110 48 lo st h Q = Cnt 110 Q (xo_aload 0 49 lo st h) := run_s rfl
theorem rq_X10_init_49 {lo : Lo} {st : List Value} {h : Hp} {Q : Option Value → Hp → Prop} : Run 110 49 lo st h Q = Cnt 110 Q (xo_const (.int 162) 52 lo st h) := run_s rfl
theorem rq_X10_init_52 {lo : Lo} {st : List Value} {h : Hp} {Q : Option Value → Hp → Prop} : Run 110 52 lo st h Q = Cnt 110 Q (xo_newi 0 54 lo st h) := run_s rfl
theorem rq_X10_init_54 {lo : Lo} {st : List Value} {h : Hp} {Q : Option Value → Hp → Prop} : Run 110 54 lo st h Q = Cnt 110 Q (xo_putf 10 7 false 57 lo st h) := run_s rfl
theorem rq_X10_init_57 {lo : Lo} {st : List Value} {h : Hp} {Q : Option Value → Hp → Prop} : Run 110 57 lo st h Q = Cnt 110 Q (xo_aload 0 58 lo st h) := run_s rfl
theorem rq_X10_init_58 {lo : Lo} {st : List Value} {h : Hp} {Q : Option Value → Hp → Prop} : Run 110 58 lo st h Q = Cnt 110 Q (xo_const (.int 162) 61 lo st h) := run_s rfl
theorem rq_X10_init_61 {lo : Lo} {st : List Value} {h : Hp} {Q : Option Value → Hp → Prop} : Run 110 61 lo st h Q = Cnt 110 Q (xo_newi 0 63 lo st h) := run_s rfl
theorem rq_X10_init_63 {lo : Lo} {st : List Value} {h : Hp} {Q : Option Value → Hp → Prop} : Run 110 63 lo st h Q = Cnt 110 Q (xo_putf 10 8 false 66 lo st h) := run_s rfl
theorem rq_X10_init_66 {lo : Lo} {st : List Value} {h : Hp} {Q : Option Value → Hp → Prop} : Run 110 66 lo st h Q = Cnt 110 Q (xo_aload 0 67 lo st h) := run_s rfl
theorem rq_X10_init_67 {lo : Lo} {st : List Value} {h : Hp} {Q : Option Value → Hp → Prop} : Run 110 67 lo st h Q = Cnt 110 Q (xo_const (.int 1296) 70 lo st h) := run_s rfl
theorem rq_X10_init_70 {lo : Lo} {st : List Value} {h : Hp} {Q : Option Value → Hp → Prop} : Run 110 70 lo st h Q = Cnt 110 Q (xo_newi 0 72 lo st h) := run_s rfl
theorem rq_X10_init_72 {lo : Lo} {st : List Value} {h : Hp} {Q : Option Value → Hp → Prop} : Run 110 72 lo st h Q = Cnt 110 Q (xo_putf 10 9 false 75 lo st h) := run_s rfl
theorem rq_X10_init_75 {lo : Lo} {st : List Value} {h : Hp} {Q : Option Value → Hp → Prop} : Run 110 75 lo st h Q = Cnt 110 Q (xo_aload 0 76 lo st h) := run_s rfl
theorem rq_X10_init_76 {lo : Lo} {st : List Value} {h : Hp} {Q : Option Value → Hp → Prop} : Run 110 76 lo st h Q = Cnt 110 Q (xo_const (.int 1296) 79 lo st h) := run_s rfl
theorem rq_X10_init_79 {lo : Lo} {st : List Value} {h : Hp} {Q : Option Value → Hp → Prop} : Run 110 79 lo st h Q = Cnt 110 Q (xo_newi 0 81 lo st h) := run_s rfl
theorem rq_X10_init_81 {lo : Lo} {st : List Value} {h : Hp} {Q : Option Value → Hp → Prop} : Run 110 81 lo st h Q = Cnt 110 Q (xo_putf 10 10 false 84 lo st h) := run_s rfl
theorem rq_X10_init_84 {lo : Lo} {st : List Value} {h : Hp} {Q : Option Value → Hp → Prop} : Run 110 84 lo st h Q = Cnt 110 Q (xo_aload 0 85 lo st h) := run_s rfl
theorem rq_X10_init_85 {lo : Lo} {st : List Value} {h : Hp} {Q : Option Value → Hp → Prop} : Run 110 85 lo st h Q = Cnt 110 Q (xo_const (.int 32) 87 lo st h) := run_s rfl
theorem rq_X10_init_87 {lo : Lo} {st : List Value} {h : Hp} {Q : Option Value → Hp → Prop} : Run 110 87 lo st h Q = Cnt 110 Q (xo_newi 0 89 lo st h) := run_s rfl
theorem rq_X10_init_89 {lo : Lo} {st : List Value} {h : Hp} {Q : Option Value → Hp → Prop} : Run 110 89 lo st h Q = Cnt 110 Q (xo_putf 10 11 false 92 lo st h) := run_s rfl
theorem rq_X10_init_92 {lo : Lo} {st : List Value} {h : Hp} {Q : Option Value → Hp → Prop} : Run 110 92 lo st h Q = Cnt 110 Q (xo_aload 0 93 lo st h) := run_s rfl
theorem rq_X10_init_93 {lo : Lo} {st : List Value} {h : Hp} {Q : Option Value → Hp → Prop} : Run 110 93 lo st h Q = Cnt 110 Q (xo_const (.int 32) 95 lo st h) := run_s rfl
theorem rq_X10_init_95 {lo : Lo} {st : List Value} {h : Hp} {Q : Option Value → Hp → Prop} : Run 110 95 lo st h Q = Cnt 110 Q (xo_newi 0 97 lo st h) := run_s rfl
theorem rq_X10_init_97 {lo : Lo} {st : List Value} {h : Hp} {Q : Option Value → Hp → Prop} : Run 110 97 lo st h Q = Cnt 110 Q (xo_putf 10 12 false 100 lo st h) := run_s rfl
theorem rq_X10_init_100 {lo : Lo} {st : List Value} {h : Hp} {Q : Option Value → Hp → Prop} : Run 110 100 lo st h Q = Cnt 110 Q (xo_aload 0 101 lo st h) := run_s rfl
theorem rq_X10_init_101 {lo : Lo} {st : List Value} {h : Hp} {Q : Option Value → Hp → Prop} : Run 110 101 lo st h Q = Cnt 110 Q (xo_const (.int 4) 102 lo st h) := run_s rfl
theorem rq_X10_init_102 {lo : Lo} {st : List Value} {h : Hp} {Q : Option Value → Hp → Prop} : Run 110 102 lo st h Q = Cnt 110 Q (xo_putf 10 13 true 105 lo st h) := run_s rfl
theorem rq_X10_init_105 {lo : Lo} {st : List Value} {h : Hp} {Q : Option Value → Hp → Prop} : Run 110 105 lo st h Q = Cnt 110 Q (xo_aload 0 106 lo st h) := run_s rfl
theorem rq_X10_init_106 {lo : Lo} {st : List Value} {h : Hp} {Q : Option Value → Hp → Prop} : Run 110 106 lo st h Q = Cnt 110 Q (xo_const (.int 1024) 109 lo st h) := run_s rfl
theorem rq_X10_init_109 {lo : Lo} {st : List Value} {h : Hp} {Q : Option Value → Hp → Prop} : Run 110 109 lo st h Q = Cnt 110 Q (xo_newi 0 111 lo st h) := run_s rfl
theorem rq_X10_init_111 {lo : Lo} {st : List Value} {h : Hp} {Q : Option Value → Hp → Prop} : Run 110 111 lo st h Q = Cnt 110 Q (xo_putf 10 14 false 114 lo st h) := run_s rfl
theorem rq_X10_init_114 {lo : Lo} {st : List Value} {h : Hp} {Q : Option Value → Hp → Prop} : Run 110 114 lo st h Q = Cnt 110 Q (xo_aload 0 115 lo st h) := run_s rfl
theorem rq_X10_init_115 {lo : Lo} {st : List Value} {h : Hp} {Q : Option Value → Hp → Prop} : Run 110 115 lo st h Q = Cnt 110 Q (xo_const (.int 1024) 118 lo st h) := run_s rfl
theorem rq_X10_init_118 {lo : Lo} {st : List Value} {h : Hp} {Q : Option Value → Hp → Prop} : Run 110 118 lo st h Q = Cnt 110 Q (xo_newi 1 120 lo st h) := run_s rfl
theorem rq_X10_init_120 {lo : Lo} {st : List Value} {h : Hp} {Q : Option Value → Hp → Prop} : Run 110 120 lo st h Q = Cnt 110 Q (xo_putf 10 15 false 123 lo st h) := run_s rfl
theorem rq_X10_init_123 {lo : Lo} {st : List Value} {h : Hp} {Q : Option Value → Hp → Prop} : Run 110 123 lo st h Q = Cnt 110 Q (xo_aload 0 124 lo st h) := run_s rfl
theorem rq_X10_init_124 {lo : Lo} {st : List Value} {h : Hp} {Q : Option Value → Hp → Prop} : Run 110 124 lo st h Q = Cnt 110 Q (xo_const (.int 162) 127 lo st h) := run_s rfl
theorem rq_X10_init_127 {lo : Lo} {st : List Value} {h : Hp} {Q : Option Value → Hp → Prop} : Run 110 127 lo st h Q = Cnt 110 Q (xo_newi 0 129 lo st h) := run_s rfl
theorem rq_X10_init_129 {lo : Lo} {st : List Value} {h : Hp} {Q : Option Value → Hp → Prop} : Run 110 129 lo st h Q = Cnt 110 Q (xo_putf 10 17 false 132 lo st h) := run_s rfl
theorem rq_X10_init_132 {lo : Lo} {st : List Value} {h : Hp} {Q : Option Value → Hp → Prop} : Run 110 132 lo st h Q = Cnt 110 Q (xo_aload 0 133 lo st h) := run_s rfl
theorem rq_X10_init_133 {lo : Lo} {st : List Value} {h : Hp} {Q : Option Value → Hp → Prop} : Run 110 133 lo st h Q = Cnt 110 Q (xo_const (.int 26) 135 lo st h) := run_s rfl
theorem rq_X10_init_135 {lo : Lo} {st : List Value} {h : Hp} {Q : Option Value → Hp → Prop} : Run 110 135 lo st h Q = Cnt 110 Q (xo_newi 1 137 lo st h) := run_s rfl
theorem rq_X10_init_137 {lo : Lo} {st : List Value} {h : Hp} {Q : Option Value → Hp → Prop} : Run 110 137 lo st h Q = Cnt 110 Q (xo_putf 10 21 false 140 lo st h) := run_s rfl
theorem rq_X10_init_140 {lo : Lo} {st : List Value} {h : Hp} {Q : Option Value → Hp → Prop} : Run 110 140 lo st h Q = Cnt 110 Q (xo_aload 0 141 lo st h) := run_s rfl
theorem rq_X10_init_141 {lo : Lo} {st : List Value} {h : Hp} {Q : Option Value → Hp → Prop} : Run 110 141 lo st h Q = Cnt 110 Q (xo_const (.int (-9)) 143 lo st h) := run_s rfl
theorem rq_X10_init_143 {lo : Lo} {st : List Value} {h : Hp} {Q : Option Value → Hp → Prop} : Run 110 143 lo st h Q = Cnt 110 Q (xo_putf 10 22 true 146 lo st h) := run_s rfl
theorem rq_X10_init_146 {lo : Lo} {st : List Value} {h : Hp} {Q : Option Value → Hp → Prop} : Run 110 146 lo st h Q = Cnt 110 Q (xo_aload 0 147 lo st h) := run_s rfl
theorem rq_X10_init_147 {lo : Lo} {st : List Value} {h : Hp} {Q : Option Value → Hp → Prop} : Run 110 147 lo st h Q = Cnt 110 Q (xo_const (.int 64) 149 lo st h) := run_s rfl
theorem rq_X10_init_149 {lo : Lo} {st : List Value} {h : Hp} {Q : Option Value → Hp → Prop} : Run 110 149 lo st h Q = Cnt 110 Q (xo_newi 0 151 lo st h) := run_s rfl
theorem rq_X10_init_151 {lo : Lo} {st : List Value} {h : Hp} {Q : Option Value → Hp → Prop} : Run 110 151 lo st h Q = Cnt 110 Q (xo_putf 10 23 false 154 lo st h) := run_s rfl
theorem rq_X10_init_154 {lo : Lo} {st : List Value} {h : Hp} {Q : Option Value → Hp → Prop} : Run 110 154 lo st h Q = Cnt 110 Q (xo_vret lo st h) := run_s rfl
theorem rq_X10_within_0 {lo : Lo} {st : List Value} {h : Hp} {Q : Option Value → Hp → Prop} : Run 111 0 lo st h Q = Cnt 111 Q (xo_iload 0 1 lo st h) := run_s rfl
theorem rq_X10_within_1 {lo : Lo} {st : List Value} {h : Hp} {Q : Option Value → Hp → Prop} : Run 111 1 lo st h Q = Cnt 111 Q (xo_iload 1 2 lo st h) := run_s rfl
theorem rq_X10_within_2 {lo : Lo} {st : List Value} {h : Hp} {Q : Option Value → Hp → Prop} : Run 111 2 lo st h Q = Cnt 111 Q (xo_if2 (fun x y => decide (x < y)) 14 5 lo st h) := run_s rfl
theorem rq_X10_within_5 {lo : Lo} {st : List Value} {h : Hp} {Q : Option Value → Hp → Prop} : Run 111 5 lo st h Q = Cnt 111 Q (xo_iload 0 6 lo st h) := run_s rfl
theorem rq_X10_within_6 {lo : Lo} {st : List Value} {h : Hp} {Q : Option Value → Hp → Prop} : Run 111 6 lo st h Q = Cnt 111 Q (xo_iload 2 7 lo st h) := run_s rfl
theorem rq_X10_within_7 {lo : Lo} {st : List Value} {h : Hp} {Q : Option Value → Hp → Prop} : Run 111 7 lo st h Q = Cnt 111 Q (xo_if2 (fun x y => decide (x > y)) 14 10 lo st h) := run_s rfl
theorem rq_X10_within_10 {lo : Lo} {st : List Value} {h : Hp} {Q : Option Value → Hp → Prop} : Run 111 10 lo st h Q = Cnt 111 Q (xo_const (.int 1) 11 lo st h) := run_s rfl
theorem rq_X10_within_11 {lo : Lo} {st : List Value} {h : Hp} {Q : Option Value → Hp → Prop} : Run 111 11 lo st h Q = Cnt 111 Q (xo_goto 15 lo st h) := run_s rfl
theorem rq_X10_within_14 {lo : Lo} {st : List Value} {h : Hp} {Q : Option Value → Hp → Prop} : Run 111 14 lo st h Q = Cnt 111 Q (xo_const (.int 0) 15 lo st h) := run_s rfl
theorem rq_X10_within_15 {lo : Lo} {st : List Value} {h : Hp} {Q : Option Value → Hp → Prop} : Run 111 15 lo st h Q = Cnt 111 Q (xo_zret lo st h) := run_s rfl
theorem rq_X10_nib_0 {lo : Lo} {st : List Value} {h : Hp} {Q : Option Value → Hp → Prop} : Run 112 0 lo st h Q = Cnt 112 Q (xo_iload 1 1 lo st h) := run_s rfl
theorem rq_X10_nib_1 {lo : Lo} {st : List Value} {h : Hp} {Q : Option Value → Hp → Prop} : Run 112 1 lo st h Q = Cnt 112 Q (xo_const (.int 0) 2 lo st h) := run_s rfl
theorem rq_X10_nib_2 {lo : Lo} {st : List Value} {h : Hp} {Q : Option Value → Hp → Prop} : Run 112 2 lo st h Q = Cnt 112 Q (xo_const (.int 6) 4 lo st h) := run_s rfl
theorem rq_X10_nib_4 {lo : Lo} {st : List Value} {h : Hp} {Q : Option Value → Hp → Prop} : Run 112 4 lo st h Q = CCall 111 3 none st h (Knt 112 7 lo (st.drop 3) Q) := run_c rfl
theorem rq_X10_nib_7 {lo : Lo} {st : List Value} {h : Hp} {Q : Option Value → Hp → Prop} : Run 112 7 lo st h Q = Cnt 112 Q (xo_if1 (fun x => decide (x = 0)) 21 10 lo st h) := run_s rfl
theorem rq_X10_nib_10 {lo : Lo} {st : List Value} {h : Hp} {Q : Option Value → Hp → Prop} : Run 112 10 lo st h Q = Cnt 112 Q (xo_iload 2 11 lo st h) := run_s rfl
theorem rq_X10_nib_11 {lo : Lo} {st : List Value} {h : Hp} {Q : Option Value → Hp → Prop} : Run 112 11 lo st h Q = Cnt 112 Q (xo_const (.int (-6)) 13 lo st h) := run_s rfl
theorem rq_X10_nib_13 {lo : Lo} {st : List Value} {h : Hp} {Q : Option Value → Hp → Prop} : Run 112 13 lo st h Q = Cnt 112 Q (xo_const (.int 6) 15 lo st h) := run_s rfl
theorem rq_X10_nib_15 {lo : Lo} {st : List Value} {h : Hp} {Q : Option Value → Hp → Prop} : Run 112 15 lo st h Q = CCall 111 3 none st h (Knt 112 18 lo (st.drop 3) Q) := run_c rfl
theorem rq_X10_nib_18 {lo : Lo} {st : List Value} {h : Hp} {Q : Option Value → Hp → Prop} : Run 112 18 lo st h Q = Cnt 112 Q (xo_if1 (fun x => decide (¬ x = 0)) 24 21 lo st h) := run_s rfl
theorem rq_X10_nib_21 {lo : Lo} {st : List Value} {h : Hp} {Q : Option Value → Hp → Prop} : Run 112 21 lo st h Q = Cnt 112 Q (xo_const (.int (-2)) 23 lo st h) := run_s rfl
theorem rq_X10_nib_23 {lo : Lo} {st : List Value} {h : Hp} {Q : Option Value → Hp → Prop} : Run 112 23 lo st h Q = Cnt 112 Q (xo_iret lo st h) := run_s rfl
theorem rq_X10_nib_24 {lo : Lo} {st : List Value} {h : Hp} {Q : Option Value → Hp → Prop} : Run 112 24 lo st h Q = Cnt 112 Q (xo_iload 1 25 lo st h) := run_s rfl
theorem rq_X10_nib_25 {lo : Lo} {st : List Value} {h : Hp} {Q : Option Value → Hp → Prop} : Run 112 25 lo st h Q = Cnt 112 Q (xo_if1 (fun x => decide (¬ x = 0)) 35 28 lo st h) := run_s rfl
theorem rq_X10_nib_28 {lo : Lo} {st : List Value} {h : Hp} {Q : Option Value → Hp → Prop} : Run 112 28 lo st h Q = Cnt 112 Q (xo_iload 2 29 lo st h) := run_s rfl
theorem rq_X10_nib_29 {lo : Lo} {st : List Value} {h : Hp} {Q : Option Value → Hp → Prop} : Run 112 29 lo st h Q = Cnt 112 Q (xo_if1 (fun x => decide (¬ x = 0)) 35 32 lo st h) := run_s rfl
theorem rq_X10_nib_32 {lo : Lo} {st : List Value} {h : Hp} {Q : Option Value → Hp → Prop} : Run 112 32 lo st h Q = Cnt 112 Q (xo_const (.int (-3)) 34 lo st h) := run_s rfl
theorem rq_X10_nib_34 {lo : Lo} {st : List Value} {h : Hp} {Q : Option Value → Hp → Prop} : Run 112 34 lo st h Q = Cnt 112 Q (xo_iret lo st h) := run_s rfl
theorem rq_X10_nib_35 {lo : Lo} {st : List Value} {h : Hp} {Q : Option Value → Hp → Prop} : Run 112 35 lo st h Q = Cnt 112 Q (xo_aload 0 36 lo st h) := run_s rfl
theorem rq_X10_nib_36 {lo : Lo} {st : List Value} {h : Hp} {Q : Option Value → Hp → Prop} : Run 112 36 lo st h Q = Cnt 112 Q (xo_iload 1 37 lo st h) := run_s rfl
theorem rq_X10_nib_37 {lo : Lo} {st : List Value} {h : Hp} {Q : Option Value → Hp → Prop} : Run 112 37 lo st h Q = Cnt 112 Q (xo_putf 10 0 true 40 lo st h) := run_s rfl
theorem rq_X10_nib_40 {lo : Lo} {st : List Value} {h : Hp} {Q : Option Value → Hp → Prop} : Run 112 40 lo st h Q = Cnt 112 Q (xo_aload 0 41 lo st h) := run_s rfl
theorem rq_X10_nib_41 {lo : Lo} {st : List Value} {h : Hp} {Q : Option Value → Hp → Prop} : Run 112 41 lo st h Q = Cnt 112 Q (xo_iload 2 42 lo st h) := run_s rfl
theorem rq_X10_nib_42 {lo : Lo} {st : List Value} {h : Hp} {Q : Option Value → Hp → Prop} : Run 112 42 lo st h Q = Cnt 112 Q (xo_putf 10 1 true 45 lo st h) := run_s rfl
theorem rq_X10_nib_45 {lo : Lo} {st : List Value} {h : Hp} {Q : Option Value → Hp → Prop} : Run 112 45 lo st h Q = Cnt 112 Q (xo_const (.int 1) 46 lo st h) := run_s rfl
theorem rq_X10_nib_46 {lo : Lo} {st : List Value} {h : Hp} {Q : Option Value → Hp → Prop} : Run 112 46 lo st h Q = Cnt 112 Q (xo_iret lo st h) := run_s rfl
theorem rq_X10_ofNib_0 {lo : Lo} {st : List Value} {h : Hp} {Q : Option Value → Hp → Prop} : Run 113 0 lo st h Q = Cnt 113 Q (xo_iload 1 1 lo st h) := run_s rfl
theorem rq_X10_ofNib_1 {lo : Lo} {st : List Value} {h : Hp} {Q : Option Value → Hp → Prop} : Run 113 1 lo st h Q = Cnt 113 Q (xo_if1 (fun x => decide (¬ x = 0)) 11 4 lo st h) := run_s rfl
theorem rq_X10_ofNib_4 {lo : Lo} {st : List Value} {h : Hp} {Q : Option Value → Hp → Prop} : Run 113 4 lo st h Q = Cnt 113 Q (xo_aload 0 5 lo st h) := run_s rfl
theorem rq_X10_ofNib_5 {lo : Lo} {st : List Value} {h : Hp} {Q : Option Value → Hp → Prop} : Run 113 5 lo st h Q = Cnt 113 Q (xo_getf 10 0 8 lo st h) := run_s rfl
theorem rq_X10_ofNib_8 {lo : Lo} {st : List Value} {h : Hp} {Q : Option Value → Hp → Prop} : Run 113 8 lo st h Q = Cnt 113 Q (xo_goto 25 lo st h) := run_s rfl
theorem rq_X10_ofNib_11 {lo : Lo} {st : List Value} {h : Hp} {Q : Option Value → Hp → Prop} : Run 113 11 lo st h Q = Cnt 113 Q (xo_iload 1 12 lo st h) := run_s rfl
theorem rq_X10_ofNib_12 {lo : Lo} {st : List Value} {h : Hp} {Q : Option Value → Hp → Prop} : Run 113 12 lo st h Q = Cnt 113 Q (xo_const (.int 1) 13 lo st h) := run_s rfl
theorem rq_X10_ofNib_13 {lo : Lo} {st : List Value} {h : Hp} {Q : Option Value → Hp → Prop} : Run 113 13 lo st h Q = Cnt 113 Q (xo_if2 (fun x y => decide (¬ x = y)) 23 16 lo st h) := run_s rfl
theorem rq_X10_ofNib_16 {lo : Lo} {st : List Value} {h : Hp} {Q : Option Value → Hp → Prop} : Run 113 16 lo st h Q = Cnt 113 Q (xo_aload 0 17 lo st h) := run_s rfl
theorem rq_X10_ofNib_17 {lo : Lo} {st : List Value} {h : Hp} {Q : Option Value → Hp → Prop} : Run 113 17 lo st h Q = Cnt 113 Q (xo_getf 10 1 20 lo st h) := run_s rfl
theorem rq_X10_ofNib_20 {lo : Lo} {st : List Value} {h : Hp} {Q : Option Value → Hp → Prop} : Run 113 20 lo st h Q = Cnt 113 Q (xo_goto 25 lo st h) := run_s rfl
theorem rq_X10_ofNib_23 {lo : Lo} {st : List Value} {h : Hp} {Q : Option Value → Hp → Prop} : Run 113 23 lo st h Q = Cnt 113 Q (xo_const (.int (-2)) 25 lo st h) := run_s rfl
theorem rq_X10_ofNib_25 {lo : Lo} {st : List Value} {h : Hp} {Q : Option Value → Hp → Prop} : Run 113 25 lo st h Q = Cnt 113 Q (xo_iret lo st h) := run_s rfl
theorem rq_X10_point_0 {lo : Lo} {st : List Value} {h : Hp} {Q : Option Value → Hp → Prop} : Run 114 0 lo st h Q = Cnt 114 Q (xo_iload 1 1 lo st h) := run_s rfl
theorem rq_X10_point_1 {lo : Lo} {st : List Value} {h : Hp} {Q : Option Value → Hp → Prop} : Run 114 1 lo st h Q = Cnt 114 Q (xo_const (.int 0) 2 lo st h) := run_s rfl
theorem rq_X10_point_2 {lo : Lo} {st : List Value} {h : Hp} {Q : Option Value → Hp → Prop} : Run 114 2 lo st h Q = Cnt 114 Q (xo_const (.int 31) 4 lo st h) := run_s rfl
theorem rq_X10_point_4 {lo : Lo} {st : List Value} {h : Hp} {Q : Option Value → Hp → Prop} : Run 114 4 lo st h Q = CCall 111 3 none st h (Knt 114 7 lo (st.drop 3) Q) := run_c rfl
theorem rq_X10_point_7 {lo : Lo} {st : List Value} {h : Hp} {Q : Option Value → Hp → Prop} : Run 114 7 lo st h Q = Cnt 114 Q (xo_if1 (fun x => decide (x = 0)) 20 10 lo st h) := run_s rfl
theorem rq_X10_point_10 {lo : Lo} {st : List Value} {h : Hp} {Q : Option Value → Hp → Prop} : Run 114 10 lo st h Q = Cnt 114 Q (xo_iload 2 11 lo st h) := run_s rfl
theorem rq_X10_point_11 {lo : Lo} {st : List Value} {h : Hp} {Q : Option Value → Hp → Prop} : Run 114 11 lo st h Q = Cnt 114 Q (xo_const (.int 0) 12 lo st h) := run_s rfl
theorem rq_X10_point_12 {lo : Lo} {st : List Value} {h : Hp} {Q : Option Value → Hp → Prop} : Run 114 12 lo st h Q = Cnt 114 Q (xo_const (.int 31) 14 lo st h) := run_s rfl
theorem rq_X10_point_14 {lo : Lo} {st : List Value} {h : Hp} {Q : Option Value → Hp → Prop} : Run 114 14 lo st h Q = CCall 111 3 none st h (Knt 114 17 lo (st.drop 3) Q) := run_c rfl
theorem rq_X10_point_17 {lo : Lo} {st : List Value} {h : Hp} {Q : Option Value → Hp → Prop} : Run 114 17 lo st h Q = Cnt 114 Q (xo_if1 (fun x => decide (¬ x = 0)) 23 20 lo st h) := run_s rfl
theorem rq_X10_point_20 {lo : Lo} {st : List Value} {h : Hp} {Q : Option Value → Hp → Prop} : Run 114 20 lo st h Q = Cnt 114 Q (xo_const (.int (-2)) 22 lo st h) := run_s rfl
theorem rq_X10_point_22 {lo : Lo} {st : List Value} {h : Hp} {Q : Option Value → Hp → Prop} : Run 114 22 lo st h Q = Cnt 114 Q (xo_iret lo st h) := run_s rfl
theorem rq_X10_point_23 {lo : Lo} {st : List Value} {h : Hp} {Q : Option Value → Hp → Prop} : Run 114 23 lo st h Q = Cnt 114 Q (xo_aload 0 24 lo st h) := run_s rfl
theorem rq_X10_point_24 {lo : Lo} {st : List Value} {h : Hp} {Q : Option Value → Hp → Prop} : Run 114 24 lo st h Q = Cnt 114 Q (xo_getf 10 2 27 lo st h) := run_s rfl
theorem rq_X10_point_27 {lo : Lo} {st : List Value} {h : Hp} {Q : Option Value → Hp → Prop} : Run 114 27 lo st h Q = Cnt 114 Q (xo_if1 (fun x => decide (x ≤ 0)) 63 30 lo st h) := run_s rfl
theorem rq_X10_point_30 {lo : Lo} {st : List Value} {h : Hp} {Q : Option Value → Hp → Prop} : Run 114 30 lo st h Q = Cnt 114 Q (xo_aload 0 31 lo st h) := run_s rfl
theorem rq_X10_point_31 {lo : Lo} {st : List Value} {h : Hp} {Q : Option Value → Hp → Prop} : Run 114 31 lo st h Q = Cnt 114 Q (xo_getf 10 3 34 lo st h) := run_s rfl
theorem rq_X10_point_34 {lo : Lo} {st : List Value} {h : Hp} {Q : Option Value → Hp → Prop} : Run 114 34 lo st h Q = Cnt 114 Q (xo_aload 0 35 lo st h) := run_s rfl
theorem rq_X10_point_35 {lo : Lo} {st : List Value} {h : Hp} {Q : Option Value → Hp → Prop} : Run 114 35 lo st h Q = Cnt 114 Q (xo_getf 10 2 38 lo st h) := run_s rfl
theorem rq_X10_point_38 {lo : Lo} {st : List Value} {h : Hp} {Q : Option Value → Hp → Prop} : Run 114 38 lo st h Q = Cnt 114 Q (xo_const (.int 1) 39 lo st h) := run_s rfl
theorem rq_X10_point_39 {lo : Lo} {st : List Value} {h : Hp} {Q : Option Value → Hp → Prop} : Run 114 39 lo st h Q = Cnt 114 Q (xo_bin (fun x y => x - y) 40 lo st h) := run_s rfl
theorem rq_X10_point_40 {lo : Lo} {st : List Value} {h : Hp} {Q : Option Value → Hp → Prop} : Run 114 40 lo st h Q = Cnt 114 Q (xo_iald 41 lo st h) := run_s rfl
theorem rq_X10_point_41 {lo : Lo} {st : List Value} {h : Hp} {Q : Option Value → Hp → Prop} : Run 114 41 lo st h Q = Cnt 114 Q (xo_iload 1 42 lo st h) := run_s rfl
theorem rq_X10_point_42 {lo : Lo} {st : List Value} {h : Hp} {Q : Option Value → Hp → Prop} : Run 114 42 lo st h Q = Cnt 114 Q (xo_if2 (fun x y => decide (¬ x = y)) 63 45 lo st h) := run_s rfl
theorem rq_X10_point_45 {lo : Lo} {st : List Value} {h : Hp} {Q : Option Value → Hp → Prop} : Run 114 45 lo st h Q = Cnt 114 Q (xo_aload 0 46 lo st h) := run_s rfl
theorem rq_X10_point_46 {lo : Lo} {st : List Value} {h : Hp} {Q : Option Value → Hp → Prop} : Run 114 46 lo st h Q = Cnt 114 Q (xo_getf 10 4 49 lo st h) := run_s rfl
theorem rq_X10_point_49 {lo : Lo} {st : List Value} {h : Hp} {Q : Option Value → Hp → Prop} : Run 114 49 lo st h Q = Cnt 114 Q (xo_aload 0 50 lo st h) := run_s rfl
theorem rq_X10_point_50 {lo : Lo} {st : List Value} {h : Hp} {Q : Option Value → Hp → Prop} : Run 114 50 lo st h Q = Cnt 114 Q (xo_getf 10 2 53 lo st h) := run_s rfl
theorem rq_X10_point_53 {lo : Lo} {st : List Value} {h : Hp} {Q : Option Value → Hp → Prop} : Run 114 53 lo st h Q = Cnt 114 Q (xo_const (.int 1) 54 lo st h) := run_s rfl
theorem rq_X10_point_54 {lo : Lo} {st : List Value} {h : Hp} {Q : Option Value → Hp → Prop} : Run 114 54 lo st h Q = Cnt 114 Q (xo_bin (fun x y => x - y) 55 lo st h) := run_s rfl
theorem rq_X10_point_55 {lo : Lo} {st : List Value} {h : Hp} {Q : Option Value → Hp → Prop} : Run 114 55 lo st h Q = Cnt 114 Q (xo_iald 56 lo st h) := run_s rfl
theorem rq_X10_point_56 {lo : Lo} {st : List Value} {h : Hp} {Q : Option Value → Hp → Prop} : Run 114 56 lo st h Q = Cnt 114 Q (xo_iload 2 57 lo st h) := run_s rfl
theorem rq_X10_point_57 {lo : Lo} {st : List Value} {h : Hp} {Q : Option Value → Hp → Prop} : Run 114 57 lo st h Q = Cnt 114 Q (xo_if2 (fun x y => decide (¬ x = y)) 63 60 lo st h) := run_s rfl
theorem rq_X10_point_60 {lo : Lo} {st : List Value} {h : Hp} {Q : Option Value → Hp → Prop} : Run 114 60 lo st h Q = Cnt 114 Q (xo_const (.int (-3)) 62 lo st h) := run_s rfl
theorem rq_X10_point_62 {lo : Lo} {st : List Value} {h : Hp} {Q : Option Value → Hp → Prop} : Run 114 62 lo st h Q = Cnt 114 Q (xo_iret lo st h) := run_s rfl
theorem rq_X10_point_63 {lo : Lo} {st : List Value} {h : Hp} {Q : Option Value → Hp → Prop} : Run 114 63 lo st h Q = Cnt 114 Q (xo_aload 0 64 lo st h) := run_s rfl
theorem rq_X10_point_64 {lo : Lo} {st : List Value} {h : Hp} {Q : Option Value → Hp → Prop} : Run 114 64 lo st h Q = Cnt 114 Q (xo_getf 10 2 67 lo st h) := run_s rfl
theorem rq_X10_point_67 {lo : Lo} {st : List Value} {h : Hp} {Q : Option Value → Hp → Prop} : Run 114 67 lo st h Q = Cnt 114 Q (xo_const (.int 8) 69 lo st h) := run_s rfl
theorem rq_X10_point_69 {lo : Lo} {st : List Value} {h : Hp} {Q : Option Value → Hp → Prop} : Run 114 69 lo st h Q = Cnt 114 Q (xo_if2 (fun x y => decide (¬ x = y)) 75 72 lo st h) := run_s rfl
theorem rq_X10_point_72 {lo : Lo} {st : List Value} {h : Hp} {Q : Option Value → Hp → Prop} : Run 114 72 lo st h Q = Cnt 114 Q (xo_const (.int (-4)) 74 lo st h) := run_s rfl
theorem rq_X10_point_74 {lo : Lo} {st : List Value} {h : Hp} {Q : Option Value → Hp → Prop} : Run 114 74 lo st h Q = Cnt 114 Q (xo_iret lo st h) := run_s rfl
theorem rq_X10_point_75 {lo : Lo} {st : List Value} {h : Hp} {Q : Option Value → Hp → Prop} : Run 114 75 lo st h Q = Cnt 114 Q (xo_aload 0 76 lo st h) := run_s rfl
theorem rq_X10_point_76 {lo : Lo} {st : List Value} {h : Hp} {Q : Option Value → Hp → Prop} : Run 114 76 lo st h Q = Cnt 114 Q (xo_getf 10 3 79 lo st h) := run_s rfl
theorem rq_X10_point_79 {lo : Lo} {st : List Value} {h : Hp} {Q : Option Value → Hp → Prop} : Run 114 79 lo st h Q = Cnt 114 Q (xo_aload 0 80 lo st h) := run_s rfl
theorem rq_X10_point_80 {lo : Lo} {st : List Value} {h : Hp} {Q : Option Value → Hp → Prop} : Run 114 80 lo st h Q = Cnt 114 Q (xo_getf 10 2 83 lo st h) := run_s rfl
theorem rq_X10_point_83 {lo : Lo} {st : List Value} {h : Hp} {Q : Option Value → Hp → Prop} : Run 114 83 lo st h Q = Cnt 114 Q (xo_iload 1 84 lo st h) := run_s rfl
theorem rq_X10_point_84 {lo : Lo} {st : List Value} {h : Hp} {Q : Option Value → Hp → Prop} : Run 114 84 lo st h Q = Cnt 114 Q (xo_iast 85 lo st h) := run_s rfl
theorem rq_X10_point_85 {lo : Lo} {st : List Value} {h : Hp} {Q : Option Value → Hp → Prop} : Run 114 85 lo st h Q = Cnt 114 Q (xo_aload 0 86 lo st h) := run_s rfl
theorem rq_X10_point_86 {lo : Lo} {st : List Value} {h : Hp} {Q : Option Value → Hp → Prop} : Run 114 86 lo st h Q = Cnt 114 Q (xo_getf 10 4 89 lo st h) := run_s rfl
theorem rq_X10_point_89 {lo : Lo} {st : List Value} {h : Hp} {Q : Option Value → Hp → Prop} : Run 114 89 lo st h Q = Cnt 114 Q (xo_aload 0 90 lo st h) := run_s rfl
theorem rq_X10_point_90 {lo : Lo} {st : List Value} {h : Hp} {Q : Option Value → Hp → Prop} : Run 114 90 lo st h Q = Cnt 114 Q (xo_getf 10 2 93 lo st h) := run_s rfl
theorem rq_X10_point_93 {lo : Lo} {st : List Value} {h : Hp} {Q : Option Value → Hp → Prop} : Run 114 93 lo st h Q = Cnt 114 Q (xo_iload 2 94 lo st h) := run_s rfl
theorem rq_X10_point_94 {lo : Lo} {st : List Value} {h : Hp} {Q : Option Value → Hp → Prop} : Run 114 94 lo st h Q = Cnt 114 Q (xo_iast 95 lo st h) := run_s rfl
theorem rq_X10_point_95 {lo : Lo} {st : List Value} {h : Hp} {Q : Option Value → Hp → Prop} : Run 114 95 lo st h Q = Cnt 114 Q (xo_aload 0 96 lo st h) := run_s rfl
theorem rq_X10_point_96 {lo : Lo} {st : List Value} {h : Hp} {Q : Option Value → Hp → Prop} : Run 114 96 lo st h Q = Cnt 114 Q (xo_dup 97 lo st h) := run_s rfl
theorem rq_X10_point_97 {lo : Lo} {st : List Value} {h : Hp} {Q : Option Value → Hp → Prop} : Run 114 97 lo st h Q = Cnt 114 Q (xo_getf 10 2 100 lo st h) := run_s rfl
theorem rq_X10_point_100 {lo : Lo} {st : List Value} {h : Hp} {Q : Option Value → Hp → Prop} : Run 114 100 lo st h Q = Cnt 114 Q (xo_const (.int 1) 101 lo st h) := run_s rfl
theorem rq_X10_point_101 {lo : Lo} {st : List Value} {h : Hp} {Q : Option Value → Hp → Prop} : Run 114 101 lo st h Q = Cnt 114 Q (xo_bin (fun x y => x + y) 102 lo st h) := run_s rfl
theorem rq_X10_point_102 {lo : Lo} {st : List Value} {h : Hp} {Q : Option Value → Hp → Prop} : Run 114 102 lo st h Q = Cnt 114 Q (xo_putf 10 2 true 105 lo st h) := run_s rfl
theorem rq_X10_point_105 {lo : Lo} {st : List Value} {h : Hp} {Q : Option Value → Hp → Prop} : Run 114 105 lo st h Q = Cnt 114 Q (xo_aload 0 106 lo st h) := run_s rfl
theorem rq_X10_point_106 {lo : Lo} {st : List Value} {h : Hp} {Q : Option Value → Hp → Prop} : Run 114 106 lo st h Q = Cnt 114 Q (xo_getf 10 2 109 lo st h) := run_s rfl
theorem rq_X10_point_109 {lo : Lo} {st : List Value} {h : Hp} {Q : Option Value → Hp → Prop} : Run 114 109 lo st h Q = Cnt 114 Q (xo_iret lo st h) := run_s rfl
theorem rq_X10_drop_0 {lo : Lo} {st : List Value} {h : Hp} {Q : Option Value → Hp → Prop} : Run 115 0 lo st h Q = Cnt 115 Q (xo_aload 0 1 lo st h) := run_s rfl
theorem rq_X10_drop_1 {lo : Lo} {st : List Value} {h : Hp} {Q : Option Value → Hp → Prop} : Run 115 1 lo st h Q = Cnt 115 Q (xo_getf 10 2 4 lo st h) := run_s rfl
theorem rq_X10_drop_4 {lo : Lo} {st : List Value} {h : Hp} {Q : Option Value → Hp → Prop} : Run 115 4 lo st h Q = Cnt 115 Q (xo_istore 1 5 lo st h) := run_s rfl
theorem rq_X10_drop_5 {lo : Lo} {st : List Value} {h : Hp} {Q : Option Value → Hp → Prop} : Run 115 5 lo st h Q = Cnt 115 Q (xo_aload 0 6 lo st h) := run_s rfl
theorem rq_X10_drop_6 {lo : Lo} {st : List Value} {h : Hp} {Q : Option Value → Hp → Prop} : Run 115 6 lo st h Q = Cnt 115 Q (xo_const (.int 0) 7 lo st h) := run_s rfl
theorem rq_X10_drop_7 {lo : Lo} {st : List Value} {h : Hp} {Q : Option Value → Hp → Prop} : Run 115 7 lo st h Q = Cnt 115 Q (xo_putf 10 2 true 10 lo st h) := run_s rfl
theorem rq_X10_drop_10 {lo : Lo} {st : List Value} {h : Hp} {Q : Option Value → Hp → Prop} : Run 115 10 lo st h Q = Cnt 115 Q (xo_iload 1 11 lo st h) := run_s rfl
theorem rq_X10_drop_11 {lo : Lo} {st : List Value} {h : Hp} {Q : Option Value → Hp → Prop} : Run 115 11 lo st h Q = Cnt 115 Q (xo_iret lo st h) := run_s rfl
theorem rq_X10_lift_0 {lo : Lo} {st : List Value} {h : Hp} {Q : Option Value → Hp → Prop} : Run 116 0 lo st h Q = Cnt 116 Q (xo_aload 0 1 lo st h) := run_s rfl
theorem rq_X10_lift_1 {lo : Lo} {st : List Value} {h : Hp} {Q : Option Value → Hp → Prop} : Run 116 1 lo st h Q = Cnt 116 Q (xo_getf 10 2 4 lo st h) := run_s rfl
theorem rq_X10_lift_4 {lo : Lo} {st : List Value} {h : Hp} {Q : Option Value → Hp → Prop} : Run 116 4 lo st h Q = Cnt 116 Q (xo_if1 (fun x => decide (¬ x = 0)) 10 7 lo st h) := run_s rfl
theorem rq_X10_lift_7 {lo : Lo} {st : List Value} {h : Hp} {Q : Option Value → Hp → Prop} : Run 116 7 lo st h Q = Cnt 116 Q (xo_const (.int (-3)) 9 lo st h) := run_s rfl
theorem rq_X10_lift_9 {lo : Lo} {st : List Value} {h : Hp} {Q : Option Value → Hp → Prop} : Run 116 9 lo st h Q = Cnt 116 Q (xo_iret lo st h) := run_s rfl
theorem rq_X10_lift_10 {lo : Lo} {st : List Value} {h : Hp} {Q : Option Value → Hp → Prop} : Run 116 10 lo st h Q = Cnt 116 Q (xo_aload 0 11 lo st h) := run_s rfl
theorem rq_X10_lift_11 {lo : Lo} {st : List Value} {h : Hp} {Q : Option Value → Hp → Prop} : Run 116 11 lo st h Q = Cnt 116 Q (xo_getf 10 5 14 lo st h) := run_s rfl
theorem rq_X10_lift_14 {lo : Lo} {st : List Value} {h : Hp} {Q : Option Value → Hp → Prop} : Run 116 14 lo st h Q = Cnt 116 Q (xo_const (.int 26) 16 lo st h) := run_s rfl
theorem rq_X10_lift_16 {lo : Lo} {st : List Value} {h : Hp} {Q : Option Value → Hp → Prop} : Run 116 16 lo st h Q = Cnt 116 Q (xo_iald 17 lo st h) := run_s rfl
theorem rq_X10_lift_17 {lo : Lo} {st : List Value} {h : Hp} {Q : Option Value → Hp → Prop} : Run 116 17 lo st h Q = Cnt 116 Q (xo_istore 1 18 lo st h) := run_s rfl
theorem rq_X10_lift_18 {lo : Lo} {st : List Value} {h : Hp} {Q : Option Value → Hp → Prop} : Run 116 18 lo st h Q = Cnt 116 Q (xo_iload 1 19 lo st h) := run_s rfl
theorem rq_X10_lift_19 {lo : Lo} {st : List Value} {h : Hp} {Q : Option Value → Hp → Prop} : Run 116 19 lo st h Q = Cnt 116 Q (xo_const (.int 6) 21 lo st h) := run_s rfl
theorem rq_X10_lift_21 {lo : Lo} {st : List Value} {h : Hp} {Q : Option Value → Hp → Prop} : Run 116 21 lo st h Q = Cnt 116 Q (xo_if2 (fun x y => decide (¬ x = y)) 27 24 lo st h) := run_s rfl
theorem rq_X10_lift_24 {lo : Lo} {st : List Value} {h : Hp} {Q : Option Value → Hp → Prop} : Run 116 24 lo st h Q = Cnt 116 Q (xo_const (.int (-4)) 26 lo st h) := run_s rfl
theorem rq_X10_lift_26 {lo : Lo} {st : List Value} {h : Hp} {Q : Option Value → Hp → Prop} : Run 116 26 lo st h Q = Cnt 116 Q (xo_iret lo st h) := run_s rfl
theorem rq_X10_lift_27 {lo : Lo} {st : List Value} {h : Hp} {Q : Option Value → Hp → Prop} : Run 116 27 lo st h Q = Cnt 116 Q (xo_const (.int 156) 30 lo st h) := run_s rfl
theorem rq_X10_lift_30 {lo : Lo} {st : List Value} {h : Hp} {Q : Option Value → Hp → Prop} : Run 116 30 lo st h Q = Cnt 116 Q (xo_iload 1 31 lo st h) := run_s rfl
theorem rq_X10_lift_31 {lo : Lo} {st : List Value} {h : Hp} {Q : Option Value → Hp → Prop} : Run 116 31 lo st h Q = Cnt 116 Q (xo_bin (fun x y => x + y) 32 lo st h) := run_s rfl
theorem rq_X10_lift_32 {lo : Lo} {st : List Value} {h : Hp} {Q : Option Value → Hp → Prop} : Run 116 32 lo st h Q = Cnt 116 Q (xo_istore 2 33 lo st h) := run_s rfl
theorem rq_X10_lift_33 {lo : Lo} {st : List Value} {h : Hp} {Q : Option Value → Hp → Prop} : Run 116 33 lo st h Q = Cnt 116 Q (xo_aload 0 34 lo st h) := run_s rfl
theorem rq_X10_lift_34 {lo : Lo} {st : List Value} {h : Hp} {Q : Option Value → Hp → Prop} : Run 116 34 lo st h Q = Cnt 116 Q (xo_getf 10 6 37 lo st h) := run_s rfl
theorem rq_X10_lift_37 {lo : Lo} {st : List Value} {h : Hp} {Q : Option Value → Hp → Prop} : Run 116 37 lo st h Q = Cnt 116 Q (xo_iload 2 38 lo st h) := run_s rfl
theorem rq_X10_lift_38 {lo : Lo} {st : List Value} {h : Hp} {Q : Option Value → Hp → Prop} : Run 116 38 lo st h Q = Cnt 116 Q (xo_aload 0 39 lo st h) := run_s rfl
theorem rq_X10_lift_39 {lo : Lo} {st : List Value} {h : Hp} {Q : Option Value → Hp → Prop} : Run 116 39 lo st h Q = Cnt 116 Q (xo_getf 10 2 42 lo st h) := run_s rfl
theorem rq_X10_lift_42 {lo : Lo} {st : List Value} {h : Hp} {Q : Option Value → Hp → Prop} : Run 116 42 lo st h Q = Cnt 116 Q (xo_iast 43 lo st h) := run_s rfl
theorem rq_X10_lift_43 {lo : Lo} {st : List Value} {h : Hp} {Q : Option Value → Hp → Prop} : Run 116 43 lo st h Q = Cnt 116 Q (xo_aload 0 44 lo st h) := run_s rfl
theorem rq_X10_lift_44 {lo : Lo} {st : List Value} {h : Hp} {Q : Option Value → Hp → Prop} : Run 116 44 lo st h Q = Cnt 116 Q (xo_getf 10 7 47 lo st h) := run_s rfl
theorem rq_X10_lift_47 {lo : Lo} {st : List Value} {h : Hp} {Q : Option Value → Hp → Prop} : Run 116 47 lo st h Q = Cnt 116 Q (xo_iload 2 48 lo st h) := run_s rfl
theorem rq_X10_lift_48 {lo : Lo} {st : List Value} {h : Hp} {Q : Option Value → Hp → Prop} : Run 116 48 lo st h Q = Cnt 116 Q (xo_aload 0 49 lo st h) := run_s rfl
theorem rq_X10_lift_49 {lo : Lo} {st : List Value} {h : Hp} {Q : Option Value → Hp → Prop} : Run 116 49 lo st h Q = Cnt 116 Q (xo_getf 10 0 52 lo st h) := run_s rfl
theorem rq_X10_lift_52 {lo : Lo} {st : List Value} {h : Hp} {Q : Option Value → Hp → Prop} : Run 116 52 lo st h Q = Cnt 116 Q (xo_iast 53 lo st h) := run_s rfl
theorem rq_X10_lift_53 {lo : Lo} {st : List Value} {h : Hp} {Q : Option Value → Hp → Prop} : Run 116 53 lo st h Q = Cnt 116 Q (xo_aload 0 54 lo st h) := run_s rfl
theorem rq_X10_lift_54 {lo : Lo} {st : List Value} {h : Hp} {Q : Option Value → Hp → Prop} : Run 116 54 lo st h Q = Cnt 116 Q (xo_getf 10 8 57 lo st h) := run_s rfl
theorem rq_X10_lift_57 {lo : Lo} {st : List Value} {h : Hp} {Q : Option Value → Hp → Prop} : Run 116 57 lo st h Q = Cnt 116 Q (xo_iload 2 58 lo st h) := run_s rfl
theorem rq_X10_lift_58 {lo : Lo} {st : List Value} {h : Hp} {Q : Option Value → Hp → Prop} : Run 116 58 lo st h Q = Cnt 116 Q (xo_aload 0 59 lo st h) := run_s rfl
theorem rq_X10_lift_59 {lo : Lo} {st : List Value} {h : Hp} {Q : Option Value → Hp → Prop} : Run 116 59 lo st h Q = Cnt 116 Q (xo_getf 10 1 62 lo st h) := run_s rfl
theorem rq_X10_lift_62 {lo : Lo} {st : List Value} {h : Hp} {Q : Option Value → Hp → Prop} : Run 116 62 lo st h Q = Cnt 116 Q (xo_iast 63 lo st h) := run_s rfl
theorem rq_X10_lift_63 {lo : Lo} {st : List Value} {h : Hp} {Q : Option Value → Hp → Prop} : Run 116 63 lo st h Q = Cnt 116 Q (xo_const (.int 0) 64 lo st h) := run_s rfl
theorem rq_X10_lift_64 {lo : Lo} {st : List Value} {h : Hp} {Q : Option Value → Hp → Prop} : Run 116 64 lo st h Q = Cnt 116 Q (xo_istore 3 65 lo st h) := run_s rfl
theorem rq_X10_lift_65 {lo : Lo} {st : List Value} {h : Hp} {Q : Option Value → Hp → Prop} : Run 116 65 lo st h Q = Cnt 116 Q (xo_iload 3 66 lo st h) := run_s rfl
theorem rq_X10_lift_66 {lo : Lo} {st : List Value} {h : Hp} {Q : Option Value → Hp → Prop} : Run 116 66 lo st h Q = Cnt 116 Q (xo_aload 0 67 lo st h) := run_s rfl
theorem rq_X10_lift_67 {lo : Lo} {st : List Value} {h : Hp} {Q : Option Value → Hp → Prop} : Run 116 67 lo st h Q = Cnt 116 Q (xo_getf 10 2 70 lo st h) := run_s rfl
theorem rq_X10_lift_70 {lo : Lo} {st : List Value} {h : Hp} {Q : Option Value → Hp → Prop} : Run 116 70 lo st h Q = Cnt 116 Q (xo_if2 (fun x y => decide (x ≥ y)) 113 73 lo st h) := run_s rfl
theorem rq_X10_lift_73 {lo : Lo} {st : List Value} {h : Hp} {Q : Option Value → Hp → Prop} : Run 116 73 lo st h Q = Cnt 116 Q (xo_aload 0 74 lo st h) := run_s rfl
theorem rq_X10_lift_74 {lo : Lo} {st : List Value} {h : Hp} {Q : Option Value → Hp → Prop} : Run 116 74 lo st h Q = Cnt 116 Q (xo_getf 10 9 77 lo st h) := run_s rfl
theorem rq_X10_lift_77 {lo : Lo} {st : List Value} {h : Hp} {Q : Option Value → Hp → Prop} : Run 116 77 lo st h Q = Cnt 116 Q (xo_const (.int 8) 79 lo st h) := run_s rfl
theorem rq_X10_lift_79 {lo : Lo} {st : List Value} {h : Hp} {Q : Option Value → Hp → Prop} : Run 116 79 lo st h Q = Cnt 116 Q (xo_iload 2 80 lo st h) := run_s rfl
theorem rq_X10_lift_80 {lo : Lo} {st : List Value} {h : Hp} {Q : Option Value → Hp → Prop} : Run 116 80 lo st h Q = Cnt 116 Q (xo_bin (fun x y => x * y) 81 lo st h) := run_s rfl
theorem rq_X10_lift_81 {lo : Lo} {st : List Value} {h : Hp} {Q : Option Value → Hp → Prop} : Run 116 81 lo st h Q = Cnt 116 Q (xo_iload 3 82 lo st h) := run_s rfl
theorem rq_X10_lift_82 {lo : Lo} {st : List Value} {h : Hp} {Q : Option Value → Hp → Prop} : Run 116 82 lo st h Q = Cnt 116 Q (xo_bin (fun x y => x + y) 83 lo st h) := run_s rfl
theorem rq_X10_lift_83 {lo : Lo} {st : List Value} {h : Hp} {Q : Option Value → Hp → Prop} : Run 116 83 lo st h Q = Cnt 116 Q (xo_aload 0 84 lo st h) := run_s rfl
theorem rq_X10_lift_84 {lo : Lo} {st : List Value} {h : Hp} {Q : Option Value → Hp → Prop} : Run 116 84 lo st h Q = Cnt 116 Q (xo_getf 10 3 87 lo st h) := run_s rfl
theorem rq_X10_lift_87 {lo : Lo} {st : List Value} {h : Hp} {Q : Option Value → Hp → Prop} : Run 116 87 lo st h Q = Cnt 116 Q (xo_iload 3 88 lo st h) := run_s rfl
theorem rq_X10_lift_88 {lo : Lo} {st : List Value} {h : Hp} {Q : Option Value → Hp → Prop} : Run 116 88 lo st h Q = Cnt 116 Q (xo_iald 89 lo st h) := run_s rfl
theorem rq_X10_lift_89 {lo : Lo} {st : List Value} {h : Hp} {Q : Option Value → Hp → Prop} : Run 116 89 lo st h Q = Cnt 116 Q (xo_iast 90 lo st h) := run_s rfl
theorem rq_X10_lift_90 {lo : Lo} {st : List Value} {h : Hp} {Q : Option Value → Hp → Prop} : Run 116 90 lo st h Q = Cnt 116 Q (xo_aload 0 91 lo st h) := run_s rfl
theorem rq_X10_lift_91 {lo : Lo} {st : List Value} {h : Hp} {Q : Option Value → Hp → Prop} : Run 116 91 lo st h Q = Cnt 116 Q (xo_getf 10 10 94 lo st h) := run_s rfl
theorem rq_X10_lift_94 {lo : Lo} {st : List Value} {h : Hp} {Q : Option Value → Hp → Prop} : Run 116 94 lo st h Q = Cnt 116 Q (xo_const (.int 8) 96 lo st h) := run_s rfl
theorem rq_X10_lift_96 {lo : Lo} {st : List Value} {h : Hp} {Q : Option Value → Hp → Prop} : Run 116 96 lo st h Q = Cnt 116 Q (xo_iload 2 97 lo st h) := run_s rfl
theorem rq_X10_lift_97 {lo : Lo} {st : List Value} {h : Hp} {Q : Option Value → Hp → Prop} : Run 116 97 lo st h Q = Cnt 116 Q (xo_bin (fun x y => x * y) 98 lo st h) := run_s rfl
theorem rq_X10_lift_98 {lo : Lo} {st : List Value} {h : Hp} {Q : Option Value → Hp → Prop} : Run 116 98 lo st h Q = Cnt 116 Q (xo_iload 3 99 lo st h) := run_s rfl
theorem rq_X10_lift_99 {lo : Lo} {st : List Value} {h : Hp} {Q : Option Value → Hp → Prop} : Run 116 99 lo st h Q = Cnt 116 Q (xo_bin (fun x y => x + y) 100 lo st h) := run_s rfl
theorem rq_X10_lift_100 {lo : Lo} {st : List Value} {h : Hp} {Q : Option Value → Hp → Prop} : Run 116 100 lo st h Q = Cnt 116 Q (xo_aload 0 101 lo st h) := run_s rfl
theorem rq_X10_lift_101 {lo : Lo} {st : List Value} {h : Hp} {Q : Option Value → Hp → Prop} : Run 116 101 lo st h Q = Cnt 116 Q (xo_getf 10 4 104 lo st h) := run_s rfl
theorem rq_X10_lift_104 {lo : Lo} {st : List Value} {h : Hp} {Q : Option Value → Hp → Prop} : Run 116 104 lo st h Q = Cnt 116 Q (xo_iload 3 105 lo st h) := run_s rfl
theorem rq_X10_lift_105 {lo : Lo} {st : List Value} {h : Hp} {Q : Option Value → Hp → Prop} : Run 116 105 lo st h Q = Cnt 116 Q (xo_iald 106 lo st h) := run_s rfl
theorem rq_X10_lift_106 {lo : Lo} {st : List Value} {h : Hp} {Q : Option Value → Hp → Prop} : Run 116 106 lo st h Q = Cnt 116 Q (xo_iast 107 lo st h) := run_s rfl
theorem rq_X10_lift_107 {lo : Lo} {st : List Value} {h : Hp} {Q : Option Value → Hp → Prop} : Run 116 107 lo st h Q = Cnt 116 Q (xo_iinc 3 1 110 lo st h) := run_s rfl
theorem rq_X10_lift_110 {lo : Lo} {st : List Value} {h : Hp} {Q : Option Value → Hp → Prop} : Run 116 110 lo st h Q = Cnt 116 Q (xo_goto 65 lo st h) := run_s rfl
theorem rq_X10_lift_113 {lo : Lo} {st : List Value} {h : Hp} {Q : Option Value → Hp → Prop} : Run 116 113 lo st h Q = Cnt 116 Q (xo_aload 0 114 lo st h) := run_s rfl
theorem rq_X10_lift_114 {lo : Lo} {st : List Value} {h : Hp} {Q : Option Value → Hp → Prop} : Run 116 114 lo st h Q = Cnt 116 Q (xo_const (.int 0) 115 lo st h) := run_s rfl
theorem rq_X10_lift_115 {lo : Lo} {st : List Value} {h : Hp} {Q : Option Value → Hp → Prop} : Run 116 115 lo st h Q = Cnt 116 Q (xo_putf 10 2 true 118 lo st h) := run_s rfl
theorem rq_X10_lift_118 {lo : Lo} {st : List Value} {h : Hp} {Q : Option Value → Hp → Prop} : Run 116 118 lo st h Q = Cnt 116 Q (xo_aload 0 119 lo st h) := run_s rfl
theorem rq_X10_lift_119 {lo : Lo} {st : List Value} {h : Hp} {Q : Option Value → Hp → Prop} : Run 116 119 lo st h Q = Cnt 116 Q (xo_getf 10 5 122 lo st h) := run_s rfl
theorem rq_X10_lift_122 {lo : Lo} {st : List Value} {h : Hp} {Q : Option Value → Hp → Prop} : Run 116 122 lo st h Q = Cnt 116 Q (xo_const (.int 26) 124 lo st h) := run_s rfl
theorem rq_X10_lift_124 {lo : Lo} {st : List Value} {h : Hp} {Q : Option Value → Hp → Prop} : Run 116 124 lo st h Q = Cnt 116 Q (xo_dup2 125 lo st h) := run_s rfl
theorem rq_X10_lift_125 {lo : Lo} {st : List Value} {h : Hp} {Q : Option Value → Hp → Prop} : Run 116 125 lo st h Q = Cnt 116 Q (xo_iald 126 lo st h) := run_s rfl
theorem rq_X10_lift_126 {lo : Lo} {st : List Value} {h : Hp} {Q : Option Value → Hp → Prop} : Run 116 126 lo st h Q = Cnt 116 Q (xo_const (.int 1) 127 lo st h) := run_s rfl
theorem rq_X10_lift_127 {lo : Lo} {st : List Value} {h : Hp} {Q : Option Value → Hp → Prop} : Run 116 127 lo st h Q = Cnt 116 Q (xo_bin (fun x y => x + y) 128 lo st h) := run_s rfl
theorem rq_X10_lift_128 {lo : Lo} {st : List Value} {h : Hp} {Q : Option Value → Hp → Prop} : Run 116 128 lo st h Q = Cnt 116 Q (xo_iast 129 lo st h) := run_s rfl
theorem rq_X10_lift_129 {lo : Lo} {st : List Value} {h : Hp} {Q : Option Value → Hp → Prop} : Run 116 129 lo st h Q = Cnt 116 Q (xo_iload 1 130 lo st h) := run_s rfl
theorem rq_X10_lift_130 {lo : Lo} {st : List Value} {h : Hp} {Q : Option Value → Hp → Prop} : Run 116 130 lo st h Q = Cnt 116 Q (xo_iret lo st h) := run_s rfl
theorem rq_X10_undo_0 {lo : Lo} {st : List Value} {h : Hp} {Q : Option Value → Hp → Prop} : Run 117 0 lo st h Q = Cnt 117 Q (xo_aload 0 1 lo st h) := run_s rfl
theorem rq_X10_undo_1 {lo : Lo} {st : List Value} {h : Hp} {Q : Option Value → Hp → Prop} : Run 117 1 lo st h Q = Cnt 117 Q (xo_getf 10 5 4 lo st h) := run_s rfl
theorem rq_X10_undo_4 {lo : Lo} {st : List Value} {h : Hp} {Q : Option Value → Hp → Prop} : Run 117 4 lo st h Q = Cnt 117 Q (xo_const (.int 26) 6 lo st h) := run_s rfl
theorem rq_X10_undo_6 {lo : Lo} {st : List Value} {h : Hp} {Q : Option Value → Hp → Prop} : Run 117 6 lo st h Q = Cnt 117 Q (xo_iald 7 lo st h) := run_s rfl
theorem rq_X10_undo_7 {lo : Lo} {st : List Value} {h : Hp} {Q : Option Value → Hp → Prop} : Run 117 7 lo st h Q = Cnt 117 Q (xo_if1 (fun x => decide (¬ x = 0)) 13 10 lo st h) := run_s rfl
theorem rq_X10_undo_10 {lo : Lo} {st : List Value} {h : Hp} {Q : Option Value → Hp → Prop} : Run 117 10 lo st h Q = Cnt 117 Q (xo_const (.int (-3)) 12 lo st h) := run_s rfl
theorem rq_X10_undo_12 {lo : Lo} {st : List Value} {h : Hp} {Q : Option Value → Hp → Prop} : Run 117 12 lo st h Q = Cnt 117 Q (xo_iret lo st h) := run_s rfl
theorem rq_X10_undo_13 {lo : Lo} {st : List Value} {h : Hp} {Q : Option Value → Hp → Prop} : Run 117 13 lo st h Q = Cnt 117 Q (xo_aload 0 14 lo st h) := run_s rfl
theorem rq_X10_undo_14 {lo : Lo} {st : List Value} {h : Hp} {Q : Option Value → Hp → Prop} : Run 117 14 lo st h Q = Cnt 117 Q (xo_getf 10 5 17 lo st h) := run_s rfl
theorem rq_X10_undo_17 {lo : Lo} {st : List Value} {h : Hp} {Q : Option Value → Hp → Prop} : Run 117 17 lo st h Q = Cnt 117 Q (xo_const (.int 26) 19 lo st h) := run_s rfl
theorem rq_X10_undo_19 {lo : Lo} {st : List Value} {h : Hp} {Q : Option Value → Hp → Prop} : Run 117 19 lo st h Q = Cnt 117 Q (xo_dup2 20 lo st h) := run_s rfl
theorem rq_X10_undo_20 {lo : Lo} {st : List Value} {h : Hp} {Q : Option Value → Hp → Prop} : Run 117 20 lo st h Q = Cnt 117 Q (xo_iald 21 lo st h) := run_s rfl
theorem rq_X10_undo_21 {lo : Lo} {st : List Value} {h : Hp} {Q : Option Value → Hp → Prop} : Run 117 21 lo st h Q = Cnt 117 Q (xo_const (.int 1) 22 lo st h) := run_s rfl
theorem rq_X10_undo_22 {lo : Lo} {st : List Value} {h : Hp} {Q : Option Value → Hp → Prop} : Run 117 22 lo st h Q = Cnt 117 Q (xo_bin (fun x y => x - y) 23 lo st h) := run_s rfl
theorem rq_X10_undo_23 {lo : Lo} {st : List Value} {h : Hp} {Q : Option Value → Hp → Prop} : Run 117 23 lo st h Q = Cnt 117 Q (xo_iast 24 lo st h) := run_s rfl
theorem rq_X10_undo_24 {lo : Lo} {st : List Value} {h : Hp} {Q : Option Value → Hp → Prop} : Run 117 24 lo st h Q = Cnt 117 Q (xo_aload 0 25 lo st h) := run_s rfl
theorem rq_X10_undo_25 {lo : Lo} {st : List Value} {h : Hp} {Q : Option Value → Hp → Prop} : Run 117 25 lo st h Q = Cnt 117 Q (xo_getf 10 5 28 lo st h) := run_s rfl
theorem rq_X10_undo_28 {lo : Lo} {st : List Value} {h : Hp} {Q : Option Value → Hp → Prop} : Run 117 28 lo st h Q = Cnt 117 Q (xo_const (.int 26) 30 lo st h) := run_s rfl
theorem rq_X10_undo_30 {lo : Lo} {st : List Value} {h : Hp} {Q : Option Value → Hp → Prop} : Run 117 30 lo st h Q = Cnt 117 Q (xo_iald 31 lo st h) := run_s rfl
theorem rq_X10_undo_31 {lo : Lo} {st : List Value} {h : Hp} {Q : Option Value → Hp → Prop} : Run 117 31 lo st h Q = Cnt 117 Q (xo_iret lo st h) := run_s rfl
theorem rq_X10_isStroke_0 {lo : Lo} {st : List Value} {h : Hp} {Q : Option Value → Hp → Prop} : Run 118 0 lo st h Q = Cnt 118 Q (xo_iload 1 1 lo st h) := run_s rfl
theorem rq_X10_isStroke_1 {lo : Lo} {st : List Value} {h : Hp} {Q : Option Value → Hp → Prop} : Run 118 1 lo st h Q = Cnt 118 Q (xo_const (.int 0) 2 lo st h) := run_s rfl
theorem rq_X10_isStroke_2 {lo : Lo} {st : List Value} {h : Hp} {Q : Option Value → Hp → Prop} : Run 118 2 lo st h Q = Cnt 118 Q (xo_aload 0 3 lo st h) := run_s rfl
theorem rq_X10_isStroke_3 {lo : Lo} {st : List Value} {h : Hp} {Q : Option Value → Hp → Prop} : Run 118 3 lo st h Q = Cnt 118 Q (xo_getf 10 5 6 lo st h) := run_s rfl
theorem rq_X10_isStroke_6 {lo : Lo} {st : List Value} {h : Hp} {Q : Option Value → Hp → Prop} : Run 118 6 lo st h Q = Cnt 118 Q (xo_const (.int 26) 8 lo st h) := run_s rfl
theorem rq_X10_isStroke_8 {lo : Lo} {st : List Value} {h : Hp} {Q : Option Value → Hp → Prop} : Run 118 8 lo st h Q = Cnt 118 Q (xo_iald 9 lo st h) := run_s rfl
theorem rq_X10_isStroke_9 {lo : Lo} {st : List Value} {h : Hp} {Q : Option Value → Hp → Prop} : Run 118 9 lo st h Q = Cnt 118 Q (xo_const (.int 1) 10 lo st h) := run_s rfl
theorem rq_X10_isStroke_10 {lo : Lo} {st : List Value} {h : Hp} {Q : Option Value → Hp → Prop} : Run 118 10 lo st h Q = Cnt 118 Q (xo_bin (fun x y => x - y) 11 lo st h) := run_s rfl
theorem rq_X10_isStroke_11 {lo : Lo} {st : List Value} {h : Hp} {Q : Option Value → Hp → Prop} : Run 118 11 lo st h Q = CCall 111 3 none st h (Knt 118 14 lo (st.drop 3) Q) := run_c rfl
theorem rq_X10_isStroke_14 {lo : Lo} {st : List Value} {h : Hp} {Q : Option Value → Hp → Prop} : Run 118 14 lo st h Q = Cnt 118 Q (xo_zret lo st h) := run_s rfl
theorem rq_X10_ofStroke_0 {lo : Lo} {st : List Value} {h : Hp} {Q : Option Value → Hp → Prop} : Run 119 0 lo st h Q = Cnt 119 Q (xo_aload 0 1 lo st h) := run_s rfl
theorem rq_X10_ofStroke_1 {lo : Lo} {st : List Value} {h : Hp} {Q : Option Value → Hp → Prop} : Run 119 1 lo st h Q = Cnt 119 Q (xo_iload 1 2 lo st h) := run_s rfl
theorem rq_X10_ofStroke_2 {lo : Lo} {st : List Value} {h : Hp} {Q : Option Value → Hp → Prop} : Run 119 2 lo st h Q = CCall 118 2 (some 10) st h (Knt 119 5 lo (st.drop 2) Q) := run_c rfl
theorem rq_X10_ofStroke_5 {lo : Lo} {st : List Value} {h : Hp} {Q : Option Value → Hp → Prop} : Run 119 5 lo st h Q = Cnt 119 Q (xo_if1 (fun x => decide (¬ x = 0)) 10 8 lo st h) := run_s rfl
theorem rq_X10_ofStroke_8 {lo : Lo} {st : List Value} {h : Hp} {Q : Option Value → Hp → Prop} : Run 119 8 lo st h Q = Cnt 119 Q (xo_const (.int (-1)) 9 lo st h) := run_s rfl
theorem rq_X10_ofStroke_9 {lo : Lo} {st : List Value} {h : Hp} {Q : Option Value → Hp → Prop} : Run 119 9 lo st h Q = Cnt 119 Q (xo_iret lo st h) := run_s rfl
theorem rq_X10_ofStroke_10 {lo : Lo} {st : List Value} {h : Hp} {Q : Option Value → Hp → Prop} : Run 119 10 lo st h Q = Cnt 119 Q (xo_const (.int 156) 13 lo st h) := run_s rfl
theorem rq_X10_ofStroke_13 {lo : Lo} {st : List Value} {h : Hp} {Q : Option Value → Hp → Prop} : Run 119 13 lo st h Q = Cnt 119 Q (xo_iload 1 14 lo st h) := run_s rfl
theorem rq_X10_ofStroke_14 {lo : Lo} {st : List Value} {h : Hp} {Q : Option Value → Hp → Prop} : Run 119 14 lo st h Q = Cnt 119 Q (xo_bin (fun x y => x + y) 15 lo st h) := run_s rfl
theorem rq_X10_ofStroke_15 {lo : Lo} {st : List Value} {h : Hp} {Q : Option Value → Hp → Prop} : Run 119 15 lo st h Q = Cnt 119 Q (xo_istore 3 16 lo st h) := run_s rfl
theorem rq_X10_ofStroke_16 {lo : Lo} {st : List Value} {h : Hp} {Q : Option Value → Hp → Prop} : Run 119 16 lo st h Q = Cnt 119 Q (xo_iload 2 17 lo st h) := run_s rfl
theorem rq_X10_ofStroke_17 {lo : Lo} {st : List Value} {h : Hp} {Q : Option Value → Hp → Prop} : Run 119 17 lo st h Q = Cnt 119 Q (xo_sw (xtab 17 88 0 4 #[35, 42, 49, 56, 66]) lo st h) := run_s rfl
theorem rq_X10_ofStroke_52 {lo : Lo} {st : List Value} {h : Hp} {Q : Option Value → Hp → Prop} : Run 119 52 lo st h Q = Cnt 119 Q (xo_aload 0 53 lo st h) := run_s rfl
theorem rq_X10_ofStroke_53 {lo : Lo} {st : List Value} {h : Hp} {Q : Option Value → Hp → Prop} : Run 119 53 lo st h Q = Cnt 119 Q (xo_getf 10 6 56 lo st h) := run_s rfl
theorem rq_X10_ofStroke_56 {lo : Lo} {st : List Value} {h : Hp} {Q : Option Value → Hp → Prop} : Run 119 56 lo st h Q = Cnt 119 Q (xo_iload 3 57 lo st h) := run_s rfl
theorem rq_X10_ofStroke_57 {lo : Lo} {st : List Value} {h : Hp} {Q : Option Value → Hp → Prop} : Run 119 57 lo st h Q = Cnt 119 Q (xo_iald 58 lo st h) := run_s rfl
theorem rq_X10_ofStroke_58 {lo : Lo} {st : List Value} {h : Hp} {Q : Option Value → Hp → Prop} : Run 119 58 lo st h Q = Cnt 119 Q (xo_iret lo st h) := run_s rfl
theorem rq_X10_ofStroke_59 {lo : Lo} {st : List Value} {h : Hp} {Q : Option Value → Hp → Prop} : Run 119 59 lo st h Q = Cnt 119 Q (xo_aload 0 60 lo st h) := run_s rfl
theorem rq_X10_ofStroke_60 {lo : Lo} {st : List Value} {h : Hp} {Q : Option Value → Hp → Prop} : Run 119 60 lo st h Q = Cnt 119 Q (xo_getf 10 7 63 lo st h) := run_s rfl
theorem rq_X10_ofStroke_63 {lo : Lo} {st : List Value} {h : Hp} {Q : Option Value → Hp → Prop} : Run 119 63 lo st h Q = Cnt 119 Q (xo_iload 3 64 lo st h) := run_s rfl
theorem rq_X10_ofStroke_64 {lo : Lo} {st : List Value} {h : Hp} {Q : Option Value → Hp → Prop} : Run 119 64 lo st h Q = Cnt 119 Q (xo_iald 65 lo st h) := run_s rfl
theorem rq_X10_ofStroke_65 {lo : Lo} {st : List Value} {h : Hp} {Q : Option Value → Hp → Prop} : Run 119 65 lo st h Q = Cnt 119 Q (xo_iret lo st h) := run_s rfl
theorem rq_X10_ofStroke_66 {lo : Lo} {st : List Value} {h : Hp} {Q : Option Value → Hp → Prop} : Run 119 66 lo st h Q = Cnt 119 Q (xo_aload 0 67 lo st h) := run_s rfl
theorem rq_X10_ofStroke_67 {lo : Lo} {st : List Value} {h : Hp} {Q : Option Value → Hp → Prop} : Run 119 67 lo st h Q = Cnt 119 Q (xo_getf 10 8 70 lo st h) := run_s rfl
theorem rq_X10_ofStroke_70 {lo : Lo} {st : List Value} {h : Hp} {Q : Option Value → Hp → Prop} : Run 119 70 lo st h Q = Cnt 119 Q (xo_iload 3 71 lo st h) := run_s rfl
theorem rq_X10_ofStroke_71 {lo : Lo} {st : List Value} {h : Hp} {Q : Option Value → Hp → Prop} : Run 119 71 lo st h Q = Cnt 119 Q (xo_iald 72 lo st h) := run_s rfl
theorem rq_X10_ofStroke_72 {lo : Lo} {st : List Value} {h : Hp} {Q : Option Value → Hp → Prop} : Run 119 72 lo st h Q = Cnt 119 Q (xo_iret lo st h) := run_s rfl
theorem rq_X10_ofStroke_73 {lo : Lo} {st : List Value} {h : Hp} {Q : Option Value → Hp → Prop} : Run 119 73 lo st h Q = Cnt 119 Q (xo_aload 0 74 lo st h) := run_s rfl
theorem rq_X10_ofStroke_74 {lo : Lo} {st : List Value} {h : Hp} {Q : Option Value → Hp → Prop} : Run 119 74 lo st h Q = Cnt 119 Q (xo_iload 3 75 lo st h) := run_s rfl
theorem rq_X10_ofStroke_75 {lo : Lo} {st : List Value} {h : Hp} {Q : Option Value → Hp → Prop} : Run 119 75 lo st h Q = CCall 161 2 (some 10) st h (Knt 119 78 lo (st.drop 2) Q) := run_c rfl
theorem rq_X10_ofStroke_78 {lo : Lo} {st : List Value} {h : Hp} {Q : Option Value → Hp → Prop} : Run 119 78 lo st h Q = Cnt 119 Q (xo_const (.int 16384) 81 lo st h) := run_s rfl
theorem rq_X10_ofStroke_81 {lo : Lo} {st : List Value} {h : Hp} {Q : Option Value → Hp → Prop} : Run 119 81 lo st h Q = Cnt 119 Q (xo_div (fun x y => x / y) 82 lo st h) := run_s rfl
theorem rq_X10_ofStroke_82 {lo : Lo} {st : List Value} {h : Hp} {Q : Option Value → Hp → Prop} : Run 119 82 lo st h Q = Cnt 119 Q (xo_iret lo st h) := run_s rfl
theorem rq_X10_ofStroke_83 {lo : Lo} {st : List Value} {h : Hp} {Q : Option Value → Hp → Prop} : Run 119 83 lo st h Q = Cnt 119 Q (xo_aload 0 84 lo st h) := run_s rfl
theorem rq_X10_ofStroke_84 {lo : Lo} {st : List Value} {h : Hp} {Q : Option Value → Hp → Prop} : Run 119 84 lo st h Q = Cnt 119 Q (xo_iload 3 85 lo st h) := run_s rfl
theorem rq_X10_ofStroke_85 {lo : Lo} {st : List Value} {h : Hp} {Q : Option Value → Hp → Prop} : Run 119 85 lo st h Q = Cnt 119 Q (xo_aload 0 86 lo st h) := run_s rfl
theorem rq_X10_ofStroke_86 {lo : Lo} {st : List Value} {h : Hp} {Q : Option Value → Hp → Prop} : Run 119 86 lo st h Q = Cnt 119 Q (xo_getf 10 7 89 lo st h) := run_s rfl
theorem rq_X10_ofStroke_89 {lo : Lo} {st : List Value} {h : Hp} {Q : Option Value → Hp → Prop} : Run 119 89 lo st h Q = Cnt 119 Q (xo_iload 3 90 lo st h) := run_s rfl
theorem rq_X10_ofStroke_90 {lo : Lo} {st : List Value} {h : Hp} {Q : Option Value → Hp → Prop} : Run 119 90 lo st h Q = Cnt 119 Q (xo_iald 91 lo st h) := run_s rfl
theorem rq_X10_ofStroke_91 {lo : Lo} {st : List Value} {h : Hp} {Q : Option Value → Hp → Prop} : Run 119 91 lo st h Q = Cnt 119 Q (xo_aload 0 92 lo st h) := run_s rfl
theorem rq_X10_ofStroke_92 {lo : Lo} {st : List Value} {h : Hp} {Q : Option Value → Hp → Prop} : Run 119 92 lo st h Q = Cnt 119 Q (xo_getf 10 8 95 lo st h) := run_s rfl
theorem rq_X10_ofStroke_95 {lo : Lo} {st : List Value} {h : Hp} {Q : Option Value → Hp → Prop} : Run 119 95 lo st h Q = Cnt 119 Q (xo_iload 3 96 lo st h) := run_s rfl
theorem rq_X10_ofStroke_96 {lo : Lo} {st : List Value} {h : Hp} {Q : Option Value → Hp → Prop} : Run 119 96 lo st h Q = Cnt 119 Q (xo_iald 97 lo st h) := run_s rfl
theorem rq_X10_ofStroke_97 {lo : Lo} {st : List Value} {h : Hp} {Q : Option Value → Hp → Prop} : Run 119 97 lo st h Q = Cnt 119 Q (xo_aload 0 98 lo st h) := run_s rfl
theorem rq_X10_ofStroke_98 {lo : Lo} {st : List Value} {h : Hp} {Q : Option Value → Hp → Prop} : Run 119 98 lo st h Q = Cnt 119 Q (xo_getf 10 13 101 lo st h) := run_s rfl
theorem rq_X10_ofStroke_101 {lo : Lo} {st : List Value} {h : Hp} {Q : Option Value → Hp → Prop} : Run 119 101 lo st h Q = CCall 141 5 (some 10) st h (Knt 119 104 lo (st.drop 5) Q) := run_c rfl
theorem rq_X10_ofStroke_104 {lo : Lo} {st : List Value} {h : Hp} {Q : Option Value → Hp → Prop} : Run 119 104 lo st h Q = Cnt 119 Q (xo_iret lo st h) := run_s rfl
theorem rq_X10_ofStroke_105 {lo : Lo} {st : List Value} {h : Hp} {Q : Option Value → Hp → Prop} : Run 119 105 lo st h Q = Cnt 119 Q (xo_const (.int (-2)) 107 lo st h) := run_s rfl
theorem rq_X10_ofStroke_107 {lo : Lo} {st : List Value} {h : Hp} {Q : Option Value → Hp → Prop} : Run 119 107 lo st h Q = Cnt 119 Q (xo_iret lo st h) := run_s rfl
theorem rq_X10_place_0 {lo : Lo} {st : List Value} {h : Hp} {Q : Option Value → Hp → Prop} : Run 120 0 lo st h Q = Cnt 120 Q (xo_aload 0 1 lo st h) := run_s rfl
theorem rq_X10_place_1 {lo : Lo} {st : List Value} {h : Hp} {Q : Option Value → Hp → Prop} : Run 120 1 lo st h Q = Cnt 120 Q (xo_iload 1 2 lo st h) := run_s rfl
theorem rq_X10_place_2 {lo : Lo} {st : List Value} {h : Hp} {Q : Option Value → Hp → Prop} : Run 120 2 lo st h Q = CCall 118 2 (some 10) st h (Knt 120 5 lo (st.drop 2) Q) := run_c rfl
theorem rq_X10_place_5 {lo : Lo} {st : List Value} {h : Hp} {Q : Option Value → Hp → Prop} : Run 120 5 lo st h Q = Cnt 120 Q (xo_if1 (fun x => decide (x = 0)) 28 8 lo st h) := run_s rfl
theorem rq_X10_place_8 {lo : Lo} {st : List Value} {h : Hp} {Q : Option Value → Hp → Prop} : Run 120 8 lo st h Q = Cnt 120 Q (xo_iload 2 9 lo st h) := run_s rfl
theorem rq_X10_place_9 {lo : Lo} {st : List Value} {h : Hp} {Q : Option Value → Hp → Prop} : Run 120 9 lo st h Q = Cnt 120 Q (xo_const (.int 0) 10 lo st h) := run_s rfl
theorem rq_X10_place_10 {lo : Lo} {st : List Value} {h : Hp} {Q : Option Value → Hp → Prop} : Run 120 10 lo st h Q = Cnt 120 Q (xo_aload 0 11 lo st h) := run_s rfl
theorem rq_X10_place_11 {lo : Lo} {st : List Value} {h : Hp} {Q : Option Value → Hp → Prop} : Run 120 11 lo st h Q = Cnt 120 Q (xo_getf 10 6 14 lo st h) := run_s rfl
theorem rq_X10_place_14 {lo : Lo} {st : List Value} {h : Hp} {Q : Option Value → Hp → Prop} : Run 120 14 lo st h Q = Cnt 120 Q (xo_const (.int 156) 17 lo st h) := run_s rfl
theorem rq_X10_place_17 {lo : Lo} {st : List Value} {h : Hp} {Q : Option Value → Hp → Prop} : Run 120 17 lo st h Q = Cnt 120 Q (xo_iload 1 18 lo st h) := run_s rfl
theorem rq_X10_place_18 {lo : Lo} {st : List Value} {h : Hp} {Q : Option Value → Hp → Prop} : Run 120 18 lo st h Q = Cnt 120 Q (xo_bin (fun x y => x + y) 19 lo st h) := run_s rfl
theorem rq_X10_place_19 {lo : Lo} {st : List Value} {h : Hp} {Q : Option Value → Hp → Prop} : Run 120 19 lo st h Q = Cnt 120 Q (xo_iald 20 lo st h) := run_s rfl
theorem rq_X10_place_20 {lo : Lo} {st : List Value} {h : Hp} {Q : Option Value → Hp → Prop} : Run 120 20 lo st h Q = Cnt 120 Q (xo_const (.int 1) 21 lo st h) := run_s rfl
theorem rq_X10_place_21 {lo : Lo} {st : List Value} {h : Hp} {Q : Option Value → Hp → Prop} : Run 120 21 lo st h Q = Cnt 120 Q (xo_bin (fun x y => x - y) 22 lo st h) := run_s rfl
theorem rq_X10_place_22 {lo : Lo} {st : List Value} {h : Hp} {Q : Option Value → Hp → Prop} : Run 120 22 lo st h Q = CCall 111 3 none st h (Knt 120 25 lo (st.drop 3) Q) := run_c rfl
theorem rq_X10_place_25 {lo : Lo} {st : List Value} {h : Hp} {Q : Option Value → Hp → Prop} : Run 120 25 lo st h Q = Cnt 120 Q (xo_if1 (fun x => decide (¬ x = 0)) 30 28 lo st h) := run_s rfl
theorem rq_X10_place_28 {lo : Lo} {st : List Value} {h : Hp} {Q : Option Value → Hp → Prop} : Run 120 28 lo st h Q = Cnt 120 Q (xo_const (.int (-1)) 29 lo st h) := run_s rfl
theorem rq_X10_place_29 {lo : Lo} {st : List Value} {h : Hp} {Q : Option Value → Hp → Prop} : Run 120 29 lo st h Q = Cnt 120 Q (xo_iret lo st h) := run_s rfl
theorem rq_X10_place_30 {lo : Lo} {st : List Value} {h : Hp} {Q : Option Value → Hp → Prop} : Run 120 30 lo st h Q = Cnt 120 Q (xo_const (.int 8) 32 lo st h) := run_s rfl
theorem rq_X10_place_32 {lo : Lo} {st : List Value} {h : Hp} {Q : Option Value → Hp → Prop} : Run 120 32 lo st h Q = Cnt 120 Q (xo_const (.int 156) 35 lo st h) := run_s rfl
theorem rq_X10_place_35 {lo : Lo} {st : List Value} {h : Hp} {Q : Option Value → Hp → Prop} : Run 120 35 lo st h Q = Cnt 120 Q (xo_iload 1 36 lo st h) := run_s rfl
theorem rq_X10_place_36 {lo : Lo} {st : List Value} {h : Hp} {Q : Option Value → Hp → Prop} : Run 120 36 lo st h Q = Cnt 120 Q (xo_bin (fun x y => x + y) 37 lo st h) := run_s rfl
theorem rq_X10_place_37 {lo : Lo} {st : List Value} {h : Hp} {Q : Option Value → Hp → Prop} : Run 120 37 lo st h Q = Cnt 120 Q (xo_bin (fun x y => x * y) 38 lo st h) := run_s rfl
theorem rq_X10_place_38 {lo : Lo} {st : List Value} {h : Hp} {Q : Option Value → Hp → Prop} : Run 120 38 lo st h Q = Cnt 120 Q (xo_iload 2 39 lo st h) := run_s rfl
theorem rq_X10_place_39 {lo : Lo} {st : List Value} {h : Hp} {Q : Option Value → Hp → Prop} : Run 120 39 lo st h Q = Cnt 120 Q (xo_bin (fun x y => x + y) 40 lo st h) := run_s rfl
theorem rq_X10_place_40 {lo : Lo} {st : List Value} {h : Hp} {Q : Option Value → Hp → Prop} : Run 120 40 lo st h Q = Cnt 120 Q (xo_istore 4 42 lo st h) := run_s rfl
theorem rq_X10_place_42 {lo : Lo} {st : List Value} {h : Hp} {Q : Option Value → Hp → Prop} : Run 120 42 lo st h Q = Cnt 120 Q (xo_iload 3 43 lo st h) := run_s rfl
theorem rq_X10_place_43 {lo : Lo} {st : List Value} {h : Hp} {Q : Option Value → Hp → Prop} : Run 120 43 lo st h Q = Cnt 120 Q (xo_if1 (fun x => decide (¬ x = 0)) 56 46 lo st h) := run_s rfl
theorem rq_X10_place_46 {lo : Lo} {st : List Value} {h : Hp} {Q : Option Value → Hp → Prop} : Run 120 46 lo st h Q = Cnt 120 Q (xo_aload 0 47 lo st h) := run_s rfl
theorem rq_X10_place_47 {lo : Lo} {st : List Value} {h : Hp} {Q : Option Value → Hp → Prop} : Run 120 47 lo st h Q = Cnt 120 Q (xo_getf 10 9 50 lo st h) := run_s rfl
theorem rq_X10_place_50 {lo : Lo} {st : List Value} {h : Hp} {Q : Option Value → Hp → Prop} : Run 120 50 lo st h Q = Cnt 120 Q (xo_iload 4 52 lo st h) := run_s rfl
theorem rq_X10_place_52 {lo : Lo} {st : List Value} {h : Hp} {Q : Option Value → Hp → Prop} : Run 120 52 lo st h Q = Cnt 120 Q (xo_iald 53 lo st h) := run_s rfl
theorem rq_X10_place_53 {lo : Lo} {st : List Value} {h : Hp} {Q : Option Value → Hp → Prop} : Run 120 53 lo st h Q = Cnt 120 Q (xo_goto 73 lo st h) := run_s rfl
theorem rq_X10_place_56 {lo : Lo} {st : List Value} {h : Hp} {Q : Option Value → Hp → Prop} : Run 120 56 lo st h Q = Cnt 120 Q (xo_iload 3 57 lo st h) := run_s rfl
theorem rq_X10_place_57 {lo : Lo} {st : List Value} {h : Hp} {Q : Option Value → Hp → Prop} : Run 120 57 lo st h Q = Cnt 120 Q (xo_const (.int 1) 58 lo st h) := run_s rfl
theorem rq_X10_place_58 {lo : Lo} {st : List Value} {h : Hp} {Q : Option Value → Hp → Prop} : Run 120 58 lo st h Q = Cnt 120 Q (xo_if2 (fun x y => decide (¬ x = y)) 71 61 lo st h) := run_s rfl
theorem rq_X10_place_61 {lo : Lo} {st : List Value} {h : Hp} {Q : Option Value → Hp → Prop} : Run 120 61 lo st h Q = Cnt 120 Q (xo_aload 0 62 lo st h) := run_s rfl
theorem rq_X10_place_62 {lo : Lo} {st : List Value} {h : Hp} {Q : Option Value → Hp → Prop} : Run 120 62 lo st h Q = Cnt 120 Q (xo_getf 10 10 65 lo st h) := run_s rfl
theorem rq_X10_place_65 {lo : Lo} {st : List Value} {h : Hp} {Q : Option Value → Hp → Prop} : Run 120 65 lo st h Q = Cnt 120 Q (xo_iload 4 67 lo st h) := run_s rfl
theorem rq_X10_place_67 {lo : Lo} {st : List Value} {h : Hp} {Q : Option Value → Hp → Prop} : Run 120 67 lo st h Q = Cnt 120 Q (xo_iald 68 lo st h) := run_s rfl
theorem rq_X10_place_68 {lo : Lo} {st : List Value} {h : Hp} {Q : Option Value → Hp → Prop} : Run 120 68 lo st h Q = Cnt 120 Q (xo_goto 73 lo st h) := run_s rfl
theorem rq_X10_place_71 {lo : Lo} {st : List Value} {h : Hp} {Q : Option Value → Hp → Prop} : Run 120 71 lo st h Q = Cnt 120 Q (xo_const (.int (-2)) 73 lo st h) := run_s rfl
theorem rq_X10_place_73 {lo : Lo} {st : List Value} {h : Hp} {Q : Option Value → Hp → Prop} : Run 120 73 lo st h Q = Cnt 120 Q (xo_iret lo st h) := run_s rfl
theorem rq_X10_noInk_0 {lo : Lo} {st : List Value} {h : Hp} {Q : Option Value → Hp → Prop} : Run 121 0 lo st h Q = Cnt 121 Q (xo_const (.int 0) 1 lo st h) := run_s rfl
theorem rq_X10_noInk_1 {lo : Lo} {st : List Value} {h : Hp} {Q : Option Value → Hp → Prop} : Run 121 1 lo st h Q = Cnt 121 Q (xo_istore 1 2 lo st h) := run_s rfl
theorem rq_X10_noInk_2 {lo : Lo} {st : List Value} {h : Hp} {Q : Option Value → Hp → Prop} : Run 121 2 lo st h Q = Cnt 121 Q (xo_iload 1 3 lo st h) := run_s rfl
theorem rq_X10_noInk_3 {lo : Lo} {st : List Value} {h : Hp} {Q : Option Value → Hp → Prop} : Run 121 3 lo st h Q = Cnt 121 Q (xo_const (.int 32) 5 lo st h) := run_s rfl
theorem rq_X10_noInk_5 {lo : Lo} {st : List Value} {h : Hp} {Q : Option Value → Hp → Prop} : Run 121 5 lo st h Q = Cnt 121 Q (xo_if2 (fun x y => decide (x ≥ y)) 21 8 lo st h) := run_s rfl
theorem rq_X10_noInk_8 {lo : Lo} {st : List Value} {h : Hp} {Q : Option Value → Hp → Prop} : Run 121 8 lo st h Q = Cnt 121 Q (xo_aload 0 9 lo st h) := run_s rfl
theorem rq_X10_noInk_9 {lo : Lo} {st : List Value} {h : Hp} {Q : Option Value → Hp → Prop} : Run 121 9 lo st h Q = Cnt 121 Q (xo_getf 10 11 12 lo st h) := run_s rfl
theorem rq_X10_noInk_12 {lo : Lo} {st : List Value} {h : Hp} {Q : Option Value → Hp → Prop} : Run 121 12 lo st h Q = Cnt 121 Q (xo_iload 1 13 lo st h) := run_s rfl
theorem rq_X10_noInk_13 {lo : Lo} {st : List Value} {h : Hp} {Q : Option Value → Hp → Prop} : Run 121 13 lo st h Q = Cnt 121 Q (xo_const (.int 0) 14 lo st h) := run_s rfl
theorem rq_X10_noInk_14 {lo : Lo} {st : List Value} {h : Hp} {Q : Option Value → Hp → Prop} : Run 121 14 lo st h Q = Cnt 121 Q (xo_iast 15 lo st h) := run_s rfl
theorem rq_X10_noInk_15 {lo : Lo} {st : List Value} {h : Hp} {Q : Option Value → Hp → Prop} : Run 121 15 lo st h Q = Cnt 121 Q (xo_iinc 1 1 18 lo st h) := run_s rfl
theorem rq_X10_noInk_18 {lo : Lo} {st : List Value} {h : Hp} {Q : Option Value → Hp → Prop} : Run 121 18 lo st h Q = Cnt 121 Q (xo_goto 2 lo st h) := run_s rfl
theorem rq_X10_noInk_21 {lo : Lo} {st : List Value} {h : Hp} {Q : Option Value → Hp → Prop} : Run 121 21 lo st h Q = Cnt 121 Q (xo_vret lo st h) := run_s rfl
theorem rq_X10_isUpTo_0 {lo : Lo} {st : List Value} {h : Hp} {Q : Option Value → Hp → Prop} : Run 122 0 lo st h Q = Cnt 122 Q (xo_iload 1 1 lo st h) := run_s rfl
theorem rq_X10_isUpTo_1 {lo : Lo} {st : List Value} {h : Hp} {Q : Option Value → Hp → Prop} : Run 122 1 lo st h Q = Cnt 122 Q (xo_if1 (fun x => decide (x ≤ 0)) 21 4 lo st h) := run_s rfl
theorem rq_X10_isUpTo_4 {lo : Lo} {st : List Value} {h : Hp} {Q : Option Value → Hp → Prop} : Run 122 4 lo st h Q = Cnt 122 Q (xo_iload 0 5 lo st h) := run_s rfl
theorem rq_X10_isUpTo_5 {lo : Lo} {st : List Value} {h : Hp} {Q : Option Value → Hp → Prop} : Run 122 5 lo st h Q = Cnt 122 Q (xo_if1 (fun x => decide (x < 0)) 17 8 lo st h) := run_s rfl
theorem rq_X10_isUpTo_8 {lo : Lo} {st : List Value} {h : Hp} {Q : Option Value → Hp → Prop} : Run 122 8 lo st h Q = Cnt 122 Q (xo_iload 0 9 lo st h) := run_s rfl
theorem rq_X10_isUpTo_9 {lo : Lo} {st : List Value} {h : Hp} {Q : Option Value → Hp → Prop} : Run 122 9 lo st h Q = Cnt 122 Q (xo_iload 1 10 lo st h) := run_s rfl
theorem rq_X10_isUpTo_10 {lo : Lo} {st : List Value} {h : Hp} {Q : Option Value → Hp → Prop} : Run 122 10 lo st h Q = Cnt 122 Q (xo_if2 (fun x y => decide (x > y)) 17 13 lo st h) := run_s rfl
theorem rq_X10_isUpTo_13 {lo : Lo} {st : List Value} {h : Hp} {Q : Option Value → Hp → Prop} : Run 122 13 lo st h Q = Cnt 122 Q (xo_const (.int 1) 14 lo st h) := run_s rfl
theorem rq_X10_isUpTo_14 {lo : Lo} {st : List Value} {h : Hp} {Q : Option Value → Hp → Prop} : Run 122 14 lo st h Q = Cnt 122 Q (xo_goto 35 lo st h) := run_s rfl
theorem rq_X10_isUpTo_17 {lo : Lo} {st : List Value} {h : Hp} {Q : Option Value → Hp → Prop} : Run 122 17 lo st h Q = Cnt 122 Q (xo_const (.int 0) 18 lo st h) := run_s rfl
theorem rq_X10_isUpTo_18 {lo : Lo} {st : List Value} {h : Hp} {Q : Option Value → Hp → Prop} : Run 122 18 lo st h Q = Cnt 122 Q (xo_goto 35 lo st h) := run_s rfl
theorem rq_X10_isUpTo_21 {lo : Lo} {st : List Value} {h : Hp} {Q : Option Value → Hp → Prop} : Run 122 21 lo st h Q = Cnt 122 Q (xo_iload 0 22 lo st h) := run_s rfl
theorem rq_X10_isUpTo_22 {lo : Lo} {st : List Value} {h : Hp} {Q : Option Value → Hp → Prop} : Run 122 22 lo st h Q = Cnt 122 Q (xo_if1 (fun x => decide (x > 0)) 34 25 lo st h) := run_s rfl
theorem rq_X10_isUpTo_25 {lo : Lo} {st : List Value} {h : Hp} {Q : Option Value → Hp → Prop} : Run 122 25 lo st h Q = Cnt 122 Q (xo_iload 0 26 lo st h) := run_s rfl
theorem rq_X10_isUpTo_26 {lo : Lo} {st : List Value} {h : Hp} {Q : Option Value → Hp → Prop} : Run 122 26 lo st h Q = Cnt 122 Q (xo_iload 1 27 lo st h) := run_s rfl
theorem rq_X10_isUpTo_27 {lo : Lo} {st : List Value} {h : Hp} {Q : Option Value → Hp → Prop} : Run 122 27 lo st h Q = Cnt 122 Q (xo_if2 (fun x y => decide (x < y)) 34 30 lo st h) := run_s rfl
theorem rq_X10_isUpTo_30 {lo : Lo} {st : List Value} {h : Hp} {Q : Option Value → Hp → Prop} : Run 122 30 lo st h Q = Cnt 122 Q (xo_const (.int 1) 31 lo st h) := run_s rfl
theorem rq_X10_isUpTo_31 {lo : Lo} {st : List Value} {h : Hp} {Q : Option Value → Hp → Prop} : Run 122 31 lo st h Q = Cnt 122 Q (xo_goto 35 lo st h) := run_s rfl
theorem rq_X10_isUpTo_34 {lo : Lo} {st : List Value} {h : Hp} {Q : Option Value → Hp → Prop} : Run 122 34 lo st h Q = Cnt 122 Q (xo_const (.int 0) 35 lo st h) := run_s rfl
theorem rq_X10_isUpTo_35 {lo : Lo} {st : List Value} {h : Hp} {Q : Option Value → Hp → Prop} : Run 122 35 lo st h Q = Cnt 122 Q (xo_zret lo st h) := run_s rfl
theorem rq_X10_size_0 {lo : Lo} {st : List Value} {h : Hp} {Q : Option Value → Hp → Prop} : Run 123 0 lo st h Q = Cnt 123 Q (xo_iload 0 1 lo st h) := run_s rfl
theorem rq_X10_size_1 {lo : Lo} {st : List Value} {h : Hp} {Q : Option Value → Hp → Prop} : Run 123 1 lo st h Q = Cnt 123 Q (xo_if1 (fun x => decide (x ≥ 0)) 9 4 lo st h) := run_s rfl
theorem rq_X10_size_4 {lo : Lo} {st : List Value} {h : Hp} {Q : Option Value → Hp → Prop} : Run 123 4 lo st h Q = Cnt 123 Q (xo_iload 0 5 lo st h) := run_s rfl
theorem rq_X10_size_5 {lo : Lo} {st : List Value} {h : Hp} {Q : Option Value → Hp → Prop} : Run 123 5 lo st h Q = Cnt 123 Q (xo_un (fun x => -x) 6 lo st h) := run_s rfl
theorem rq_X10_size_6 {lo : Lo} {st : List Value} {h : Hp} {Q : Option Value → Hp → Prop} : Run 123 6 lo st h Q = Cnt 123 Q (xo_goto 10 lo st h) := run_s rfl
theorem rq_X10_size_9 {lo : Lo} {st : List Value} {h : Hp} {Q : Option Value → Hp → Prop} : Run 123 9 lo st h Q = Cnt 123 Q (xo_iload 0 10 lo st h) := run_s rfl
theorem rq_X10_size_10 {lo : Lo} {st : List Value} {h : Hp} {Q : Option Value → Hp → Prop} : Run 123 10 lo st h Q = Cnt 123 Q (xo_iret lo st h) := run_s rfl
theorem rq_X10_isCovered_0 {lo : Lo} {st : List Value} {h : Hp} {Q : Option Value → Hp → Prop} : Run 124 0 lo st h Q = Cnt 124 Q (xo_iload 2 1 lo st h) := run_s rfl
theorem rq_X10_isCovered_1 {lo : Lo} {st : List Value} {h : Hp} {Q : Option Value → Hp → Prop} : Run 124 1 lo st h Q = Cnt 124 Q (xo_iload 1 2 lo st h) := run_s rfl
theorem rq_X10_isCovered_2 {lo : Lo} {st : List Value} {h : Hp} {Q : Option Value → Hp → Prop} : Run 124 2 lo st h Q = Cnt 124 Q (xo_bin (fun x y => x * y) 3 lo st h) := run_s rfl
theorem rq_X10_isCovered_3 {lo : Lo} {st : List Value} {h : Hp} {Q : Option Value → Hp → Prop} : Run 124 3 lo st h Q = Cnt 124 Q (xo_iload 3 4 lo st h) := run_s rfl
theorem rq_X10_isCovered_4 {lo : Lo} {st : List Value} {h : Hp} {Q : Option Value → Hp → Prop} : Run 124 4 lo st h Q = Cnt 124 Q (xo_iload 0 5 lo st h) := run_s rfl
theorem rq_X10_isCovered_5 {lo : Lo} {st : List Value} {h : Hp} {Q : Option Value → Hp → Prop} : Run 124 5 lo st h Q = Cnt 124 Q (xo_bin (fun x y => x * y) 6 lo st h) := run_s rfl
theorem rq_X10_isCovered_6 {lo : Lo} {st : List Value} {h : Hp} {Q : Option Value → Hp → Prop} : Run 124 6 lo st h Q = Cnt 124 Q (xo_bin (fun x y => x - y) 7 lo st h) := run_s rfl
theorem rq_X10_isCovered_7 {lo : Lo} {st : List Value} {h : Hp} {Q : Option Value → Hp → Prop} : Run 124 7 lo st h Q = Cnt 124 Q (xo_istore 6 9 lo st h) := run_s rfl
theorem rq_X10_isCovered_9 {lo : Lo} {st : List Value} {h : Hp} {Q : Option Value → Hp → Prop} : Run 124 9 lo st h Q = Cnt 124 Q (xo_iload 2 10 lo st h) := run_s rfl
theorem rq_X10_isCovered_10 {lo : Lo} {st : List Value} {h : Hp} {Q : Option Value → Hp → Prop} : Run 124 10 lo st h Q = Cnt 124 Q (xo_iload 5 12 lo st h) := run_s rfl
theorem rq_X10_isCovered_12 {lo : Lo} {st : List Value} {h : Hp} {Q : Option Value → Hp → Prop} : Run 124 12 lo st h Q = Cnt 124 Q (xo_bin (fun x y => x * y) 13 lo st h) := run_s rfl
theorem rq_X10_isCovered_13 {lo : Lo} {st : List Value} {h : Hp} {Q : Option Value → Hp → Prop} : Run 124 13 lo st h Q = Cnt 124 Q (xo_iload 3 14 lo st h) := run_s rfl
theorem rq_X10_isCovered_14 {lo : Lo} {st : List Value} {h : Hp} {Q : Option Value → Hp → Prop} : Run 124 14 lo st h Q = Cnt 124 Q (xo_iload 4 16 lo st h) := run_s rfl
theorem rq_X10_isCovered_16 {lo : Lo} {st : List Value} {h : Hp} {Q : Option Value → Hp → Prop} : Run 124 16 lo st h Q = Cnt 124 Q (xo_bin (fun x y => x * y) 17 lo st h) := run_s rfl
theorem rq_X10_isCovered_17 {lo : Lo} {st : List Value} {h : Hp} {Q : Option Value → Hp → Prop} : Run 124 17 lo st h Q = Cnt 124 Q (xo_bin (fun x y => x - y) 18 lo st h) := run_s rfl
theorem rq_X10_isCovered_18 {lo : Lo} {st : List Value} {h : Hp} {Q : Option Value → Hp → Prop} : Run 124 18 lo st h Q = Cnt 124 Q (xo_istore 7 20 lo st h) := run_s rfl
theorem rq_X10_isCovered_20 {lo : Lo} {st : List Value} {h : Hp} {Q : Option Value → Hp → Prop} : Run 124 20 lo st h Q = Cnt 124 Q (xo_iload 6 22 lo st h) := run_s rfl
theorem rq_X10_isCovered_22 {lo : Lo} {st : List Value} {h : Hp} {Q : Option Value → Hp → Prop} : Run 124 22 lo st h Q = Cnt 124 Q (xo_if1 (fun x => decide (x = 0)) 61 25 lo st h) := run_s rfl
theorem rq_X10_isCovered_25 {lo : Lo} {st : List Value} {h : Hp} {Q : Option Value → Hp → Prop} : Run 124 25 lo st h Q = Cnt 124 Q (xo_iload 4 27 lo st h) := run_s rfl
theorem rq_X10_isCovered_27 {lo : Lo} {st : List Value} {h : Hp} {Q : Option Value → Hp → Prop} : Run 124 27 lo st h Q = Cnt 124 Q (xo_iload 1 28 lo st h) := run_s rfl
theorem rq_X10_isCovered_28 {lo : Lo} {st : List Value} {h : Hp} {Q : Option Value → Hp → Prop} : Run 124 28 lo st h Q = Cnt 124 Q (xo_bin (fun x y => x * y) 29 lo st h) := run_s rfl
theorem rq_X10_isCovered_29 {lo : Lo} {st : List Value} {h : Hp} {Q : Option Value → Hp → Prop} : Run 124 29 lo st h Q = Cnt 124 Q (xo_iload 5 31 lo st h) := run_s rfl
theorem rq_X10_isCovered_31 {lo : Lo} {st : List Value} {h : Hp} {Q : Option Value → Hp → Prop} : Run 124 31 lo st h Q = Cnt 124 Q (xo_iload 0 32 lo st h) := run_s rfl
theorem rq_X10_isCovered_32 {lo : Lo} {st : List Value} {h : Hp} {Q : Option Value → Hp → Prop} : Run 124 32 lo st h Q = Cnt 124 Q (xo_bin (fun x y => x * y) 33 lo st h) := run_s rfl
theorem rq_X10_isCovered_33 {lo : Lo} {st : List Value} {h : Hp} {Q : Option Value → Hp → Prop} : Run 124 33 lo st h Q = Cnt 124 Q (xo_bin (fun x y => x - y) 34 lo st h) := run_s rfl
theorem rq_X10_isCovered_34 {lo : Lo} {st : List Value} {h : Hp} {Q : Option Value → Hp → Prop} : Run 124 34 lo st h Q = Cnt 124 Q (xo_iload 6 36 lo st h) := run_s rfl
theorem rq_X10_isCovered_36 {lo : Lo} {st : List Value} {h : Hp} {Q : Option Value → Hp → Prop} : Run 124 36 lo st h Q = CCall 122 2 none st h (Knt 124 39 lo (st.drop 2) Q) := run_c rfl
theorem rq_X10_isCovered_39 {lo : Lo} {st : List Value} {h : Hp} {Q : Option Value → Hp → Prop} : Run 124 39 lo st h Q = Cnt 124 Q (xo_if1 (fun x => decide (x = 0)) 59 42 lo st h) := run_s rfl
theorem rq_X10_isCovered_42 {lo : Lo} {st : List Value} {h : Hp} {Q : Option Value → Hp → Prop} : Run 124 42 lo st h Q = Cnt 124 Q (xo_iload 7 44 lo st h) := run_s rfl
theorem rq_X10_isCovered_44 {lo : Lo} {st : List Value} {h : Hp} {Q : Option Value → Hp → Prop} : Run 124 44 lo st h Q = CCall 123 1 none st h (Knt 124 47 lo (st.drop 1) Q) := run_c rfl
theorem rq_X10_isCovered_47 {lo : Lo} {st : List Value} {h : Hp} {Q : Option Value → Hp → Prop} : Run 124 47 lo st h Q = Cnt 124 Q (xo_iload 6 49 lo st h) := run_s rfl
theorem rq_X10_isCovered_49 {lo : Lo} {st : List Value} {h : Hp} {Q : Option Value → Hp → Prop} : Run 124 49 lo st h Q = CCall 123 1 none st h (Knt 124 52 lo (st.drop 1) Q) := run_c rfl
theorem rq_X10_isCovered_52 {lo : Lo} {st : List Value} {h : Hp} {Q : Option Value → Hp → Prop} : Run 124 52 lo st h Q = Cnt 124 Q (xo_if2 (fun x y => decide (x > y)) 59 55 lo st h) := run_s rfl
theorem rq_X10_isCovered_55 {lo : Lo} {st : List Value} {h : Hp} {Q : Option Value → Hp → Prop} : Run 124 55 lo st h Q = Cnt 124 Q (xo_const (.int 1) 56 lo st h) := run_s rfl
theorem rq_X10_isCovered_56 {lo : Lo} {st : List Value} {h : Hp} {Q : Option Value → Hp → Prop} : Run 124 56 lo st h Q = Cnt 124 Q (xo_goto 60 lo st h) := run_s rfl
theorem rq_X10_isCovered_59 {lo : Lo} {st : List Value} {h : Hp} {Q : Option Value → Hp → Prop} : Run 124 59 lo st h Q = Cnt 124 Q (xo_const (.int 0) 60 lo st h) := run_s rfl
theorem rq_X10_isCovered_60 {lo : Lo} {st : List Value} {h : Hp} {Q : Option Value → Hp → Prop} : Run 124 60 lo st h Q = Cnt 124 Q (xo_zret lo st h) := run_s rfl
theorem rq_X10_isCovered_61 {lo : Lo} {st : List Value} {h : Hp} {Q : Option Value → Hp → Prop} : Run 124 61 lo st h Q = Cnt 124 Q (xo_iload 2 62 lo st h) := run_s rfl
theorem rq_X10_isCovered_62 {lo : Lo} {st : List Value} {h : Hp} {Q : Option Value → Hp → Prop} : Run 124 62 lo st h Q = Cnt 124 Q (xo_if1 (fun x => decide (¬ x = 0)) 108 65 lo st h) := run_s rfl
theorem rq_X10_isCovered_65 {lo : Lo} {st : List Value} {h : Hp} {Q : Option Value → Hp → Prop} : Run 124 65 lo st h Q = Cnt 124 Q (xo_iload 3 66 lo st h) := run_s rfl
theorem rq_X10_isCovered_66 {lo : Lo} {st : List Value} {h : Hp} {Q : Option Value → Hp → Prop} : Run 124 66 lo st h Q = Cnt 124 Q (xo_if1 (fun x => decide (¬ x = 0)) 108 69 lo st h) := run_s rfl
theorem rq_X10_isCovered_69 {lo : Lo} {st : List Value} {h : Hp} {Q : Option Value → Hp → Prop} : Run 124 69 lo st h Q = Cnt 124 Q (xo_iload 4 71 lo st h) := run_s rfl
theorem rq_X10_isCovered_71 {lo : Lo} {st : List Value} {h : Hp} {Q : Option Value → Hp → Prop} : Run 124 71 lo st h Q = Cnt 124 Q (xo_iload 1 72 lo st h) := run_s rfl
theorem rq_X10_isCovered_72 {lo : Lo} {st : List Value} {h : Hp} {Q : Option Value → Hp → Prop} : Run 124 72 lo st h Q = Cnt 124 Q (xo_bin (fun x y => x * y) 73 lo st h) := run_s rfl
theorem rq_X10_isCovered_73 {lo : Lo} {st : List Value} {h : Hp} {Q : Option Value → Hp → Prop} : Run 124 73 lo st h Q = Cnt 124 Q (xo_iload 5 75 lo st h) := run_s rfl
theorem rq_X10_isCovered_75 {lo : Lo} {st : List Value} {h : Hp} {Q : Option Value → Hp → Prop} : Run 124 75 lo st h Q = Cnt 124 Q (xo_iload 0 76 lo st h) := run_s rfl
theorem rq_X10_isCovered_76 {lo : Lo} {st : List Value} {h : Hp} {Q : Option Value → Hp → Prop} : Run 124 76 lo st h Q = Cnt 124 Q (xo_bin (fun x y => x * y) 77 lo st h) := run_s rfl
theorem rq_X10_isCovered_77 {lo : Lo} {st : List Value} {h : Hp} {Q : Option Value → Hp → Prop} : Run 124 77 lo st h Q = Cnt 124 Q (xo_if2 (fun x y => decide (¬ x = y)) 106 80 lo st h) := run_s rfl
theorem rq_X10_isCovered_80 {lo : Lo} {st : List Value} {h : Hp} {Q : Option Value → Hp → Prop} : Run 124 80 lo st h Q = Cnt 124 Q (xo_iload 4 82 lo st h) := run_s rfl
theorem rq_X10_isCovered_82 {lo : Lo} {st : List Value} {h : Hp} {Q : Option Value → Hp → Prop} : Run 124 82 lo st h Q = Cnt 124 Q (xo_iload 0 83 lo st h) := run_s rfl
theorem rq_X10_isCovered_83 {lo : Lo} {st : List Value} {h : Hp} {Q : Option Value → Hp → Prop} : Run 124 83 lo st h Q = Cnt 124 Q (xo_bin (fun x y => x * y) 84 lo st h) := run_s rfl
theorem rq_X10_isCovered_84 {lo : Lo} {st : List Value} {h : Hp} {Q : Option Value → Hp → Prop} : Run 124 84 lo st h Q = Cnt 124 Q (xo_iload 5 86 lo st h) := run_s rfl
theorem rq_X10_isCovered_86 {lo : Lo} {st : List Value} {h : Hp} {Q : Option Value → Hp → Prop} : Run 124 86 lo st h Q = Cnt 124 Q (xo_iload 1 87 lo st h) := run_s rfl
theorem rq_X10_isCovered_87 {lo : Lo} {st : List Value} {h : Hp} {Q : Option Value → Hp → Prop} : Run 124 87 lo st h Q = Cnt 124 Q (xo_bin (fun x y => x * y) 88 lo st h) := run_s rfl
theorem rq_X10_isCovered_88 {lo : Lo} {st : List Value} {h : Hp} {Q : Option Value → Hp → Prop} : Run 124 88 lo st h Q = Cnt 124 Q (xo_bin (fun x y => x + y) 89 lo st h) := run_s rfl
theorem rq_X10_isCovered_89 {lo : Lo} {st : List Value} {h : Hp} {Q : Option Value → Hp → Prop} : Run 124 89 lo st h Q = CCall 123 1 none st h (Knt 124 92 lo (st.drop 1) Q) := run_c rfl
theorem rq_X10_isCovered_92 {lo : Lo} {st : List Value} {h : Hp} {Q : Option Value → Hp → Prop} : Run 124 92 lo st h Q = Cnt 124 Q (xo_iload 0 93 lo st h) := run_s rfl
theorem rq_X10_isCovered_93 {lo : Lo} {st : List Value} {h : Hp} {Q : Option Value → Hp → Prop} : Run 124 93 lo st h Q = Cnt 124 Q (xo_iload 0 94 lo st h) := run_s rfl
theorem rq_X10_isCovered_94 {lo : Lo} {st : List Value} {h : Hp} {Q : Option Value → Hp → Prop} : Run 124 94 lo st h Q = Cnt 124 Q (xo_bin (fun x y => x * y) 95 lo st h) := run_s rfl
theorem rq_X10_isCovered_95 {lo : Lo} {st : List Value} {h : Hp} {Q : Option Value → Hp → Prop} : Run 124 95 lo st h Q = Cnt 124 Q (xo_iload 1 96 lo st h) := run_s rfl
theorem rq_X10_isCovered_96 {lo : Lo} {st : List Value} {h : Hp} {Q : Option Value → Hp → Prop} : Run 124 96 lo st h Q = Cnt 124 Q (xo_iload 1 97 lo st h) := run_s rfl
theorem rq_X10_isCovered_97 {lo : Lo} {st : List Value} {h : Hp} {Q : Option Value → Hp → Prop} : Run 124 97 lo st h Q = Cnt 124 Q (xo_bin (fun x y => x * y) 98 lo st h) := run_s rfl
theorem rq_X10_isCovered_98 {lo : Lo} {st : List Value} {h : Hp} {Q : Option Value → Hp → Prop} : Run 124 98 lo st h Q = Cnt 124 Q (xo_bin (fun x y => x + y) 99 lo st h) := run_s rfl
theorem rq_X10_isCovered_99 {lo : Lo} {st : List Value} {h : Hp} {Q : Option Value → Hp → Prop} : Run 124 99 lo st h Q = Cnt 124 Q (xo_if2 (fun x y => decide (x > y)) 106 102 lo st h) := run_s rfl
theorem rq_X10_isCovered_102 {lo : Lo} {st : List Value} {h : Hp} {Q : Option Value → Hp → Prop} : Run 124 102 lo st h Q = Cnt 124 Q (xo_const (.int 1) 103 lo st h) := run_s rfl
theorem rq_X10_isCovered_103 {lo : Lo} {st : List Value} {h : Hp} {Q : Option Value → Hp → Prop} : Run 124 103 lo st h Q = Cnt 124 Q (xo_goto 107 lo st h) := run_s rfl
theorem rq_X10_isCovered_106 {lo : Lo} {st : List Value} {h : Hp} {Q : Option Value → Hp → Prop} : Run 124 106 lo st h Q = Cnt 124 Q (xo_const (.int 0) 107 lo st h) := run_s rfl
theorem rq_X10_isCovered_107 {lo : Lo} {st : List Value} {h : Hp} {Q : Option Value → Hp → Prop} : Run 124 107 lo st h Q = Cnt 124 Q (xo_zret lo st h) := run_s rfl
theorem rq_X10_isCovered_108 {lo : Lo} {st : List Value} {h : Hp} {Q : Option Value → Hp → Prop} : Run 124 108 lo st h Q = Cnt 124 Q (xo_iload 2 109 lo st h) := run_s rfl
theorem rq_X10_isCovered_109 {lo : Lo} {st : List Value} {h : Hp} {Q : Option Value → Hp → Prop} : Run 124 109 lo st h Q = Cnt 124 Q (xo_iload 0 110 lo st h) := run_s rfl
theorem rq_X10_isCovered_110 {lo : Lo} {st : List Value} {h : Hp} {Q : Option Value → Hp → Prop} : Run 124 110 lo st h Q = Cnt 124 Q (xo_bin (fun x y => x * y) 111 lo st h) := run_s rfl
theorem rq_X10_isCovered_111 {lo : Lo} {st : List Value} {h : Hp} {Q : Option Value → Hp → Prop} : Run 124 111 lo st h Q = Cnt 124 Q (xo_iload 3 112 lo st h) := run_s rfl
theorem rq_X10_isCovered_112 {lo : Lo} {st : List Value} {h : Hp} {Q : Option Value → Hp → Prop} : Run 124 112 lo st h Q = Cnt 124 Q (xo_iload 1 113 lo st h) := run_s rfl
theorem rq_X10_isCovered_113 {lo : Lo} {st : List Value} {h : Hp} {Q : Option Value → Hp → Prop} : Run 124 113 lo st h Q = Cnt 124 Q (xo_bin (fun x y => x * y) 114 lo st h) := run_s rfl
theorem rq_X10_isCovered_114 {lo : Lo} {st : List Value} {h : Hp} {Q : Option Value → Hp → Prop} : Run 124 114 lo st h Q = Cnt 124 Q (xo_bin (fun x y => x + y) 115 lo st h) := run_s rfl
theorem rq_X10_isCovered_115 {lo : Lo} {st : List Value} {h : Hp} {Q : Option Value → Hp → Prop} : Run 124 115 lo st h Q = CCall 123 1 none st h (Knt 124 118 lo (st.drop 1) Q) := run_c rfl
theorem rq_X10_isCovered_118 {lo : Lo} {st : List Value} {h : Hp} {Q : Option Value → Hp → Prop} : Run 124 118 lo st h Q = Cnt 124 Q (xo_istore 8 120 lo st h) := run_s rfl
theorem rq_X10_isCovered_120 {lo : Lo} {st : List Value} {h : Hp} {Q : Option Value → Hp → Prop} : Run 124 120 lo st h Q = Cnt 124 Q (xo_iload 4 122 lo st h) := run_s rfl
theorem rq_X10_isCovered_122 {lo : Lo} {st : List Value} {h : Hp} {Q : Option Value → Hp → Prop} : Run 124 122 lo st h Q = Cnt 124 Q (xo_iload 2 123 lo st h) := run_s rfl
theorem rq_X10_isCovered_123 {lo : Lo} {st : List Value} {h : Hp} {Q : Option Value → Hp → Prop} : Run 124 123 lo st h Q = Cnt 124 Q (xo_bin (fun x y => x * y) 124 lo st h) := run_s rfl
theorem rq_X10_isCovered_124 {lo : Lo} {st : List Value} {h : Hp} {Q : Option Value → Hp → Prop} : Run 124 124 lo st h Q = Cnt 124 Q (xo_iload 5 126 lo st h) := run_s rfl
theorem rq_X10_isCovered_126 {lo : Lo} {st : List Value} {h : Hp} {Q : Option Value → Hp → Prop} : Run 124 126 lo st h Q = Cnt 124 Q (xo_iload 3 127 lo st h) := run_s rfl
theorem rq_X10_isCovered_127 {lo : Lo} {st : List Value} {h : Hp} {Q : Option Value → Hp → Prop} : Run 124 127 lo st h Q = Cnt 124 Q (xo_bin (fun x y => x * y) 128 lo st h) := run_s rfl
theorem rq_X10_isCovered_128 {lo : Lo} {st : List Value} {h : Hp} {Q : Option Value → Hp → Prop} : Run 124 128 lo st h Q = Cnt 124 Q (xo_bin (fun x y => x + y) 129 lo st h) := run_s rfl
theorem rq_X10_isCovered_129 {lo : Lo} {st : List Value} {h : Hp} {Q : Option Value → Hp → Prop} : Run 124 129 lo st h Q = Cnt 124 Q (xo_istore 9 131 lo st h) := run_s rfl
theorem rq_X10_isCovered_131 {lo : Lo} {st : List Value} {h : Hp} {Q : Option Value → Hp → Prop} : Run 124 131 lo st h Q = Cnt 124 Q (xo_iload 7 133 lo st h) := run_s rfl
theorem rq_X10_isCovered_133 {lo : Lo} {st : List Value} {h : Hp} {Q : Option Value → Hp → Prop} : Run 124 133 lo st h Q = Cnt 124 Q (xo_if1 (fun x => decide (¬ x = 0)) 163 136 lo st h) := run_s rfl
theorem rq_X10_isCovered_136 {lo : Lo} {st : List Value} {h : Hp} {Q : Option Value → Hp → Prop} : Run 124 136 lo st h Q = Cnt 124 Q (xo_iload 9 138 lo st h) := run_s rfl
theorem rq_X10_isCovered_138 {lo : Lo} {st : List Value} {h : Hp} {Q : Option Value → Hp → Prop} : Run 124 138 lo st h Q = Cnt 124 Q (xo_iload 8 140 lo st h) := run_s rfl
theorem rq_X10_isCovered_140 {lo : Lo} {st : List Value} {h : Hp} {Q : Option Value → Hp → Prop} : Run 124 140 lo st h Q = Cnt 124 Q (xo_un (fun x => -x) 141 lo st h) := run_s rfl
theorem rq_X10_isCovered_141 {lo : Lo} {st : List Value} {h : Hp} {Q : Option Value → Hp → Prop} : Run 124 141 lo st h Q = Cnt 124 Q (xo_if2 (fun x y => decide (x < y)) 163 144 lo st h) := run_s rfl
theorem rq_X10_isCovered_144 {lo : Lo} {st : List Value} {h : Hp} {Q : Option Value → Hp → Prop} : Run 124 144 lo st h Q = Cnt 124 Q (xo_iload 9 146 lo st h) := run_s rfl
theorem rq_X10_isCovered_146 {lo : Lo} {st : List Value} {h : Hp} {Q : Option Value → Hp → Prop} : Run 124 146 lo st h Q = Cnt 124 Q (xo_iload 2 147 lo st h) := run_s rfl
theorem rq_X10_isCovered_147 {lo : Lo} {st : List Value} {h : Hp} {Q : Option Value → Hp → Prop} : Run 124 147 lo st h Q = Cnt 124 Q (xo_iload 2 148 lo st h) := run_s rfl
theorem rq_X10_isCovered_148 {lo : Lo} {st : List Value} {h : Hp} {Q : Option Value → Hp → Prop} : Run 124 148 lo st h Q = Cnt 124 Q (xo_bin (fun x y => x * y) 149 lo st h) := run_s rfl
theorem rq_X10_isCovered_149 {lo : Lo} {st : List Value} {h : Hp} {Q : Option Value → Hp → Prop} : Run 124 149 lo st h Q = Cnt 124 Q (xo_iload 3 150 lo st h) := run_s rfl
theorem rq_X10_isCovered_150 {lo : Lo} {st : List Value} {h : Hp} {Q : Option Value → Hp → Prop} : Run 124 150 lo st h Q = Cnt 124 Q (xo_iload 3 151 lo st h) := run_s rfl
theorem rq_X10_isCovered_151 {lo : Lo} {st : List Value} {h : Hp} {Q : Option Value → Hp → Prop} : Run 124 151 lo st h Q = Cnt 124 Q (xo_bin (fun x y => x * y) 152 lo st h) := run_s rfl
theorem rq_X10_isCovered_152 {lo : Lo} {st : List Value} {h : Hp} {Q : Option Value → Hp → Prop} : Run 124 152 lo st h Q = Cnt 124 Q (xo_bin (fun x y => x + y) 153 lo st h) := run_s rfl
theorem rq_X10_isCovered_153 {lo : Lo} {st : List Value} {h : Hp} {Q : Option Value → Hp → Prop} : Run 124 153 lo st h Q = Cnt 124 Q (xo_iload 8 155 lo st h) := run_s rfl
theorem rq_X10_isCovered_155 {lo : Lo} {st : List Value} {h : Hp} {Q : Option Value → Hp → Prop} : Run 124 155 lo st h Q = Cnt 124 Q (xo_bin (fun x y => x + y) 156 lo st h) := run_s rfl
theorem rq_X10_isCovered_156 {lo : Lo} {st : List Value} {h : Hp} {Q : Option Value → Hp → Prop} : Run 124 156 lo st h Q = Cnt 124 Q (xo_if2 (fun x y => decide (x > y)) 163 159 lo st h) := run_s rfl
theorem rq_X10_isCovered_159 {lo : Lo} {st : List Value} {h : Hp} {Q : Option Value → Hp → Prop} : Run 124 159 lo st h Q = Cnt 124 Q (xo_const (.int 1) 160 lo st h) := run_s rfl
theorem rq_X10_isCovered_160 {lo : Lo} {st : List Value} {h : Hp} {Q : Option Value → Hp → Prop} : Run 124 160 lo st h Q = Cnt 124 Q (xo_goto 164 lo st h) := run_s rfl
theorem rq_X10_isCovered_163 {lo : Lo} {st : List Value} {h : Hp} {Q : Option Value → Hp → Prop} : Run 124 163 lo st h Q = Cnt 124 Q (xo_const (.int 0) 164 lo st h) := run_s rfl
theorem rq_X10_isCovered_164 {lo : Lo} {st : List Value} {h : Hp} {Q : Option Value → Hp → Prop} : Run 124 164 lo st h Q = Cnt 124 Q (xo_zret lo st h) := run_s rfl
theorem rq_X10_addStep_0 {lo : Lo} {st : List Value} {h : Hp} {Q : Option Value → Hp → Prop} : Run 125 0 lo st h Q = Cnt 125 Q (xo_const (.int 0) 1 lo st h) := run_s rfl
theorem rq_X10_addStep_1 {lo : Lo} {st : List Value} {h : Hp} {Q : Option Value → Hp → Prop} : Run 125 1 lo st h Q = Cnt 125 Q (xo_istore 5 3 lo st h) := run_s rfl
theorem rq_X10_addStep_3 {lo : Lo} {st : List Value} {h : Hp} {Q : Option Value → Hp → Prop} : Run 125 3 lo st h Q = Cnt 125 Q (xo_iload 5 5 lo st h) := run_s rfl
theorem rq_X10_addStep_5 {lo : Lo} {st : List Value} {h : Hp} {Q : Option Value → Hp → Prop} : Run 125 5 lo st h Q = Cnt 125 Q (xo_const (.int 32) 7 lo st h) := run_s rfl
theorem rq_X10_addStep_7 {lo : Lo} {st : List Value} {h : Hp} {Q : Option Value → Hp → Prop} : Run 125 7 lo st h Q = Cnt 125 Q (xo_if2 (fun x y => decide (x ≥ y)) 85 10 lo st h) := run_s rfl
theorem rq_X10_addStep_10 {lo : Lo} {st : List Value} {h : Hp} {Q : Option Value → Hp → Prop} : Run 125 10 lo st h Q = Cnt 125 Q (xo_const (.int 0) 11 lo st h) := run_s rfl
theorem rq_X10_addStep_11 {lo : Lo} {st : List Value} {h : Hp} {Q : Option Value → Hp → Prop} : Run 125 11 lo st h Q = Cnt 125 Q (xo_istore 6 13 lo st h) := run_s rfl
theorem rq_X10_addStep_13 {lo : Lo} {st : List Value} {h : Hp} {Q : Option Value → Hp → Prop} : Run 125 13 lo st h Q = Cnt 125 Q (xo_iload 6 15 lo st h) := run_s rfl
theorem rq_X10_addStep_15 {lo : Lo} {st : List Value} {h : Hp} {Q : Option Value → Hp → Prop} : Run 125 15 lo st h Q = Cnt 125 Q (xo_const (.int 32) 17 lo st h) := run_s rfl
theorem rq_X10_addStep_17 {lo : Lo} {st : List Value} {h : Hp} {Q : Option Value → Hp → Prop} : Run 125 17 lo st h Q = Cnt 125 Q (xo_if2 (fun x y => decide (x ≥ y)) 79 20 lo st h) := run_s rfl
theorem rq_X10_addStep_20 {lo : Lo} {st : List Value} {h : Hp} {Q : Option Value → Hp → Prop} : Run 125 20 lo st h Q = Cnt 125 Q (xo_aload 0 21 lo st h) := run_s rfl
theorem rq_X10_addStep_21 {lo : Lo} {st : List Value} {h : Hp} {Q : Option Value → Hp → Prop} : Run 125 21 lo st h Q = Cnt 125 Q (xo_getf 10 7 24 lo st h) := run_s rfl
theorem rq_X10_addStep_24 {lo : Lo} {st : List Value} {h : Hp} {Q : Option Value → Hp → Prop} : Run 125 24 lo st h Q = Cnt 125 Q (xo_iload 1 25 lo st h) := run_s rfl
theorem rq_X10_addStep_25 {lo : Lo} {st : List Value} {h : Hp} {Q : Option Value → Hp → Prop} : Run 125 25 lo st h Q = Cnt 125 Q (xo_iald 26 lo st h) := run_s rfl
theorem rq_X10_addStep_26 {lo : Lo} {st : List Value} {h : Hp} {Q : Option Value → Hp → Prop} : Run 125 26 lo st h Q = Cnt 125 Q (xo_aload 0 27 lo st h) := run_s rfl
theorem rq_X10_addStep_27 {lo : Lo} {st : List Value} {h : Hp} {Q : Option Value → Hp → Prop} : Run 125 27 lo st h Q = Cnt 125 Q (xo_getf 10 8 30 lo st h) := run_s rfl
theorem rq_X10_addStep_30 {lo : Lo} {st : List Value} {h : Hp} {Q : Option Value → Hp → Prop} : Run 125 30 lo st h Q = Cnt 125 Q (xo_iload 1 31 lo st h) := run_s rfl
theorem rq_X10_addStep_31 {lo : Lo} {st : List Value} {h : Hp} {Q : Option Value → Hp → Prop} : Run 125 31 lo st h Q = Cnt 125 Q (xo_iald 32 lo st h) := run_s rfl
theorem rq_X10_addStep_32 {lo : Lo} {st : List Value} {h : Hp} {Q : Option Value → Hp → Prop} : Run 125 32 lo st h Q = Cnt 125 Q (xo_iload 3 33 lo st h) := run_s rfl
theorem rq_X10_addStep_33 {lo : Lo} {st : List Value} {h : Hp} {Q : Option Value → Hp → Prop} : Run 125 33 lo st h Q = Cnt 125 Q (xo_iload 4 35 lo st h) := run_s rfl
theorem rq_X10_addStep_35 {lo : Lo} {st : List Value} {h : Hp} {Q : Option Value → Hp → Prop} : Run 125 35 lo st h Q = Cnt 125 Q (xo_iload 6 37 lo st h) := run_s rfl
theorem rq_X10_addStep_37 {lo : Lo} {st : List Value} {h : Hp} {Q : Option Value → Hp → Prop} : Run 125 37 lo st h Q = Cnt 125 Q (xo_aload 0 38 lo st h) := run_s rfl
theorem rq_X10_addStep_38 {lo : Lo} {st : List Value} {h : Hp} {Q : Option Value → Hp → Prop} : Run 125 38 lo st h Q = Cnt 125 Q (xo_getf 10 9 41 lo st h) := run_s rfl
theorem rq_X10_addStep_41 {lo : Lo} {st : List Value} {h : Hp} {Q : Option Value → Hp → Prop} : Run 125 41 lo st h Q = Cnt 125 Q (xo_iload 2 42 lo st h) := run_s rfl
theorem rq_X10_addStep_42 {lo : Lo} {st : List Value} {h : Hp} {Q : Option Value → Hp → Prop} : Run 125 42 lo st h Q = Cnt 125 Q (xo_iald 43 lo st h) := run_s rfl
theorem rq_X10_addStep_43 {lo : Lo} {st : List Value} {h : Hp} {Q : Option Value → Hp → Prop} : Run 125 43 lo st h Q = Cnt 125 Q (xo_bin (fun x y => x - y) 44 lo st h) := run_s rfl
theorem rq_X10_addStep_44 {lo : Lo} {st : List Value} {h : Hp} {Q : Option Value → Hp → Prop} : Run 125 44 lo st h Q = Cnt 125 Q (xo_iload 5 46 lo st h) := run_s rfl
theorem rq_X10_addStep_46 {lo : Lo} {st : List Value} {h : Hp} {Q : Option Value → Hp → Prop} : Run 125 46 lo st h Q = Cnt 125 Q (xo_aload 0 47 lo st h) := run_s rfl
theorem rq_X10_addStep_47 {lo : Lo} {st : List Value} {h : Hp} {Q : Option Value → Hp → Prop} : Run 125 47 lo st h Q = Cnt 125 Q (xo_getf 10 10 50 lo st h) := run_s rfl
theorem rq_X10_addStep_50 {lo : Lo} {st : List Value} {h : Hp} {Q : Option Value → Hp → Prop} : Run 125 50 lo st h Q = Cnt 125 Q (xo_iload 2 51 lo st h) := run_s rfl
theorem rq_X10_addStep_51 {lo : Lo} {st : List Value} {h : Hp} {Q : Option Value → Hp → Prop} : Run 125 51 lo st h Q = Cnt 125 Q (xo_iald 52 lo st h) := run_s rfl
theorem rq_X10_addStep_52 {lo : Lo} {st : List Value} {h : Hp} {Q : Option Value → Hp → Prop} : Run 125 52 lo st h Q = Cnt 125 Q (xo_bin (fun x y => x - y) 53 lo st h) := run_s rfl
theorem rq_X10_addStep_53 {lo : Lo} {st : List Value} {h : Hp} {Q : Option Value → Hp → Prop} : Run 125 53 lo st h Q = CCall 124 6 none st h (Knt 125 56 lo (st.drop 6) Q) := run_c rfl
theorem rq_X10_addStep_56 {lo : Lo} {st : List Value} {h : Hp} {Q : Option Value → Hp → Prop} : Run 125 56 lo st h Q = Cnt 125 Q (xo_if1 (fun x => decide (x = 0)) 73 59 lo st h) := run_s rfl
theorem rq_X10_addStep_59 {lo : Lo} {st : List Value} {h : Hp} {Q : Option Value → Hp → Prop} : Run 125 59 lo st h Q = Cnt 125 Q (xo_aload 0 60 lo st h) := run_s rfl
theorem rq_X10_addStep_60 {lo : Lo} {st : List Value} {h : Hp} {Q : Option Value → Hp → Prop} : Run 125 60 lo st h Q = Cnt 125 Q (xo_getf 10 11 63 lo st h) := run_s rfl
theorem rq_X10_addStep_63 {lo : Lo} {st : List Value} {h : Hp} {Q : Option Value → Hp → Prop} : Run 125 63 lo st h Q = Cnt 125 Q (xo_iload 5 65 lo st h) := run_s rfl
theorem rq_X10_addStep_65 {lo : Lo} {st : List Value} {h : Hp} {Q : Option Value → Hp → Prop} : Run 125 65 lo st h Q = Cnt 125 Q (xo_dup2 66 lo st h) := run_s rfl
theorem rq_X10_addStep_66 {lo : Lo} {st : List Value} {h : Hp} {Q : Option Value → Hp → Prop} : Run 125 66 lo st h Q = Cnt 125 Q (xo_iald 67 lo st h) := run_s rfl
theorem rq_X10_addStep_67 {lo : Lo} {st : List Value} {h : Hp} {Q : Option Value → Hp → Prop} : Run 125 67 lo st h Q = Cnt 125 Q (xo_const (.int 1) 68 lo st h) := run_s rfl
theorem rq_X10_addStep_68 {lo : Lo} {st : List Value} {h : Hp} {Q : Option Value → Hp → Prop} : Run 125 68 lo st h Q = Cnt 125 Q (xo_iload 6 70 lo st h) := run_s rfl
theorem rq_X10_addStep_70 {lo : Lo} {st : List Value} {h : Hp} {Q : Option Value → Hp → Prop} : Run 125 70 lo st h Q = Cnt 125 Q (xo_bin (fun x y => x <<< (y &&& 31)) 71 lo st h) := run_s rfl
theorem rq_X10_addStep_71 {lo : Lo} {st : List Value} {h : Hp} {Q : Option Value → Hp → Prop} : Run 125 71 lo st h Q = Cnt 125 Q (xo_bin (fun x y => x ||| y) 72 lo st h) := run_s rfl
theorem rq_X10_addStep_72 {lo : Lo} {st : List Value} {h : Hp} {Q : Option Value → Hp → Prop} : Run 125 72 lo st h Q = Cnt 125 Q (xo_iast 73 lo st h) := run_s rfl
theorem rq_X10_addStep_73 {lo : Lo} {st : List Value} {h : Hp} {Q : Option Value → Hp → Prop} : Run 125 73 lo st h Q = Cnt 125 Q (xo_iinc 6 1 76 lo st h) := run_s rfl
theorem rq_X10_addStep_76 {lo : Lo} {st : List Value} {h : Hp} {Q : Option Value → Hp → Prop} : Run 125 76 lo st h Q = Cnt 125 Q (xo_goto 13 lo st h) := run_s rfl
theorem rq_X10_addStep_79 {lo : Lo} {st : List Value} {h : Hp} {Q : Option Value → Hp → Prop} : Run 125 79 lo st h Q = Cnt 125 Q (xo_iinc 5 1 82 lo st h) := run_s rfl
theorem rq_X10_addStep_82 {lo : Lo} {st : List Value} {h : Hp} {Q : Option Value → Hp → Prop} : Run 125 82 lo st h Q = Cnt 125 Q (xo_goto 3 lo st h) := run_s rfl
theorem rq_X10_addStep_85 {lo : Lo} {st : List Value} {h : Hp} {Q : Option Value → Hp → Prop} : Run 125 85 lo st h Q = Cnt 125 Q (xo_vret lo st h) := run_s rfl
theorem rq_X10_addStroke_0 {lo : Lo} {st : List Value} {h : Hp} {Q : Option Value → Hp → Prop} : Run 126 0 lo st h Q = Cnt 126 Q (xo_const (.int 8) 2 lo st h) := run_s rfl
theorem rq_X10_addStroke_2 {lo : Lo} {st : List Value} {h : Hp} {Q : Option Value → Hp → Prop} : Run 126 2 lo st h Q = Cnt 126 Q (xo_iload 1 3 lo st h) := run_s rfl
theorem rq_X10_addStroke_3 {lo : Lo} {st : List Value} {h : Hp} {Q : Option Value → Hp → Prop} : Run 126 3 lo st h Q = Cnt 126 Q (xo_bin (fun x y => x * y) 4 lo st h) := run_s rfl
theorem rq_X10_addStroke_4 {lo : Lo} {st : List Value} {h : Hp} {Q : Option Value → Hp → Prop} : Run 126 4 lo st h Q = Cnt 126 Q (xo_istore 2 5 lo st h) := run_s rfl
theorem rq_X10_addStroke_5 {lo : Lo} {st : List Value} {h : Hp} {Q : Option Value → Hp → Prop} : Run 126 5 lo st h Q = Cnt 126 Q (xo_iload 2 6 lo st h) := run_s rfl
theorem rq_X10_addStroke_6 {lo : Lo} {st : List Value} {h : Hp} {Q : Option Value → Hp → Prop} : Run 126 6 lo st h Q = Cnt 126 Q (xo_aload 0 7 lo st h) := run_s rfl
theorem rq_X10_addStroke_7 {lo : Lo} {st : List Value} {h : Hp} {Q : Option Value → Hp → Prop} : Run 126 7 lo st h Q = Cnt 126 Q (xo_getf 10 6 10 lo st h) := run_s rfl
theorem rq_X10_addStroke_10 {lo : Lo} {st : List Value} {h : Hp} {Q : Option Value → Hp → Prop} : Run 126 10 lo st h Q = Cnt 126 Q (xo_iload 1 11 lo st h) := run_s rfl
theorem rq_X10_addStroke_11 {lo : Lo} {st : List Value} {h : Hp} {Q : Option Value → Hp → Prop} : Run 126 11 lo st h Q = Cnt 126 Q (xo_iald 12 lo st h) := run_s rfl
theorem rq_X10_addStroke_12 {lo : Lo} {st : List Value} {h : Hp} {Q : Option Value → Hp → Prop} : Run 126 12 lo st h Q = Cnt 126 Q (xo_bin (fun x y => x + y) 13 lo st h) := run_s rfl
theorem rq_X10_addStroke_13 {lo : Lo} {st : List Value} {h : Hp} {Q : Option Value → Hp → Prop} : Run 126 13 lo st h Q = Cnt 126 Q (xo_const (.int 1) 14 lo st h) := run_s rfl
theorem rq_X10_addStroke_14 {lo : Lo} {st : List Value} {h : Hp} {Q : Option Value → Hp → Prop} : Run 126 14 lo st h Q = Cnt 126 Q (xo_bin (fun x y => x - y) 15 lo st h) := run_s rfl
theorem rq_X10_addStroke_15 {lo : Lo} {st : List Value} {h : Hp} {Q : Option Value → Hp → Prop} : Run 126 15 lo st h Q = Cnt 126 Q (xo_istore 3 16 lo st h) := run_s rfl
theorem rq_X10_addStroke_16 {lo : Lo} {st : List Value} {h : Hp} {Q : Option Value → Hp → Prop} : Run 126 16 lo st h Q = Cnt 126 Q (xo_iload 2 17 lo st h) := run_s rfl
theorem rq_X10_addStroke_17 {lo : Lo} {st : List Value} {h : Hp} {Q : Option Value → Hp → Prop} : Run 126 17 lo st h Q = Cnt 126 Q (xo_iload 3 18 lo st h) := run_s rfl
theorem rq_X10_addStroke_18 {lo : Lo} {st : List Value} {h : Hp} {Q : Option Value → Hp → Prop} : Run 126 18 lo st h Q = Cnt 126 Q (xo_if2 (fun x y => decide (¬ x = y)) 29 21 lo st h) := run_s rfl
theorem rq_X10_addStroke_21 {lo : Lo} {st : List Value} {h : Hp} {Q : Option Value → Hp → Prop} : Run 126 21 lo st h Q = Cnt 126 Q (xo_aload 0 22 lo st h) := run_s rfl
theorem rq_X10_addStroke_22 {lo : Lo} {st : List Value} {h : Hp} {Q : Option Value → Hp → Prop} : Run 126 22 lo st h Q = Cnt 126 Q (xo_iload 1 23 lo st h) := run_s rfl
theorem rq_X10_addStroke_23 {lo : Lo} {st : List Value} {h : Hp} {Q : Option Value → Hp → Prop} : Run 126 23 lo st h Q = Cnt 126 Q (xo_iload 2 24 lo st h) := run_s rfl
theorem rq_X10_addStroke_24 {lo : Lo} {st : List Value} {h : Hp} {Q : Option Value → Hp → Prop} : Run 126 24 lo st h Q = Cnt 126 Q (xo_const (.int 0) 25 lo st h) := run_s rfl
theorem rq_X10_addStroke_25 {lo : Lo} {st : List Value} {h : Hp} {Q : Option Value → Hp → Prop} : Run 126 25 lo st h Q = Cnt 126 Q (xo_const (.int 0) 26 lo st h) := run_s rfl
theorem rq_X10_addStroke_26 {lo : Lo} {st : List Value} {h : Hp} {Q : Option Value → Hp → Prop} : Run 126 26 lo st h Q = CCall 125 5 (some 10) st h (Knt 126 29 lo (st.drop 5) Q) := run_c rfl
theorem rq_X10_addStroke_29 {lo : Lo} {st : List Value} {h : Hp} {Q : Option Value → Hp → Prop} : Run 126 29 lo st h Q = Cnt 126 Q (xo_iload 2 30 lo st h) := run_s rfl
theorem rq_X10_addStroke_30 {lo : Lo} {st : List Value} {h : Hp} {Q : Option Value → Hp → Prop} : Run 126 30 lo st h Q = Cnt 126 Q (xo_istore 4 32 lo st h) := run_s rfl
theorem rq_X10_addStroke_32 {lo : Lo} {st : List Value} {h : Hp} {Q : Option Value → Hp → Prop} : Run 126 32 lo st h Q = Cnt 126 Q (xo_iload 4 34 lo st h) := run_s rfl
theorem rq_X10_addStroke_34 {lo : Lo} {st : List Value} {h : Hp} {Q : Option Value → Hp → Prop} : Run 126 34 lo st h Q = Cnt 126 Q (xo_iload 3 35 lo st h) := run_s rfl
theorem rq_X10_addStroke_35 {lo : Lo} {st : List Value} {h : Hp} {Q : Option Value → Hp → Prop} : Run 126 35 lo st h Q = Cnt 126 Q (xo_if2 (fun x y => decide (x ≥ y)) 85 38 lo st h) := run_s rfl
theorem rq_X10_addStroke_38 {lo : Lo} {st : List Value} {h : Hp} {Q : Option Value → Hp → Prop} : Run 126 38 lo st h Q = Cnt 126 Q (xo_aload 0 39 lo st h) := run_s rfl
theorem rq_X10_addStroke_39 {lo : Lo} {st : List Value} {h : Hp} {Q : Option Value → Hp → Prop} : Run 126 39 lo st h Q = Cnt 126 Q (xo_iload 1 40 lo st h) := run_s rfl
theorem rq_X10_addStroke_40 {lo : Lo} {st : List Value} {h : Hp} {Q : Option Value → Hp → Prop} : Run 126 40 lo st h Q = Cnt 126 Q (xo_iload 4 42 lo st h) := run_s rfl
theorem rq_X10_addStroke_42 {lo : Lo} {st : List Value} {h : Hp} {Q : Option Value → Hp → Prop} : Run 126 42 lo st h Q = Cnt 126 Q (xo_aload 0 43 lo st h) := run_s rfl
theorem rq_X10_addStroke_43 {lo : Lo} {st : List Value} {h : Hp} {Q : Option Value → Hp → Prop} : Run 126 43 lo st h Q = Cnt 126 Q (xo_getf 10 9 46 lo st h) := run_s rfl
theorem rq_X10_addStroke_46 {lo : Lo} {st : List Value} {h : Hp} {Q : Option Value → Hp → Prop} : Run 126 46 lo st h Q = Cnt 126 Q (xo_iload 4 48 lo st h) := run_s rfl
theorem rq_X10_addStroke_48 {lo : Lo} {st : List Value} {h : Hp} {Q : Option Value → Hp → Prop} : Run 126 48 lo st h Q = Cnt 126 Q (xo_const (.int 1) 49 lo st h) := run_s rfl
theorem rq_X10_addStroke_49 {lo : Lo} {st : List Value} {h : Hp} {Q : Option Value → Hp → Prop} : Run 126 49 lo st h Q = Cnt 126 Q (xo_bin (fun x y => x + y) 50 lo st h) := run_s rfl
theorem rq_X10_addStroke_50 {lo : Lo} {st : List Value} {h : Hp} {Q : Option Value → Hp → Prop} : Run 126 50 lo st h Q = Cnt 126 Q (xo_iald 51 lo st h) := run_s rfl
theorem rq_X10_addStroke_51 {lo : Lo} {st : List Value} {h : Hp} {Q : Option Value → Hp → Prop} : Run 126 51 lo st h Q = Cnt 126 Q (xo_aload 0 52 lo st h) := run_s rfl
theorem rq_X10_addStroke_52 {lo : Lo} {st : List Value} {h : Hp} {Q : Option Value → Hp → Prop} : Run 126 52 lo st h Q = Cnt 126 Q (xo_getf 10 9 55 lo st h) := run_s rfl
theorem rq_X10_addStroke_55 {lo : Lo} {st : List Value} {h : Hp} {Q : Option Value → Hp → Prop} : Run 126 55 lo st h Q = Cnt 126 Q (xo_iload 4 57 lo st h) := run_s rfl
theorem rq_X10_addStroke_57 {lo : Lo} {st : List Value} {h : Hp} {Q : Option Value → Hp → Prop} : Run 126 57 lo st h Q = Cnt 126 Q (xo_iald 58 lo st h) := run_s rfl
theorem rq_X10_addStroke_58 {lo : Lo} {st : List Value} {h : Hp} {Q : Option Value → Hp → Prop} : Run 126 58 lo st h Q = Cnt 126 Q (xo_bin (fun x y => x - y) 59 lo st h) := run_s rfl
theorem rq_X10_addStroke_59 {lo : Lo} {st : List Value} {h : Hp} {Q : Option Value → Hp → Prop} : Run 126 59 lo st h Q = Cnt 126 Q (xo_aload 0 60 lo st h) := run_s rfl
theorem rq_X10_addStroke_60 {lo : Lo} {st : List Value} {h : Hp} {Q : Option Value → Hp → Prop} : Run 126 60 lo st h Q = Cnt 126 Q (xo_getf 10 10 63 lo st h) := run_s rfl
theorem rq_X10_addStroke_63 {lo : Lo} {st : List Value} {h : Hp} {Q : Option Value → Hp → Prop} : Run 126 63 lo st h Q = Cnt 126 Q (xo_iload 4 65 lo st h) := run_s rfl
theorem rq_X10_addStroke_65 {lo : Lo} {st : List Value} {h : Hp} {Q : Option Value → Hp → Prop} : Run 126 65 lo st h Q = Cnt 126 Q (xo_const (.int 1) 66 lo st h) := run_s rfl
theorem rq_X10_addStroke_66 {lo : Lo} {st : List Value} {h : Hp} {Q : Option Value → Hp → Prop} : Run 126 66 lo st h Q = Cnt 126 Q (xo_bin (fun x y => x + y) 67 lo st h) := run_s rfl
theorem rq_X10_addStroke_67 {lo : Lo} {st : List Value} {h : Hp} {Q : Option Value → Hp → Prop} : Run 126 67 lo st h Q = Cnt 126 Q (xo_iald 68 lo st h) := run_s rfl
theorem rq_X10_addStroke_68 {lo : Lo} {st : List Value} {h : Hp} {Q : Option Value → Hp → Prop} : Run 126 68 lo st h Q = Cnt 126 Q (xo_aload 0 69 lo st h) := run_s rfl
theorem rq_X10_addStroke_69 {lo : Lo} {st : List Value} {h : Hp} {Q : Option Value → Hp → Prop} : Run 126 69 lo st h Q = Cnt 126 Q (xo_getf 10 10 72 lo st h) := run_s rfl
theorem rq_X10_addStroke_72 {lo : Lo} {st : List Value} {h : Hp} {Q : Option Value → Hp → Prop} : Run 126 72 lo st h Q = Cnt 126 Q (xo_iload 4 74 lo st h) := run_s rfl
theorem rq_X10_addStroke_74 {lo : Lo} {st : List Value} {h : Hp} {Q : Option Value → Hp → Prop} : Run 126 74 lo st h Q = Cnt 126 Q (xo_iald 75 lo st h) := run_s rfl
theorem rq_X10_addStroke_75 {lo : Lo} {st : List Value} {h : Hp} {Q : Option Value → Hp → Prop} : Run 126 75 lo st h Q = Cnt 126 Q (xo_bin (fun x y => x - y) 76 lo st h) := run_s rfl
theorem rq_X10_addStroke_76 {lo : Lo} {st : List Value} {h : Hp} {Q : Option Value → Hp → Prop} : Run 126 76 lo st h Q = CCall 125 5 (some 10) st h (Knt 126 79 lo (st.drop 5) Q) := run_c rfl
theorem rq_X10_addStroke_79 {lo : Lo} {st : List Value} {h : Hp} {Q : Option Value → Hp → Prop} : Run 126 79 lo st h Q = Cnt 126 Q (xo_iinc 4 1 82 lo st h) := run_s rfl
theorem rq_X10_addStroke_82 {lo : Lo} {st : List Value} {h : Hp} {Q : Option Value → Hp → Prop} : Run 126 82 lo st h Q = Cnt 126 Q (xo_goto 32 lo st h) := run_s rfl
theorem rq_X10_addStroke_85 {lo : Lo} {st : List Value} {h : Hp} {Q : Option Value → Hp → Prop} : Run 126 85 lo st h Q = Cnt 126 Q (xo_vret lo st h) := run_s rfl
theorem rq_X10_findInk_0 {lo : Lo} {st : List Value} {h : Hp} {Q : Option Value → Hp → Prop} : Run 127 0 lo st h Q = Cnt 127 Q (xo_aload 0 1 lo st h) := run_s rfl
theorem rq_X10_findInk_1 {lo : Lo} {st : List Value} {h : Hp} {Q : Option Value → Hp → Prop} : Run 127 1 lo st h Q = CCall 121 1 (some 10) st h (Knt 127 4 lo (st.drop 1) Q) := run_c rfl
theorem rq_X10_findInk_4 {lo : Lo} {st : List Value} {h : Hp} {Q : Option Value → Hp → Prop} : Run 127 4 lo st h Q = Cnt 127 Q (xo_const (.int 0) 5 lo st h) := run_s rfl
theorem rq_X10_findInk_5 {lo : Lo} {st : List Value} {h : Hp} {Q : Option Value → Hp → Prop} : Run 127 5 lo st h Q = Cnt 127 Q (xo_istore 2 6 lo st h) := run_s rfl
theorem rq_X10_findInk_6 {lo : Lo} {st : List Value} {h : Hp} {Q : Option Value → Hp → Prop} : Run 127 6 lo st h Q = Cnt 127 Q (xo_iload 2 7 lo st h) := run_s rfl
theorem rq_X10_findInk_7 {lo : Lo} {st : List Value} {h : Hp} {Q : Option Value → Hp → Prop} : Run 127 7 lo st h Q = Cnt 127 Q (xo_aload 0 8 lo st h) := run_s rfl
theorem rq_X10_findInk_8 {lo : Lo} {st : List Value} {h : Hp} {Q : Option Value → Hp → Prop} : Run 127 8 lo st h Q = Cnt 127 Q (xo_getf 10 5 11 lo st h) := run_s rfl
theorem rq_X10_findInk_11 {lo : Lo} {st : List Value} {h : Hp} {Q : Option Value → Hp → Prop} : Run 127 11 lo st h Q = Cnt 127 Q (xo_iload 1 12 lo st h) := run_s rfl
theorem rq_X10_findInk_12 {lo : Lo} {st : List Value} {h : Hp} {Q : Option Value → Hp → Prop} : Run 127 12 lo st h Q = Cnt 127 Q (xo_iald 13 lo st h) := run_s rfl
theorem rq_X10_findInk_13 {lo : Lo} {st : List Value} {h : Hp} {Q : Option Value → Hp → Prop} : Run 127 13 lo st h Q = Cnt 127 Q (xo_if2 (fun x y => decide (x ≥ y)) 32 16 lo st h) := run_s rfl
theorem rq_X10_findInk_16 {lo : Lo} {st : List Value} {h : Hp} {Q : Option Value → Hp → Prop} : Run 127 16 lo st h Q = Cnt 127 Q (xo_aload 0 17 lo st h) := run_s rfl
theorem rq_X10_findInk_17 {lo : Lo} {st : List Value} {h : Hp} {Q : Option Value → Hp → Prop} : Run 127 17 lo st h Q = Cnt 127 Q (xo_const (.int 6) 19 lo st h) := run_s rfl
theorem rq_X10_findInk_19 {lo : Lo} {st : List Value} {h : Hp} {Q : Option Value → Hp → Prop} : Run 127 19 lo st h Q = Cnt 127 Q (xo_iload 1 20 lo st h) := run_s rfl
theorem rq_X10_findInk_20 {lo : Lo} {st : List Value} {h : Hp} {Q : Option Value → Hp → Prop} : Run 127 20 lo st h Q = Cnt 127 Q (xo_bin (fun x y => x * y) 21 lo st h) := run_s rfl
theorem rq_X10_findInk_21 {lo : Lo} {st : List Value} {h : Hp} {Q : Option Value → Hp → Prop} : Run 127 21 lo st h Q = Cnt 127 Q (xo_iload 2 22 lo st h) := run_s rfl
theorem rq_X10_findInk_22 {lo : Lo} {st : List Value} {h : Hp} {Q : Option Value → Hp → Prop} : Run 127 22 lo st h Q = Cnt 127 Q (xo_bin (fun x y => x + y) 23 lo st h) := run_s rfl
theorem rq_X10_findInk_23 {lo : Lo} {st : List Value} {h : Hp} {Q : Option Value → Hp → Prop} : Run 127 23 lo st h Q = CCall 126 2 (some 10) st h (Knt 127 26 lo (st.drop 2) Q) := run_c rfl
theorem rq_X10_findInk_26 {lo : Lo} {st : List Value} {h : Hp} {Q : Option Value → Hp → Prop} : Run 127 26 lo st h Q = Cnt 127 Q (xo_iinc 2 1 29 lo st h) := run_s rfl
theorem rq_X10_findInk_29 {lo : Lo} {st : List Value} {h : Hp} {Q : Option Value → Hp → Prop} : Run 127 29 lo st h Q = Cnt 127 Q (xo_goto 6 lo st h) := run_s rfl
theorem rq_X10_findInk_32 {lo : Lo} {st : List Value} {h : Hp} {Q : Option Value → Hp → Prop} : Run 127 32 lo st h Q = Cnt 127 Q (xo_vret lo st h) := run_s rfl
theorem rq_X10_findInkOf_0 {lo : Lo} {st : List Value} {h : Hp} {Q : Option Value → Hp → Prop} : Run 128 0 lo st h Q = Cnt 128 Q (xo_iload 1 1 lo st h) := run_s rfl
theorem rq_X10_findInkOf_1 {lo : Lo} {st : List Value} {h : Hp} {Q : Option Value → Hp → Prop} : Run 128 1 lo st h Q = Cnt 128 Q (xo_if1 (fun x => decide (x ≥ 0)) 11 4 lo st h) := run_s rfl
theorem rq_X10_findInkOf_4 {lo : Lo} {st : List Value} {h : Hp} {Q : Option Value → Hp → Prop} : Run 128 4 lo st h Q = Cnt 128 Q (xo_aload 0 5 lo st h) := run_s rfl
theorem rq_X10_findInkOf_5 {lo : Lo} {st : List Value} {h : Hp} {Q : Option Value → Hp → Prop} : Run 128 5 lo st h Q = Cnt 128 Q (xo_const (.int 26) 7 lo st h) := run_s rfl
theorem rq_X10_findInkOf_7 {lo : Lo} {st : List Value} {h : Hp} {Q : Option Value → Hp → Prop} : Run 128 7 lo st h Q = CCall 127 2 (some 10) st h (Knt 128 10 lo (st.drop 2) Q) := run_c rfl
theorem rq_X10_findInkOf_10 {lo : Lo} {st : List Value} {h : Hp} {Q : Option Value → Hp → Prop} : Run 128 10 lo st h Q = Cnt 128 Q (xo_vret lo st h) := run_s rfl
theorem rq_X10_findInkOf_11 {lo : Lo} {st : List Value} {h : Hp} {Q : Option Value → Hp → Prop} : Run 128 11 lo st h Q = Cnt 128 Q (xo_aload 0 12 lo st h) := run_s rfl
theorem rq_X10_findInkOf_12 {lo : Lo} {st : List Value} {h : Hp} {Q : Option Value → Hp → Prop} : Run 128 12 lo st h Q = CCall 121 1 (some 10) st h (Knt 128 15 lo (st.drop 1) Q) := run_c rfl
theorem rq_X10_findInkOf_15 {lo : Lo} {st : List Value} {h : Hp} {Q : Option Value → Hp → Prop} : Run 128 15 lo st h Q = Cnt 128 Q (xo_aload 0 16 lo st h) := run_s rfl
theorem rq_X10_findInkOf_16 {lo : Lo} {st : List Value} {h : Hp} {Q : Option Value → Hp → Prop} : Run 128 16 lo st h Q = Cnt 128 Q (xo_const (.int 156) 19 lo st h) := run_s rfl
theorem rq_X10_findInkOf_19 {lo : Lo} {st : List Value} {h : Hp} {Q : Option Value → Hp → Prop} : Run 128 19 lo st h Q = Cnt 128 Q (xo_iload 1 20 lo st h) := run_s rfl
theorem rq_X10_findInkOf_20 {lo : Lo} {st : List Value} {h : Hp} {Q : Option Value → Hp → Prop} : Run 128 20 lo st h Q = Cnt 128 Q (xo_bin (fun x y => x + y) 21 lo st h) := run_s rfl
theorem rq_X10_findInkOf_21 {lo : Lo} {st : List Value} {h : Hp} {Q : Option Value → Hp → Prop} : Run 128 21 lo st h Q = CCall 126 2 (some 10) st h (Knt 128 24 lo (st.drop 2) Q) := run_c rfl
theorem rq_X10_findInkOf_24 {lo : Lo} {st : List Value} {h : Hp} {Q : Option Value → Hp → Prop} : Run 128 24 lo st h Q = Cnt 128 Q (xo_vret lo st h) := run_s rfl
theorem rq_X10_bits_0 {lo : Lo} {st : List Value} {h : Hp} {Q : Option Value → Hp → Prop} : Run 129 0 lo st h Q = Cnt 129 Q (xo_const (.int 0) 1 lo st h) := run_s rfl
theorem rq_X10_bits_1 {lo : Lo} {st : List Value} {h : Hp} {Q : Option Value → Hp → Prop} : Run 129 1 lo st h Q = Cnt 129 Q (xo_istore 1 2 lo st h) := run_s rfl
theorem rq_X10_bits_2 {lo : Lo} {st : List Value} {h : Hp} {Q : Option Value → Hp → Prop} : Run 129 2 lo st h Q = Cnt 129 Q (xo_const (.int 0) 3 lo st h) := run_s rfl
theorem rq_X10_bits_3 {lo : Lo} {st : List Value} {h : Hp} {Q : Option Value → Hp → Prop} : Run 129 3 lo st h Q = Cnt 129 Q (xo_istore 2 4 lo st h) := run_s rfl
theorem rq_X10_bits_4 {lo : Lo} {st : List Value} {h : Hp} {Q : Option Value → Hp → Prop} : Run 129 4 lo st h Q = Cnt 129 Q (xo_iload 2 5 lo st h) := run_s rfl
theorem rq_X10_bits_5 {lo : Lo} {st : List Value} {h : Hp} {Q : Option Value → Hp → Prop} : Run 129 5 lo st h Q = Cnt 129 Q (xo_const (.int 32) 7 lo st h) := run_s rfl
theorem rq_X10_bits_7 {lo : Lo} {st : List Value} {h : Hp} {Q : Option Value → Hp → Prop} : Run 129 7 lo st h Q = Cnt 129 Q (xo_if2 (fun x y => decide (x ≥ y)) 24 10 lo st h) := run_s rfl
theorem rq_X10_bits_10 {lo : Lo} {st : List Value} {h : Hp} {Q : Option Value → Hp → Prop} : Run 129 10 lo st h Q = Cnt 129 Q (xo_iload 1 11 lo st h) := run_s rfl
theorem rq_X10_bits_11 {lo : Lo} {st : List Value} {h : Hp} {Q : Option Value → Hp → Prop} : Run 129 11 lo st h Q = Cnt 129 Q (xo_iload 0 12 lo st h) := run_s rfl
theorem rq_X10_bits_12 {lo : Lo} {st : List Value} {h : Hp} {Q : Option Value → Hp → Prop} : Run 129 12 lo st h Q = Cnt 129 Q (xo_iload 2 13 lo st h) := run_s rfl
theorem rq_X10_bits_13 {lo : Lo} {st : List Value} {h : Hp} {Q : Option Value → Hp → Prop} : Run 129 13 lo st h Q = Cnt 129 Q (xo_bin (fun x y => x >>> (y &&& 31)) 14 lo st h) := run_s rfl
theorem rq_X10_bits_14 {lo : Lo} {st : List Value} {h : Hp} {Q : Option Value → Hp → Prop} : Run 129 14 lo st h Q = Cnt 129 Q (xo_const (.int 1) 15 lo st h) := run_s rfl
theorem rq_X10_bits_15 {lo : Lo} {st : List Value} {h : Hp} {Q : Option Value → Hp → Prop} : Run 129 15 lo st h Q = Cnt 129 Q (xo_bin (fun x y => x &&& y) 16 lo st h) := run_s rfl
theorem rq_X10_bits_16 {lo : Lo} {st : List Value} {h : Hp} {Q : Option Value → Hp → Prop} : Run 129 16 lo st h Q = Cnt 129 Q (xo_bin (fun x y => x + y) 17 lo st h) := run_s rfl
theorem rq_X10_bits_17 {lo : Lo} {st : List Value} {h : Hp} {Q : Option Value → Hp → Prop} : Run 129 17 lo st h Q = Cnt 129 Q (xo_istore 1 18 lo st h) := run_s rfl
theorem rq_X10_bits_18 {lo : Lo} {st : List Value} {h : Hp} {Q : Option Value → Hp → Prop} : Run 129 18 lo st h Q = Cnt 129 Q (xo_iinc 2 1 21 lo st h) := run_s rfl
theorem rq_X10_bits_21 {lo : Lo} {st : List Value} {h : Hp} {Q : Option Value → Hp → Prop} : Run 129 21 lo st h Q = Cnt 129 Q (xo_goto 4 lo st h) := run_s rfl
theorem rq_X10_bits_24 {lo : Lo} {st : List Value} {h : Hp} {Q : Option Value → Hp → Prop} : Run 129 24 lo st h Q = Cnt 129 Q (xo_iload 1 25 lo st h) := run_s rfl
theorem rq_X10_bits_25 {lo : Lo} {st : List Value} {h : Hp} {Q : Option Value → Hp → Prop} : Run 129 25 lo st h Q = Cnt 129 Q (xo_iret lo st h) := run_s rfl
theorem rq_X10_inkSize_0 {lo : Lo} {st : List Value} {h : Hp} {Q : Option Value → Hp → Prop} : Run 130 0 lo st h Q = Cnt 130 Q (xo_const (.int 0) 1 lo st h) := run_s rfl
theorem rq_X10_inkSize_1 {lo : Lo} {st : List Value} {h : Hp} {Q : Option Value → Hp → Prop} : Run 130 1 lo st h Q = Cnt 130 Q (xo_istore 1 2 lo st h) := run_s rfl
theorem rq_X10_inkSize_2 {lo : Lo} {st : List Value} {h : Hp} {Q : Option Value → Hp → Prop} : Run 130 2 lo st h Q = Cnt 130 Q (xo_const (.int 0) 3 lo st h) := run_s rfl
theorem rq_X10_inkSize_3 {lo : Lo} {st : List Value} {h : Hp} {Q : Option Value → Hp → Prop} : Run 130 3 lo st h Q = Cnt 130 Q (xo_istore 2 4 lo st h) := run_s rfl
theorem rq_X10_inkSize_4 {lo : Lo} {st : List Value} {h : Hp} {Q : Option Value → Hp → Prop} : Run 130 4 lo st h Q = Cnt 130 Q (xo_iload 2 5 lo st h) := run_s rfl
theorem rq_X10_inkSize_5 {lo : Lo} {st : List Value} {h : Hp} {Q : Option Value → Hp → Prop} : Run 130 5 lo st h Q = Cnt 130 Q (xo_const (.int 32) 7 lo st h) := run_s rfl
theorem rq_X10_inkSize_7 {lo : Lo} {st : List Value} {h : Hp} {Q : Option Value → Hp → Prop} : Run 130 7 lo st h Q = Cnt 130 Q (xo_if2 (fun x y => decide (x ≥ y)) 28 10 lo st h) := run_s rfl
theorem rq_X10_inkSize_10 {lo : Lo} {st : List Value} {h : Hp} {Q : Option Value → Hp → Prop} : Run 130 10 lo st h Q = Cnt 130 Q (xo_iload 1 11 lo st h) := run_s rfl
theorem rq_X10_inkSize_11 {lo : Lo} {st : List Value} {h : Hp} {Q : Option Value → Hp → Prop} : Run 130 11 lo st h Q = Cnt 130 Q (xo_aload 0 12 lo st h) := run_s rfl
theorem rq_X10_inkSize_12 {lo : Lo} {st : List Value} {h : Hp} {Q : Option Value → Hp → Prop} : Run 130 12 lo st h Q = Cnt 130 Q (xo_getf 10 11 15 lo st h) := run_s rfl
theorem rq_X10_inkSize_15 {lo : Lo} {st : List Value} {h : Hp} {Q : Option Value → Hp → Prop} : Run 130 15 lo st h Q = Cnt 130 Q (xo_iload 2 16 lo st h) := run_s rfl
theorem rq_X10_inkSize_16 {lo : Lo} {st : List Value} {h : Hp} {Q : Option Value → Hp → Prop} : Run 130 16 lo st h Q = Cnt 130 Q (xo_iald 17 lo st h) := run_s rfl
theorem rq_X10_inkSize_17 {lo : Lo} {st : List Value} {h : Hp} {Q : Option Value → Hp → Prop} : Run 130 17 lo st h Q = CCall 129 1 none st h (Knt 130 20 lo (st.drop 1) Q) := run_c rfl
theorem rq_X10_inkSize_20 {lo : Lo} {st : List Value} {h : Hp} {Q : Option Value → Hp → Prop} : Run 130 20 lo st h Q = Cnt 130 Q (xo_bin (fun x y => x + y) 21 lo st h) := run_s rfl
theorem rq_X10_inkSize_21 {lo : Lo} {st : List Value} {h : Hp} {Q : Option Value → Hp → Prop} : Run 130 21 lo st h Q = Cnt 130 Q (xo_istore 1 22 lo st h) := run_s rfl
theorem rq_X10_inkSize_22 {lo : Lo} {st : List Value} {h : Hp} {Q : Option Value → Hp → Prop} : Run 130 22 lo st h Q = Cnt 130 Q (xo_iinc 2 1 25 lo st h) := run_s rfl
theorem rq_X10_inkSize_25 {lo : Lo} {st : List Value} {h : Hp} {Q : Option Value → Hp → Prop} : Run 130 25 lo st h Q = Cnt 130 Q (xo_goto 4 lo st h) := run_s rfl
theorem rq_X10_inkSize_28 {lo : Lo} {st : List Value} {h : Hp} {Q : Option Value → Hp → Prop} : Run 130 28 lo st h Q = Cnt 130 Q (xo_iload 1 29 lo st h) := run_s rfl
theorem rq_X10_inkSize_29 {lo : Lo} {st : List Value} {h : Hp} {Q : Option Value → Hp → Prop} : Run 130 29 lo st h Q = Cnt 130 Q (xo_iret lo st h) := run_s rfl
theorem rq_X10_ink_0 {lo : Lo} {st : List Value} {h : Hp} {Q : Option Value → Hp → Prop} : Run 131 0 lo st h Q = Cnt 131 Q (xo_iload 1 1 lo st h) := run_s rfl
theorem rq_X10_ink_1 {lo : Lo} {st : List Value} {h : Hp} {Q : Option Value → Hp → Prop} : Run 131 1 lo st h Q = Cnt 131 Q (xo_const (.int (-1)) 2 lo st h) := run_s rfl
theorem rq_X10_ink_2 {lo : Lo} {st : List Value} {h : Hp} {Q : Option Value → Hp → Prop} : Run 131 2 lo st h Q = Cnt 131 Q (xo_if2 (fun x y => decide (x = y)) 17 5 lo st h) := run_s rfl
theorem rq_X10_ink_5 {lo : Lo} {st : List Value} {h : Hp} {Q : Option Value → Hp → Prop} : Run 131 5 lo st h Q = Cnt 131 Q (xo_aload 0 6 lo st h) := run_s rfl
theorem rq_X10_ink_6 {lo : Lo} {st : List Value} {h : Hp} {Q : Option Value → Hp → Prop} : Run 131 6 lo st h Q = Cnt 131 Q (xo_iload 1 7 lo st h) := run_s rfl
theorem rq_X10_ink_7 {lo : Lo} {st : List Value} {h : Hp} {Q : Option Value → Hp → Prop} : Run 131 7 lo st h Q = CCall 118 2 (some 10) st h (Knt 131 10 lo (st.drop 2) Q) := run_c rfl
theorem rq_X10_ink_10 {lo : Lo} {st : List Value} {h : Hp} {Q : Option Value → Hp → Prop} : Run 131 10 lo st h Q = Cnt 131 Q (xo_if1 (fun x => decide (¬ x = 0)) 17 13 lo st h) := run_s rfl
theorem rq_X10_ink_13 {lo : Lo} {st : List Value} {h : Hp} {Q : Option Value → Hp → Prop} : Run 131 13 lo st h Q = Cnt 131 Q (xo_const (.long (-1)) 16 lo st h) := run_s rfl
theorem rq_X10_ink_16 {lo : Lo} {st : List Value} {h : Hp} {Q : Option Value → Hp → Prop} : Run 131 16 lo st h Q = Cnt 131 Q (xo_lret lo st h) := run_s rfl
theorem rq_X10_ink_17 {lo : Lo} {st : List Value} {h : Hp} {Q : Option Value → Hp → Prop} : Run 131 17 lo st h Q = Cnt 131 Q (xo_iload 2 18 lo st h) := run_s rfl
theorem rq_X10_ink_18 {lo : Lo} {st : List Value} {h : Hp} {Q : Option Value → Hp → Prop} : Run 131 18 lo st h Q = Cnt 131 Q (xo_const (.int 0) 19 lo st h) := run_s rfl
theorem rq_X10_ink_19 {lo : Lo} {st : List Value} {h : Hp} {Q : Option Value → Hp → Prop} : Run 131 19 lo st h Q = Cnt 131 Q (xo_const (.int 31) 21 lo st h) := run_s rfl
theorem rq_X10_ink_21 {lo : Lo} {st : List Value} {h : Hp} {Q : Option Value → Hp → Prop} : Run 131 21 lo st h Q = CCall 111 3 none st h (Knt 131 24 lo (st.drop 3) Q) := run_c rfl
theorem rq_X10_ink_24 {lo : Lo} {st : List Value} {h : Hp} {Q : Option Value → Hp → Prop} : Run 131 24 lo st h Q = Cnt 131 Q (xo_if1 (fun x => decide (¬ x = 0)) 31 27 lo st h) := run_s rfl
theorem rq_X10_ink_27 {lo : Lo} {st : List Value} {h : Hp} {Q : Option Value → Hp → Prop} : Run 131 27 lo st h Q = Cnt 131 Q (xo_const (.long (-2)) 30 lo st h) := run_s rfl
theorem rq_X10_ink_30 {lo : Lo} {st : List Value} {h : Hp} {Q : Option Value → Hp → Prop} : Run 131 30 lo st h Q = Cnt 131 Q (xo_lret lo st h) := run_s rfl
theorem rq_X10_ink_31 {lo : Lo} {st : List Value} {h : Hp} {Q : Option Value → Hp → Prop} : Run 131 31 lo st h Q = Cnt 131 Q (xo_aload 0 32 lo st h) := run_s rfl
theorem rq_X10_ink_32 {lo : Lo} {st : List Value} {h : Hp} {Q : Option Value → Hp → Prop} : Run 131 32 lo st h Q = Cnt 131 Q (xo_iload 1 33 lo st h) := run_s rfl
theorem rq_X10_ink_33 {lo : Lo} {st : List Value} {h : Hp} {Q : Option Value → Hp → Prop} : Run 131 33 lo st h Q = CCall 128 2 (some 10) st h (Knt 131 36 lo (st.drop 2) Q) := run_c rfl
theorem rq_X10_ink_36 {lo : Lo} {st : List Value} {h : Hp} {Q : Option Value → Hp → Prop} : Run 131 36 lo st h Q = Cnt 131 Q (xo_aload 0 37 lo st h) := run_s rfl
theorem rq_X10_ink_37 {lo : Lo} {st : List Value} {h : Hp} {Q : Option Value → Hp → Prop} : Run 131 37 lo st h Q = Cnt 131 Q (xo_getf 10 11 40 lo st h) := run_s rfl
theorem rq_X10_ink_40 {lo : Lo} {st : List Value} {h : Hp} {Q : Option Value → Hp → Prop} : Run 131 40 lo st h Q = Cnt 131 Q (xo_iload 2 41 lo st h) := run_s rfl
theorem rq_X10_ink_41 {lo : Lo} {st : List Value} {h : Hp} {Q : Option Value → Hp → Prop} : Run 131 41 lo st h Q = Cnt 131 Q (xo_iald 42 lo st h) := run_s rfl
theorem rq_X10_ink_42 {lo : Lo} {st : List Value} {h : Hp} {Q : Option Value → Hp → Prop} : Run 131 42 lo st h Q = Cnt 131 Q (xo_i2l 43 lo st h) := run_s rfl
theorem rq_X10_ink_43 {lo : Lo} {st : List Value} {h : Hp} {Q : Option Value → Hp → Prop} : Run 131 43 lo st h Q = Cnt 131 Q (xo_const (.long 4294967295) 46 lo st h) := run_s rfl
theorem rq_X10_ink_46 {lo : Lo} {st : List Value} {h : Hp} {Q : Option Value → Hp → Prop} : Run 131 46 lo st h Q = Cnt 131 Q (xo_land 47 lo st h) := run_s rfl
theorem rq_X10_ink_47 {lo : Lo} {st : List Value} {h : Hp} {Q : Option Value → Hp → Prop} : Run 131 47 lo st h Q = Cnt 131 Q (xo_lret lo st h) := run_s rfl
theorem rq_X10_area_0 {lo : Lo} {st : List Value} {h : Hp} {Q : Option Value → Hp → Prop} : Run 132 0 lo st h Q = Cnt 132 Q (xo_iload 1 1 lo st h) := run_s rfl
theorem rq_X10_area_1 {lo : Lo} {st : List Value} {h : Hp} {Q : Option Value → Hp → Prop} : Run 132 1 lo st h Q = Cnt 132 Q (xo_const (.int (-1)) 2 lo st h) := run_s rfl
theorem rq_X10_area_2 {lo : Lo} {st : List Value} {h : Hp} {Q : Option Value → Hp → Prop} : Run 132 2 lo st h Q = Cnt 132 Q (xo_if2 (fun x y => decide (x = y)) 15 5 lo st h) := run_s rfl
theorem rq_X10_area_5 {lo : Lo} {st : List Value} {h : Hp} {Q : Option Value → Hp → Prop} : Run 132 5 lo st h Q = Cnt 132 Q (xo_aload 0 6 lo st h) := run_s rfl
theorem rq_X10_area_6 {lo : Lo} {st : List Value} {h : Hp} {Q : Option Value → Hp → Prop} : Run 132 6 lo st h Q = Cnt 132 Q (xo_iload 1 7 lo st h) := run_s rfl
theorem rq_X10_area_7 {lo : Lo} {st : List Value} {h : Hp} {Q : Option Value → Hp → Prop} : Run 132 7 lo st h Q = CCall 118 2 (some 10) st h (Knt 132 10 lo (st.drop 2) Q) := run_c rfl
theorem rq_X10_area_10 {lo : Lo} {st : List Value} {h : Hp} {Q : Option Value → Hp → Prop} : Run 132 10 lo st h Q = Cnt 132 Q (xo_if1 (fun x => decide (¬ x = 0)) 15 13 lo st h) := run_s rfl
theorem rq_X10_area_13 {lo : Lo} {st : List Value} {h : Hp} {Q : Option Value → Hp → Prop} : Run 132 13 lo st h Q = Cnt 132 Q (xo_const (.int (-1)) 14 lo st h) := run_s rfl
theorem rq_X10_area_14 {lo : Lo} {st : List Value} {h : Hp} {Q : Option Value → Hp → Prop} : Run 132 14 lo st h Q = Cnt 132 Q (xo_iret lo st h) := run_s rfl
theorem rq_X10_area_15 {lo : Lo} {st : List Value} {h : Hp} {Q : Option Value → Hp → Prop} : Run 132 15 lo st h Q = Cnt 132 Q (xo_aload 0 16 lo st h) := run_s rfl
theorem rq_X10_area_16 {lo : Lo} {st : List Value} {h : Hp} {Q : Option Value → Hp → Prop} : Run 132 16 lo st h Q = Cnt 132 Q (xo_iload 1 17 lo st h) := run_s rfl
theorem rq_X10_area_17 {lo : Lo} {st : List Value} {h : Hp} {Q : Option Value → Hp → Prop} : Run 132 17 lo st h Q = CCall 128 2 (some 10) st h (Knt 132 20 lo (st.drop 2) Q) := run_c rfl
theorem rq_X10_area_20 {lo : Lo} {st : List Value} {h : Hp} {Q : Option Value → Hp → Prop} : Run 132 20 lo st h Q = Cnt 132 Q (xo_aload 0 21 lo st h) := run_s rfl
theorem rq_X10_area_21 {lo : Lo} {st : List Value} {h : Hp} {Q : Option Value → Hp → Prop} : Run 132 21 lo st h Q = CCall 130 1 (some 10) st h (Knt 132 24 lo (st.drop 1) Q) := run_c rfl
theorem rq_X10_area_24 {lo : Lo} {st : List Value} {h : Hp} {Q : Option Value → Hp → Prop} : Run 132 24 lo st h Q = Cnt 132 Q (xo_iret lo st h) := run_s rfl
theorem rq_X10_limit_0 {lo : Lo} {st : List Value} {h : Hp} {Q : Option Value → Hp → Prop} : Run 133 0 lo st h Q = Cnt 133 Q (xo_iload 1 1 lo st h) := run_s rfl
theorem rq_X10_limit_1 {lo : Lo} {st : List Value} {h : Hp} {Q : Option Value → Hp → Prop} : Run 133 1 lo st h Q = Cnt 133 Q (xo_const (.int 1) 2 lo st h) := run_s rfl
theorem rq_X10_limit_2 {lo : Lo} {st : List Value} {h : Hp} {Q : Option Value → Hp → Prop} : Run 133 2 lo st h Q = Cnt 133 Q (xo_const (.int 20) 4 lo st h) := run_s rfl
theorem rq_X10_limit_4 {lo : Lo} {st : List Value} {h : Hp} {Q : Option Value → Hp → Prop} : Run 133 4 lo st h Q = CCall 111 3 none st h (Knt 133 7 lo (st.drop 3) Q) := run_c rfl
theorem rq_X10_limit_7 {lo : Lo} {st : List Value} {h : Hp} {Q : Option Value → Hp → Prop} : Run 133 7 lo st h Q = Cnt 133 Q (xo_if1 (fun x => decide (¬ x = 0)) 13 10 lo st h) := run_s rfl
theorem rq_X10_limit_10 {lo : Lo} {st : List Value} {h : Hp} {Q : Option Value → Hp → Prop} : Run 133 10 lo st h Q = Cnt 133 Q (xo_const (.int (-2)) 12 lo st h) := run_s rfl
theorem rq_X10_limit_12 {lo : Lo} {st : List Value} {h : Hp} {Q : Option Value → Hp → Prop} : Run 133 12 lo st h Q = Cnt 133 Q (xo_iret lo st h) := run_s rfl
theorem rq_X10_limit_13 {lo : Lo} {st : List Value} {h : Hp} {Q : Option Value → Hp → Prop} : Run 133 13 lo st h Q = Cnt 133 Q (xo_aload 0 14 lo st h) := run_s rfl
theorem rq_X10_limit_14 {lo : Lo} {st : List Value} {h : Hp} {Q : Option Value → Hp → Prop} : Run 133 14 lo st h Q = Cnt 133 Q (xo_getf 10 13 17 lo st h) := run_s rfl
theorem rq_X10_limit_17 {lo : Lo} {st : List Value} {h : Hp} {Q : Option Value → Hp → Prop} : Run 133 17 lo st h Q = Cnt 133 Q (xo_istore 2 18 lo st h) := run_s rfl
theorem rq_X10_limit_18 {lo : Lo} {st : List Value} {h : Hp} {Q : Option Value → Hp → Prop} : Run 133 18 lo st h Q = Cnt 133 Q (xo_aload 0 19 lo st h) := run_s rfl
theorem rq_X10_limit_19 {lo : Lo} {st : List Value} {h : Hp} {Q : Option Value → Hp → Prop} : Run 133 19 lo st h Q = Cnt 133 Q (xo_iload 1 20 lo st h) := run_s rfl
theorem rq_X10_limit_20 {lo : Lo} {st : List Value} {h : Hp} {Q : Option Value → Hp → Prop} : Run 133 20 lo st h Q = Cnt 133 Q (xo_putf 10 13 true 23 lo st h) := run_s rfl
theorem rq_X10_limit_23 {lo : Lo} {st : List Value} {h : Hp} {Q : Option Value → Hp → Prop} : Run 133 23 lo st h Q = Cnt 133 Q (xo_iload 2 24 lo st h) := run_s rfl
theorem rq_X10_limit_24 {lo : Lo} {st : List Value} {h : Hp} {Q : Option Value → Hp → Prop} : Run 133 24 lo st h Q = Cnt 133 Q (xo_iret lo st h) := run_s rfl
theorem rq_X10_stepX_0 {lo : Lo} {st : List Value} {h : Hp} {Q : Option Value → Hp → Prop} : Run 134 0 lo st h Q = Cnt 134 Q (xo_aload 0 1 lo st h) := run_s rfl
theorem rq_X10_stepX_1 {lo : Lo} {st : List Value} {h : Hp} {Q : Option Value → Hp → Prop} : Run 134 1 lo st h Q = Cnt 134 Q (xo_getf 10 9 4 lo st h) := run_s rfl
theorem rq_X10_stepX_4 {lo : Lo} {st : List Value} {h : Hp} {Q : Option Value → Hp → Prop} : Run 134 4 lo st h Q = Cnt 134 Q (xo_const (.int 8) 6 lo st h) := run_s rfl
theorem rq_X10_stepX_6 {lo : Lo} {st : List Value} {h : Hp} {Q : Option Value → Hp → Prop} : Run 134 6 lo st h Q = Cnt 134 Q (xo_iload 1 7 lo st h) := run_s rfl
theorem rq_X10_stepX_7 {lo : Lo} {st : List Value} {h : Hp} {Q : Option Value → Hp → Prop} : Run 134 7 lo st h Q = Cnt 134 Q (xo_bin (fun x y => x * y) 8 lo st h) := run_s rfl
theorem rq_X10_stepX_8 {lo : Lo} {st : List Value} {h : Hp} {Q : Option Value → Hp → Prop} : Run 134 8 lo st h Q = Cnt 134 Q (xo_iload 2 9 lo st h) := run_s rfl
theorem rq_X10_stepX_9 {lo : Lo} {st : List Value} {h : Hp} {Q : Option Value → Hp → Prop} : Run 134 9 lo st h Q = Cnt 134 Q (xo_bin (fun x y => x + y) 10 lo st h) := run_s rfl
theorem rq_X10_stepX_10 {lo : Lo} {st : List Value} {h : Hp} {Q : Option Value → Hp → Prop} : Run 134 10 lo st h Q = Cnt 134 Q (xo_const (.int 1) 11 lo st h) := run_s rfl
theorem rq_X10_stepX_11 {lo : Lo} {st : List Value} {h : Hp} {Q : Option Value → Hp → Prop} : Run 134 11 lo st h Q = Cnt 134 Q (xo_bin (fun x y => x + y) 12 lo st h) := run_s rfl
theorem rq_X10_stepX_12 {lo : Lo} {st : List Value} {h : Hp} {Q : Option Value → Hp → Prop} : Run 134 12 lo st h Q = Cnt 134 Q (xo_iald 13 lo st h) := run_s rfl
theorem rq_X10_stepX_13 {lo : Lo} {st : List Value} {h : Hp} {Q : Option Value → Hp → Prop} : Run 134 13 lo st h Q = Cnt 134 Q (xo_aload 0 14 lo st h) := run_s rfl
theorem rq_X10_stepX_14 {lo : Lo} {st : List Value} {h : Hp} {Q : Option Value → Hp → Prop} : Run 134 14 lo st h Q = Cnt 134 Q (xo_getf 10 9 17 lo st h) := run_s rfl
theorem rq_X10_stepX_17 {lo : Lo} {st : List Value} {h : Hp} {Q : Option Value → Hp → Prop} : Run 134 17 lo st h Q = Cnt 134 Q (xo_const (.int 8) 19 lo st h) := run_s rfl
theorem rq_X10_stepX_19 {lo : Lo} {st : List Value} {h : Hp} {Q : Option Value → Hp → Prop} : Run 134 19 lo st h Q = Cnt 134 Q (xo_iload 1 20 lo st h) := run_s rfl
theorem rq_X10_stepX_20 {lo : Lo} {st : List Value} {h : Hp} {Q : Option Value → Hp → Prop} : Run 134 20 lo st h Q = Cnt 134 Q (xo_bin (fun x y => x * y) 21 lo st h) := run_s rfl
theorem rq_X10_stepX_21 {lo : Lo} {st : List Value} {h : Hp} {Q : Option Value → Hp → Prop} : Run 134 21 lo st h Q = Cnt 134 Q (xo_iload 2 22 lo st h) := run_s rfl
theorem rq_X10_stepX_22 {lo : Lo} {st : List Value} {h : Hp} {Q : Option Value → Hp → Prop} : Run 134 22 lo st h Q = Cnt 134 Q (xo_bin (fun x y => x + y) 23 lo st h) := run_s rfl
theorem rq_X10_stepX_23 {lo : Lo} {st : List Value} {h : Hp} {Q : Option Value → Hp → Prop} : Run 134 23 lo st h Q = Cnt 134 Q (xo_iald 24 lo st h) := run_s rfl
theorem rq_X10_stepX_24 {lo : Lo} {st : List Value} {h : Hp} {Q : Option Value → Hp → Prop} : Run 134 24 lo st h Q = Cnt 134 Q (xo_bin (fun x y => x - y) 25 lo st h) := run_s rfl
theorem rq_X10_stepX_25 {lo : Lo} {st : List Value} {h : Hp} {Q : Option Value → Hp → Prop} : Run 134 25 lo st h Q = Cnt 134 Q (xo_iret lo st h) := run_s rfl
theorem rq_X10_stepY_0 {lo : Lo} {st : List Value} {h : Hp} {Q : Option Value → Hp → Prop} : Run 135 0 lo st h Q = Cnt 135 Q (xo_aload 0 1 lo st h) := run_s rfl
theorem rq_X10_stepY_1 {lo : Lo} {st : List Value} {h : Hp} {Q : Option Value → Hp → Prop} : Run 135 1 lo st h Q = Cnt 135 Q (xo_getf 10 10 4 lo st h) := run_s rfl
theorem rq_X10_stepY_4 {lo : Lo} {st : List Value} {h : Hp} {Q : Option Value → Hp → Prop} : Run 135 4 lo st h Q = Cnt 135 Q (xo_const (.int 8) 6 lo st h) := run_s rfl
theorem rq_X10_stepY_6 {lo : Lo} {st : List Value} {h : Hp} {Q : Option Value → Hp → Prop} : Run 135 6 lo st h Q = Cnt 135 Q (xo_iload 1 7 lo st h) := run_s rfl
theorem rq_X10_stepY_7 {lo : Lo} {st : List Value} {h : Hp} {Q : Option Value → Hp → Prop} : Run 135 7 lo st h Q = Cnt 135 Q (xo_bin (fun x y => x * y) 8 lo st h) := run_s rfl
theorem rq_X10_stepY_8 {lo : Lo} {st : List Value} {h : Hp} {Q : Option Value → Hp → Prop} : Run 135 8 lo st h Q = Cnt 135 Q (xo_iload 2 9 lo st h) := run_s rfl
theorem rq_X10_stepY_9 {lo : Lo} {st : List Value} {h : Hp} {Q : Option Value → Hp → Prop} : Run 135 9 lo st h Q = Cnt 135 Q (xo_bin (fun x y => x + y) 10 lo st h) := run_s rfl
theorem rq_X10_stepY_10 {lo : Lo} {st : List Value} {h : Hp} {Q : Option Value → Hp → Prop} : Run 135 10 lo st h Q = Cnt 135 Q (xo_const (.int 1) 11 lo st h) := run_s rfl
theorem rq_X10_stepY_11 {lo : Lo} {st : List Value} {h : Hp} {Q : Option Value → Hp → Prop} : Run 135 11 lo st h Q = Cnt 135 Q (xo_bin (fun x y => x + y) 12 lo st h) := run_s rfl
theorem rq_X10_stepY_12 {lo : Lo} {st : List Value} {h : Hp} {Q : Option Value → Hp → Prop} : Run 135 12 lo st h Q = Cnt 135 Q (xo_iald 13 lo st h) := run_s rfl
theorem rq_X10_stepY_13 {lo : Lo} {st : List Value} {h : Hp} {Q : Option Value → Hp → Prop} : Run 135 13 lo st h Q = Cnt 135 Q (xo_aload 0 14 lo st h) := run_s rfl
theorem rq_X10_stepY_14 {lo : Lo} {st : List Value} {h : Hp} {Q : Option Value → Hp → Prop} : Run 135 14 lo st h Q = Cnt 135 Q (xo_getf 10 10 17 lo st h) := run_s rfl
theorem rq_X10_stepY_17 {lo : Lo} {st : List Value} {h : Hp} {Q : Option Value → Hp → Prop} : Run 135 17 lo st h Q = Cnt 135 Q (xo_const (.int 8) 19 lo st h) := run_s rfl
theorem rq_X10_stepY_19 {lo : Lo} {st : List Value} {h : Hp} {Q : Option Value → Hp → Prop} : Run 135 19 lo st h Q = Cnt 135 Q (xo_iload 1 20 lo st h) := run_s rfl
theorem rq_X10_stepY_20 {lo : Lo} {st : List Value} {h : Hp} {Q : Option Value → Hp → Prop} : Run 135 20 lo st h Q = Cnt 135 Q (xo_bin (fun x y => x * y) 21 lo st h) := run_s rfl
theorem rq_X10_stepY_21 {lo : Lo} {st : List Value} {h : Hp} {Q : Option Value → Hp → Prop} : Run 135 21 lo st h Q = Cnt 135 Q (xo_iload 2 22 lo st h) := run_s rfl
theorem rq_X10_stepY_22 {lo : Lo} {st : List Value} {h : Hp} {Q : Option Value → Hp → Prop} : Run 135 22 lo st h Q = Cnt 135 Q (xo_bin (fun x y => x + y) 23 lo st h) := run_s rfl
theorem rq_X10_stepY_23 {lo : Lo} {st : List Value} {h : Hp} {Q : Option Value → Hp → Prop} : Run 135 23 lo st h Q = Cnt 135 Q (xo_iald 24 lo st h) := run_s rfl
theorem rq_X10_stepY_24 {lo : Lo} {st : List Value} {h : Hp} {Q : Option Value → Hp → Prop} : Run 135 24 lo st h Q = Cnt 135 Q (xo_bin (fun x y => x - y) 25 lo st h) := run_s rfl
theorem rq_X10_stepY_25 {lo : Lo} {st : List Value} {h : Hp} {Q : Option Value → Hp → Prop} : Run 135 25 lo st h Q = Cnt 135 Q (xo_iret lo st h) := run_s rfl
theorem rq_X10_isStep_0 {lo : Lo} {st : List Value} {h : Hp} {Q : Option Value → Hp → Prop} : Run 136 0 lo st h Q = Cnt 136 Q (xo_aload 0 1 lo st h) := run_s rfl
theorem rq_X10_isStep_1 {lo : Lo} {st : List Value} {h : Hp} {Q : Option Value → Hp → Prop} : Run 136 1 lo st h Q = Cnt 136 Q (xo_iload 1 2 lo st h) := run_s rfl
theorem rq_X10_isStep_2 {lo : Lo} {st : List Value} {h : Hp} {Q : Option Value → Hp → Prop} : Run 136 2 lo st h Q = CCall 118 2 (some 10) st h (Knt 136 5 lo (st.drop 2) Q) := run_c rfl
theorem rq_X10_isStep_5 {lo : Lo} {st : List Value} {h : Hp} {Q : Option Value → Hp → Prop} : Run 136 5 lo st h Q = Cnt 136 Q (xo_if1 (fun x => decide (x = 0)) 32 8 lo st h) := run_s rfl
theorem rq_X10_isStep_8 {lo : Lo} {st : List Value} {h : Hp} {Q : Option Value → Hp → Prop} : Run 136 8 lo st h Q = Cnt 136 Q (xo_iload 2 9 lo st h) := run_s rfl
theorem rq_X10_isStep_9 {lo : Lo} {st : List Value} {h : Hp} {Q : Option Value → Hp → Prop} : Run 136 9 lo st h Q = Cnt 136 Q (xo_const (.int 0) 10 lo st h) := run_s rfl
theorem rq_X10_isStep_10 {lo : Lo} {st : List Value} {h : Hp} {Q : Option Value → Hp → Prop} : Run 136 10 lo st h Q = Cnt 136 Q (xo_aload 0 11 lo st h) := run_s rfl
theorem rq_X10_isStep_11 {lo : Lo} {st : List Value} {h : Hp} {Q : Option Value → Hp → Prop} : Run 136 11 lo st h Q = Cnt 136 Q (xo_getf 10 6 14 lo st h) := run_s rfl
theorem rq_X10_isStep_14 {lo : Lo} {st : List Value} {h : Hp} {Q : Option Value → Hp → Prop} : Run 136 14 lo st h Q = Cnt 136 Q (xo_const (.int 156) 17 lo st h) := run_s rfl
theorem rq_X10_isStep_17 {lo : Lo} {st : List Value} {h : Hp} {Q : Option Value → Hp → Prop} : Run 136 17 lo st h Q = Cnt 136 Q (xo_iload 1 18 lo st h) := run_s rfl
theorem rq_X10_isStep_18 {lo : Lo} {st : List Value} {h : Hp} {Q : Option Value → Hp → Prop} : Run 136 18 lo st h Q = Cnt 136 Q (xo_bin (fun x y => x + y) 19 lo st h) := run_s rfl
theorem rq_X10_isStep_19 {lo : Lo} {st : List Value} {h : Hp} {Q : Option Value → Hp → Prop} : Run 136 19 lo st h Q = Cnt 136 Q (xo_iald 20 lo st h) := run_s rfl
theorem rq_X10_isStep_20 {lo : Lo} {st : List Value} {h : Hp} {Q : Option Value → Hp → Prop} : Run 136 20 lo st h Q = Cnt 136 Q (xo_const (.int 2) 21 lo st h) := run_s rfl
theorem rq_X10_isStep_21 {lo : Lo} {st : List Value} {h : Hp} {Q : Option Value → Hp → Prop} : Run 136 21 lo st h Q = Cnt 136 Q (xo_bin (fun x y => x - y) 22 lo st h) := run_s rfl
theorem rq_X10_isStep_22 {lo : Lo} {st : List Value} {h : Hp} {Q : Option Value → Hp → Prop} : Run 136 22 lo st h Q = CCall 111 3 none st h (Knt 136 25 lo (st.drop 3) Q) := run_c rfl
theorem rq_X10_isStep_25 {lo : Lo} {st : List Value} {h : Hp} {Q : Option Value → Hp → Prop} : Run 136 25 lo st h Q = Cnt 136 Q (xo_if1 (fun x => decide (x = 0)) 32 28 lo st h) := run_s rfl
theorem rq_X10_isStep_28 {lo : Lo} {st : List Value} {h : Hp} {Q : Option Value → Hp → Prop} : Run 136 28 lo st h Q = Cnt 136 Q (xo_const (.int 1) 29 lo st h) := run_s rfl
theorem rq_X10_isStep_29 {lo : Lo} {st : List Value} {h : Hp} {Q : Option Value → Hp → Prop} : Run 136 29 lo st h Q = Cnt 136 Q (xo_goto 33 lo st h) := run_s rfl
theorem rq_X10_isStep_32 {lo : Lo} {st : List Value} {h : Hp} {Q : Option Value → Hp → Prop} : Run 136 32 lo st h Q = Cnt 136 Q (xo_const (.int 0) 33 lo st h) := run_s rfl
theorem rq_X10_isStep_33 {lo : Lo} {st : List Value} {h : Hp} {Q : Option Value → Hp → Prop} : Run 136 33 lo st h Q = Cnt 136 Q (xo_zret lo st h) := run_s rfl
theorem rq_X10_common_0 {lo : Lo} {st : List Value} {h : Hp} {Q : Option Value → Hp → Prop} : Run 137 0 lo st h Q = Cnt 137 Q (xo_iload 0 1 lo st h) := run_s rfl
theorem rq_X10_common_1 {lo : Lo} {st : List Value} {h : Hp} {Q : Option Value → Hp → Prop} : Run 137 1 lo st h Q = Cnt 137 Q (xo_istore 2 2 lo st h) := run_s rfl
theorem rq_X10_common_2 {lo : Lo} {st : List Value} {h : Hp} {Q : Option Value → Hp → Prop} : Run 137 2 lo st h Q = Cnt 137 Q (xo_iload 1 3 lo st h) := run_s rfl
theorem rq_X10_common_3 {lo : Lo} {st : List Value} {h : Hp} {Q : Option Value → Hp → Prop} : Run 137 3 lo st h Q = Cnt 137 Q (xo_istore 3 4 lo st h) := run_s rfl
theorem rq_X10_common_4 {lo : Lo} {st : List Value} {h : Hp} {Q : Option Value → Hp → Prop} : Run 137 4 lo st h Q = Cnt 137 Q (xo_iload 3 5 lo st h) := run_s rfl
theorem rq_X10_common_5 {lo : Lo} {st : List Value} {h : Hp} {Q : Option Value → Hp → Prop} : Run 137 5 lo st h Q = Cnt 137 Q (xo_if1 (fun x => decide (x = 0)) 21 8 lo st h) := run_s rfl
theorem rq_X10_common_8 {lo : Lo} {st : List Value} {h : Hp} {Q : Option Value → Hp → Prop} : Run 137 8 lo st h Q = Cnt 137 Q (xo_iload 2 9 lo st h) := run_s rfl
theorem rq_X10_common_9 {lo : Lo} {st : List Value} {h : Hp} {Q : Option Value → Hp → Prop} : Run 137 9 lo st h Q = Cnt 137 Q (xo_iload 3 10 lo st h) := run_s rfl
theorem rq_X10_common_10 {lo : Lo} {st : List Value} {h : Hp} {Q : Option Value → Hp → Prop} : Run 137 10 lo st h Q = Cnt 137 Q (xo_div (fun x y => x - x / y * y) 11 lo st h) := run_s rfl
theorem rq_X10_common_11 {lo : Lo} {st : List Value} {h : Hp} {Q : Option Value → Hp → Prop} : Run 137 11 lo st h Q = Cnt 137 Q (xo_istore 4 13 lo st h) := run_s rfl
theorem rq_X10_common_13 {lo : Lo} {st : List Value} {h : Hp} {Q : Option Value → Hp → Prop} : Run 137 13 lo st h Q = Cnt 137 Q (xo_iload 3 14 lo st h) := run_s rfl
theorem rq_X10_common_14 {lo : Lo} {st : List Value} {h : Hp} {Q : Option Value → Hp → Prop} : Run 137 14 lo st h Q = Cnt 137 Q (xo_istore 2 15 lo st h) := run_s rfl
theorem rq_X10_common_15 {lo : Lo} {st : List Value} {h : Hp} {Q : Option Value → Hp → Prop} : Run 137 15 lo st h Q = Cnt 137 Q (xo_iload 4 17 lo st h) := run_s rfl
theorem rq_X10_common_17 {lo : Lo} {st : List Value} {h : Hp} {Q : Option Value → Hp → Prop} : Run 137 17 lo st h Q = Cnt 137 Q (xo_istore 3 18 lo st h) := run_s rfl
theorem rq_X10_common_18 {lo : Lo} {st : List Value} {h : Hp} {Q : Option Value → Hp → Prop} : Run 137 18 lo st h Q = Cnt 137 Q (xo_goto 4 lo st h) := run_s rfl
theorem rq_X10_common_21 {lo : Lo} {st : List Value} {h : Hp} {Q : Option Value → Hp → Prop} : Run 137 21 lo st h Q = Cnt 137 Q (xo_iload 2 22 lo st h) := run_s rfl
theorem rq_X10_common_22 {lo : Lo} {st : List Value} {h : Hp} {Q : Option Value → Hp → Prop} : Run 137 22 lo st h Q = Cnt 137 Q (xo_iret lo st h) := run_s rfl
theorem rq_X10_thick_0 {lo : Lo} {st : List Value} {h : Hp} {Q : Option Value → Hp → Prop} : Run 138 0 lo st h Q = Cnt 138 Q (xo_aload 0 1 lo st h) := run_s rfl
theorem rq_X10_thick_1 {lo : Lo} {st : List Value} {h : Hp} {Q : Option Value → Hp → Prop} : Run 138 1 lo st h Q = Cnt 138 Q (xo_iload 1 2 lo st h) := run_s rfl
theorem rq_X10_thick_2 {lo : Lo} {st : List Value} {h : Hp} {Q : Option Value → Hp → Prop} : Run 138 2 lo st h Q = Cnt 138 Q (xo_iload 2 3 lo st h) := run_s rfl
theorem rq_X10_thick_3 {lo : Lo} {st : List Value} {h : Hp} {Q : Option Value → Hp → Prop} : Run 138 3 lo st h Q = CCall 136 3 (some 10) st h (Knt 138 6 lo (st.drop 3) Q) := run_c rfl
theorem rq_X10_thick_6 {lo : Lo} {st : List Value} {h : Hp} {Q : Option Value → Hp → Prop} : Run 138 6 lo st h Q = Cnt 138 Q (xo_if1 (fun x => decide (¬ x = 0)) 11 9 lo st h) := run_s rfl
theorem rq_X10_thick_9 {lo : Lo} {st : List Value} {h : Hp} {Q : Option Value → Hp → Prop} : Run 138 9 lo st h Q = Cnt 138 Q (xo_const (.int (-1)) 10 lo st h) := run_s rfl
theorem rq_X10_thick_10 {lo : Lo} {st : List Value} {h : Hp} {Q : Option Value → Hp → Prop} : Run 138 10 lo st h Q = Cnt 138 Q (xo_iret lo st h) := run_s rfl
theorem rq_X10_thick_11 {lo : Lo} {st : List Value} {h : Hp} {Q : Option Value → Hp → Prop} : Run 138 11 lo st h Q = Cnt 138 Q (xo_iload 3 12 lo st h) := run_s rfl
theorem rq_X10_thick_12 {lo : Lo} {st : List Value} {h : Hp} {Q : Option Value → Hp → Prop} : Run 138 12 lo st h Q = Cnt 138 Q (xo_const (.int 0) 13 lo st h) := run_s rfl
theorem rq_X10_thick_13 {lo : Lo} {st : List Value} {h : Hp} {Q : Option Value → Hp → Prop} : Run 138 13 lo st h Q = Cnt 138 Q (xo_const (.int 1) 14 lo st h) := run_s rfl
theorem rq_X10_thick_14 {lo : Lo} {st : List Value} {h : Hp} {Q : Option Value → Hp → Prop} : Run 138 14 lo st h Q = CCall 111 3 none st h (Knt 138 17 lo (st.drop 3) Q) := run_c rfl
theorem rq_X10_thick_17 {lo : Lo} {st : List Value} {h : Hp} {Q : Option Value → Hp → Prop} : Run 138 17 lo st h Q = Cnt 138 Q (xo_if1 (fun x => decide (¬ x = 0)) 23 20 lo st h) := run_s rfl
theorem rq_X10_thick_20 {lo : Lo} {st : List Value} {h : Hp} {Q : Option Value → Hp → Prop} : Run 138 20 lo st h Q = Cnt 138 Q (xo_const (.int (-2)) 22 lo st h) := run_s rfl
theorem rq_X10_thick_22 {lo : Lo} {st : List Value} {h : Hp} {Q : Option Value → Hp → Prop} : Run 138 22 lo st h Q = Cnt 138 Q (xo_iret lo st h) := run_s rfl
theorem rq_X10_thick_23 {lo : Lo} {st : List Value} {h : Hp} {Q : Option Value → Hp → Prop} : Run 138 23 lo st h Q = Cnt 138 Q (xo_const (.int 156) 26 lo st h) := run_s rfl
theorem rq_X10_thick_26 {lo : Lo} {st : List Value} {h : Hp} {Q : Option Value → Hp → Prop} : Run 138 26 lo st h Q = Cnt 138 Q (xo_iload 1 27 lo st h) := run_s rfl
theorem rq_X10_thick_27 {lo : Lo} {st : List Value} {h : Hp} {Q : Option Value → Hp → Prop} : Run 138 27 lo st h Q = Cnt 138 Q (xo_bin (fun x y => x + y) 28 lo st h) := run_s rfl
theorem rq_X10_thick_28 {lo : Lo} {st : List Value} {h : Hp} {Q : Option Value → Hp → Prop} : Run 138 28 lo st h Q = Cnt 138 Q (xo_istore 4 30 lo st h) := run_s rfl
theorem rq_X10_thick_30 {lo : Lo} {st : List Value} {h : Hp} {Q : Option Value → Hp → Prop} : Run 138 30 lo st h Q = Cnt 138 Q (xo_aload 0 31 lo st h) := run_s rfl
theorem rq_X10_thick_31 {lo : Lo} {st : List Value} {h : Hp} {Q : Option Value → Hp → Prop} : Run 138 31 lo st h Q = Cnt 138 Q (xo_iload 4 33 lo st h) := run_s rfl
theorem rq_X10_thick_33 {lo : Lo} {st : List Value} {h : Hp} {Q : Option Value → Hp → Prop} : Run 138 33 lo st h Q = Cnt 138 Q (xo_iload 2 34 lo st h) := run_s rfl
theorem rq_X10_thick_34 {lo : Lo} {st : List Value} {h : Hp} {Q : Option Value → Hp → Prop} : Run 138 34 lo st h Q = CCall 134 3 (some 10) st h (Knt 138 37 lo (st.drop 3) Q) := run_c rfl
theorem rq_X10_thick_37 {lo : Lo} {st : List Value} {h : Hp} {Q : Option Value → Hp → Prop} : Run 138 37 lo st h Q = Cnt 138 Q (xo_istore 5 39 lo st h) := run_s rfl
theorem rq_X10_thick_39 {lo : Lo} {st : List Value} {h : Hp} {Q : Option Value → Hp → Prop} : Run 138 39 lo st h Q = Cnt 138 Q (xo_aload 0 40 lo st h) := run_s rfl
theorem rq_X10_thick_40 {lo : Lo} {st : List Value} {h : Hp} {Q : Option Value → Hp → Prop} : Run 138 40 lo st h Q = Cnt 138 Q (xo_iload 4 42 lo st h) := run_s rfl
theorem rq_X10_thick_42 {lo : Lo} {st : List Value} {h : Hp} {Q : Option Value → Hp → Prop} : Run 138 42 lo st h Q = Cnt 138 Q (xo_iload 2 43 lo st h) := run_s rfl
theorem rq_X10_thick_43 {lo : Lo} {st : List Value} {h : Hp} {Q : Option Value → Hp → Prop} : Run 138 43 lo st h Q = CCall 135 3 (some 10) st h (Knt 138 46 lo (st.drop 3) Q) := run_c rfl
theorem rq_X10_thick_46 {lo : Lo} {st : List Value} {h : Hp} {Q : Option Value → Hp → Prop} : Run 138 46 lo st h Q = Cnt 138 Q (xo_istore 6 48 lo st h) := run_s rfl
theorem rq_X10_thick_48 {lo : Lo} {st : List Value} {h : Hp} {Q : Option Value → Hp → Prop} : Run 138 48 lo st h Q = Cnt 138 Q (xo_iload 5 50 lo st h) := run_s rfl
theorem rq_X10_thick_50 {lo : Lo} {st : List Value} {h : Hp} {Q : Option Value → Hp → Prop} : Run 138 50 lo st h Q = Cnt 138 Q (xo_aload 0 51 lo st h) := run_s rfl
theorem rq_X10_thick_51 {lo : Lo} {st : List Value} {h : Hp} {Q : Option Value → Hp → Prop} : Run 138 51 lo st h Q = Cnt 138 Q (xo_getf 10 8 54 lo st h) := run_s rfl
theorem rq_X10_thick_54 {lo : Lo} {st : List Value} {h : Hp} {Q : Option Value → Hp → Prop} : Run 138 54 lo st h Q = Cnt 138 Q (xo_iload 4 56 lo st h) := run_s rfl
theorem rq_X10_thick_56 {lo : Lo} {st : List Value} {h : Hp} {Q : Option Value → Hp → Prop} : Run 138 56 lo st h Q = Cnt 138 Q (xo_iald 57 lo st h) := run_s rfl
theorem rq_X10_thick_57 {lo : Lo} {st : List Value} {h : Hp} {Q : Option Value → Hp → Prop} : Run 138 57 lo st h Q = Cnt 138 Q (xo_bin (fun x y => x * y) 58 lo st h) := run_s rfl
theorem rq_X10_thick_58 {lo : Lo} {st : List Value} {h : Hp} {Q : Option Value → Hp → Prop} : Run 138 58 lo st h Q = Cnt 138 Q (xo_iload 6 60 lo st h) := run_s rfl
theorem rq_X10_thick_60 {lo : Lo} {st : List Value} {h : Hp} {Q : Option Value → Hp → Prop} : Run 138 60 lo st h Q = Cnt 138 Q (xo_aload 0 61 lo st h) := run_s rfl
theorem rq_X10_thick_61 {lo : Lo} {st : List Value} {h : Hp} {Q : Option Value → Hp → Prop} : Run 138 61 lo st h Q = Cnt 138 Q (xo_getf 10 7 64 lo st h) := run_s rfl
theorem rq_X10_thick_64 {lo : Lo} {st : List Value} {h : Hp} {Q : Option Value → Hp → Prop} : Run 138 64 lo st h Q = Cnt 138 Q (xo_iload 4 66 lo st h) := run_s rfl
theorem rq_X10_thick_66 {lo : Lo} {st : List Value} {h : Hp} {Q : Option Value → Hp → Prop} : Run 138 66 lo st h Q = Cnt 138 Q (xo_iald 67 lo st h) := run_s rfl
theorem rq_X10_thick_67 {lo : Lo} {st : List Value} {h : Hp} {Q : Option Value → Hp → Prop} : Run 138 67 lo st h Q = Cnt 138 Q (xo_bin (fun x y => x * y) 68 lo st h) := run_s rfl
theorem rq_X10_thick_68 {lo : Lo} {st : List Value} {h : Hp} {Q : Option Value → Hp → Prop} : Run 138 68 lo st h Q = Cnt 138 Q (xo_bin (fun x y => x - y) 69 lo st h) := run_s rfl
theorem rq_X10_thick_69 {lo : Lo} {st : List Value} {h : Hp} {Q : Option Value → Hp → Prop} : Run 138 69 lo st h Q = Cnt 138 Q (xo_istore 7 71 lo st h) := run_s rfl
theorem rq_X10_thick_71 {lo : Lo} {st : List Value} {h : Hp} {Q : Option Value → Hp → Prop} : Run 138 71 lo st h Q = Cnt 138 Q (xo_const (.int 4) 72 lo st h) := run_s rfl
theorem rq_X10_thick_72 {lo : Lo} {st : List Value} {h : Hp} {Q : Option Value → Hp → Prop} : Run 138 72 lo st h Q = Cnt 138 Q (xo_iload 7 74 lo st h) := run_s rfl
theorem rq_X10_thick_74 {lo : Lo} {st : List Value} {h : Hp} {Q : Option Value → Hp → Prop} : Run 138 74 lo st h Q = Cnt 138 Q (xo_bin (fun x y => x * y) 75 lo st h) := run_s rfl
theorem rq_X10_thick_75 {lo : Lo} {st : List Value} {h : Hp} {Q : Option Value → Hp → Prop} : Run 138 75 lo st h Q = Cnt 138 Q (xo_iload 7 77 lo st h) := run_s rfl
theorem rq_X10_thick_77 {lo : Lo} {st : List Value} {h : Hp} {Q : Option Value → Hp → Prop} : Run 138 77 lo st h Q = Cnt 138 Q (xo_bin (fun x y => x * y) 78 lo st h) := run_s rfl
theorem rq_X10_thick_78 {lo : Lo} {st : List Value} {h : Hp} {Q : Option Value → Hp → Prop} : Run 138 78 lo st h Q = Cnt 138 Q (xo_istore 8 80 lo st h) := run_s rfl
theorem rq_X10_thick_80 {lo : Lo} {st : List Value} {h : Hp} {Q : Option Value → Hp → Prop} : Run 138 80 lo st h Q = Cnt 138 Q (xo_iload 5 82 lo st h) := run_s rfl
theorem rq_X10_thick_82 {lo : Lo} {st : List Value} {h : Hp} {Q : Option Value → Hp → Prop} : Run 138 82 lo st h Q = Cnt 138 Q (xo_iload 5 84 lo st h) := run_s rfl
theorem rq_X10_thick_84 {lo : Lo} {st : List Value} {h : Hp} {Q : Option Value → Hp → Prop} : Run 138 84 lo st h Q = Cnt 138 Q (xo_bin (fun x y => x * y) 85 lo st h) := run_s rfl
theorem rq_X10_thick_85 {lo : Lo} {st : List Value} {h : Hp} {Q : Option Value → Hp → Prop} : Run 138 85 lo st h Q = Cnt 138 Q (xo_iload 6 87 lo st h) := run_s rfl
theorem rq_X10_thick_87 {lo : Lo} {st : List Value} {h : Hp} {Q : Option Value → Hp → Prop} : Run 138 87 lo st h Q = Cnt 138 Q (xo_iload 6 89 lo st h) := run_s rfl
theorem rq_X10_thick_89 {lo : Lo} {st : List Value} {h : Hp} {Q : Option Value → Hp → Prop} : Run 138 89 lo st h Q = Cnt 138 Q (xo_bin (fun x y => x * y) 90 lo st h) := run_s rfl
theorem rq_X10_thick_90 {lo : Lo} {st : List Value} {h : Hp} {Q : Option Value → Hp → Prop} : Run 138 90 lo st h Q = Cnt 138 Q (xo_bin (fun x y => x + y) 91 lo st h) := run_s rfl
theorem rq_X10_thick_91 {lo : Lo} {st : List Value} {h : Hp} {Q : Option Value → Hp → Prop} : Run 138 91 lo st h Q = Cnt 138 Q (xo_istore 9 93 lo st h) := run_s rfl
theorem rq_X10_thick_93 {lo : Lo} {st : List Value} {h : Hp} {Q : Option Value → Hp → Prop} : Run 138 93 lo st h Q = Cnt 138 Q (xo_iload 3 94 lo st h) := run_s rfl
theorem rq_X10_thick_94 {lo : Lo} {st : List Value} {h : Hp} {Q : Option Value → Hp → Prop} : Run 138 94 lo st h Q = Cnt 138 Q (xo_if1 (fun x => decide (¬ x = 0)) 102 97 lo st h) := run_s rfl
theorem rq_X10_thick_97 {lo : Lo} {st : List Value} {h : Hp} {Q : Option Value → Hp → Prop} : Run 138 97 lo st h Q = Cnt 138 Q (xo_iload 8 99 lo st h) := run_s rfl
theorem rq_X10_thick_99 {lo : Lo} {st : List Value} {h : Hp} {Q : Option Value → Hp → Prop} : Run 138 99 lo st h Q = Cnt 138 Q (xo_goto 104 lo st h) := run_s rfl
theorem rq_X10_thick_102 {lo : Lo} {st : List Value} {h : Hp} {Q : Option Value → Hp → Prop} : Run 138 102 lo st h Q = Cnt 138 Q (xo_iload 9 104 lo st h) := run_s rfl
theorem rq_X10_thick_104 {lo : Lo} {st : List Value} {h : Hp} {Q : Option Value → Hp → Prop} : Run 138 104 lo st h Q = Cnt 138 Q (xo_iload 8 106 lo st h) := run_s rfl
theorem rq_X10_thick_106 {lo : Lo} {st : List Value} {h : Hp} {Q : Option Value → Hp → Prop} : Run 138 106 lo st h Q = Cnt 138 Q (xo_iload 9 108 lo st h) := run_s rfl
theorem rq_X10_thick_108 {lo : Lo} {st : List Value} {h : Hp} {Q : Option Value → Hp → Prop} : Run 138 108 lo st h Q = CCall 137 2 none st h (Knt 138 111 lo (st.drop 2) Q) := run_c rfl
theorem rq_X10_thick_111 {lo : Lo} {st : List Value} {h : Hp} {Q : Option Value → Hp → Prop} : Run 138 111 lo st h Q = Cnt 138 Q (xo_div (fun x y => x / y) 112 lo st h) := run_s rfl
theorem rq_X10_thick_112 {lo : Lo} {st : List Value} {h : Hp} {Q : Option Value → Hp → Prop} : Run 138 112 lo st h Q = Cnt 138 Q (xo_iret lo st h) := run_s rfl
theorem rq_X10_sortOf_0 {lo : Lo} {st : List Value} {h : Hp} {Q : Option Value → Hp → Prop} : Run 139 0 lo st h Q = Cnt 139 Q (xo_aload 0 1 lo st h) := run_s rfl
theorem rq_X10_sortOf_1 {lo : Lo} {st : List Value} {h : Hp} {Q : Option Value → Hp → Prop} : Run 139 1 lo st h Q = Cnt 139 Q (xo_iload 1 2 lo st h) := run_s rfl
theorem rq_X10_sortOf_2 {lo : Lo} {st : List Value} {h : Hp} {Q : Option Value → Hp → Prop} : Run 139 2 lo st h Q = Cnt 139 Q (xo_iload 2 3 lo st h) := run_s rfl
theorem rq_X10_sortOf_3 {lo : Lo} {st : List Value} {h : Hp} {Q : Option Value → Hp → Prop} : Run 139 3 lo st h Q = CCall 134 3 (some 10) st h (Knt 139 6 lo (st.drop 3) Q) := run_c rfl
theorem rq_X10_sortOf_6 {lo : Lo} {st : List Value} {h : Hp} {Q : Option Value → Hp → Prop} : Run 139 6 lo st h Q = Cnt 139 Q (xo_istore 6 8 lo st h) := run_s rfl
theorem rq_X10_sortOf_8 {lo : Lo} {st : List Value} {h : Hp} {Q : Option Value → Hp → Prop} : Run 139 8 lo st h Q = Cnt 139 Q (xo_aload 0 9 lo st h) := run_s rfl
theorem rq_X10_sortOf_9 {lo : Lo} {st : List Value} {h : Hp} {Q : Option Value → Hp → Prop} : Run 139 9 lo st h Q = Cnt 139 Q (xo_iload 1 10 lo st h) := run_s rfl
theorem rq_X10_sortOf_10 {lo : Lo} {st : List Value} {h : Hp} {Q : Option Value → Hp → Prop} : Run 139 10 lo st h Q = Cnt 139 Q (xo_iload 2 11 lo st h) := run_s rfl
theorem rq_X10_sortOf_11 {lo : Lo} {st : List Value} {h : Hp} {Q : Option Value → Hp → Prop} : Run 139 11 lo st h Q = CCall 135 3 (some 10) st h (Knt 139 14 lo (st.drop 3) Q) := run_c rfl
theorem rq_X10_sortOf_14 {lo : Lo} {st : List Value} {h : Hp} {Q : Option Value → Hp → Prop} : Run 139 14 lo st h Q = Cnt 139 Q (xo_istore 7 16 lo st h) := run_s rfl
theorem rq_X10_sortOf_16 {lo : Lo} {st : List Value} {h : Hp} {Q : Option Value → Hp → Prop} : Run 139 16 lo st h Q = Cnt 139 Q (xo_iload 6 18 lo st h) := run_s rfl
theorem rq_X10_sortOf_18 {lo : Lo} {st : List Value} {h : Hp} {Q : Option Value → Hp → Prop} : Run 139 18 lo st h Q = Cnt 139 Q (xo_iload 4 20 lo st h) := run_s rfl
theorem rq_X10_sortOf_20 {lo : Lo} {st : List Value} {h : Hp} {Q : Option Value → Hp → Prop} : Run 139 20 lo st h Q = Cnt 139 Q (xo_bin (fun x y => x * y) 21 lo st h) := run_s rfl
theorem rq_X10_sortOf_21 {lo : Lo} {st : List Value} {h : Hp} {Q : Option Value → Hp → Prop} : Run 139 21 lo st h Q = Cnt 139 Q (xo_iload 7 23 lo st h) := run_s rfl
theorem rq_X10_sortOf_23 {lo : Lo} {st : List Value} {h : Hp} {Q : Option Value → Hp → Prop} : Run 139 23 lo st h Q = Cnt 139 Q (xo_iload 3 24 lo st h) := run_s rfl
theorem rq_X10_sortOf_24 {lo : Lo} {st : List Value} {h : Hp} {Q : Option Value → Hp → Prop} : Run 139 24 lo st h Q = Cnt 139 Q (xo_bin (fun x y => x * y) 25 lo st h) := run_s rfl
theorem rq_X10_sortOf_25 {lo : Lo} {st : List Value} {h : Hp} {Q : Option Value → Hp → Prop} : Run 139 25 lo st h Q = Cnt 139 Q (xo_bin (fun x y => x - y) 26 lo st h) := run_s rfl
theorem rq_X10_sortOf_26 {lo : Lo} {st : List Value} {h : Hp} {Q : Option Value → Hp → Prop} : Run 139 26 lo st h Q = Cnt 139 Q (xo_istore 8 28 lo st h) := run_s rfl
theorem rq_X10_sortOf_28 {lo : Lo} {st : List Value} {h : Hp} {Q : Option Value → Hp → Prop} : Run 139 28 lo st h Q = Cnt 139 Q (xo_iload 8 30 lo st h) := run_s rfl
theorem rq_X10_sortOf_30 {lo : Lo} {st : List Value} {h : Hp} {Q : Option Value → Hp → Prop} : Run 139 30 lo st h Q = Cnt 139 Q (xo_if1 (fun x => decide (¬ x = 0)) 35 33 lo st h) := run_s rfl
theorem rq_X10_sortOf_33 {lo : Lo} {st : List Value} {h : Hp} {Q : Option Value → Hp → Prop} : Run 139 33 lo st h Q = Cnt 139 Q (xo_const (.int 0) 34 lo st h) := run_s rfl
theorem rq_X10_sortOf_34 {lo : Lo} {st : List Value} {h : Hp} {Q : Option Value → Hp → Prop} : Run 139 34 lo st h Q = Cnt 139 Q (xo_iret lo st h) := run_s rfl
theorem rq_X10_sortOf_35 {lo : Lo} {st : List Value} {h : Hp} {Q : Option Value → Hp → Prop} : Run 139 35 lo st h Q = Cnt 139 Q (xo_const (.int 4) 36 lo st h) := run_s rfl
theorem rq_X10_sortOf_36 {lo : Lo} {st : List Value} {h : Hp} {Q : Option Value → Hp → Prop} : Run 139 36 lo st h Q = Cnt 139 Q (xo_iload 8 38 lo st h) := run_s rfl
theorem rq_X10_sortOf_38 {lo : Lo} {st : List Value} {h : Hp} {Q : Option Value → Hp → Prop} : Run 139 38 lo st h Q = Cnt 139 Q (xo_bin (fun x y => x * y) 39 lo st h) := run_s rfl
theorem rq_X10_sortOf_39 {lo : Lo} {st : List Value} {h : Hp} {Q : Option Value → Hp → Prop} : Run 139 39 lo st h Q = Cnt 139 Q (xo_iload 8 41 lo st h) := run_s rfl
theorem rq_X10_sortOf_41 {lo : Lo} {st : List Value} {h : Hp} {Q : Option Value → Hp → Prop} : Run 139 41 lo st h Q = Cnt 139 Q (xo_bin (fun x y => x * y) 42 lo st h) := run_s rfl
theorem rq_X10_sortOf_42 {lo : Lo} {st : List Value} {h : Hp} {Q : Option Value → Hp → Prop} : Run 139 42 lo st h Q = Cnt 139 Q (xo_iload 5 44 lo st h) := run_s rfl
theorem rq_X10_sortOf_44 {lo : Lo} {st : List Value} {h : Hp} {Q : Option Value → Hp → Prop} : Run 139 44 lo st h Q = Cnt 139 Q (xo_iload 5 46 lo st h) := run_s rfl
theorem rq_X10_sortOf_46 {lo : Lo} {st : List Value} {h : Hp} {Q : Option Value → Hp → Prop} : Run 139 46 lo st h Q = Cnt 139 Q (xo_bin (fun x y => x * y) 47 lo st h) := run_s rfl
theorem rq_X10_sortOf_47 {lo : Lo} {st : List Value} {h : Hp} {Q : Option Value → Hp → Prop} : Run 139 47 lo st h Q = Cnt 139 Q (xo_iload 6 49 lo st h) := run_s rfl
theorem rq_X10_sortOf_49 {lo : Lo} {st : List Value} {h : Hp} {Q : Option Value → Hp → Prop} : Run 139 49 lo st h Q = Cnt 139 Q (xo_iload 6 51 lo st h) := run_s rfl
theorem rq_X10_sortOf_51 {lo : Lo} {st : List Value} {h : Hp} {Q : Option Value → Hp → Prop} : Run 139 51 lo st h Q = Cnt 139 Q (xo_bin (fun x y => x * y) 52 lo st h) := run_s rfl
theorem rq_X10_sortOf_52 {lo : Lo} {st : List Value} {h : Hp} {Q : Option Value → Hp → Prop} : Run 139 52 lo st h Q = Cnt 139 Q (xo_iload 7 54 lo st h) := run_s rfl
theorem rq_X10_sortOf_54 {lo : Lo} {st : List Value} {h : Hp} {Q : Option Value → Hp → Prop} : Run 139 54 lo st h Q = Cnt 139 Q (xo_iload 7 56 lo st h) := run_s rfl
theorem rq_X10_sortOf_56 {lo : Lo} {st : List Value} {h : Hp} {Q : Option Value → Hp → Prop} : Run 139 56 lo st h Q = Cnt 139 Q (xo_bin (fun x y => x * y) 57 lo st h) := run_s rfl
theorem rq_X10_sortOf_57 {lo : Lo} {st : List Value} {h : Hp} {Q : Option Value → Hp → Prop} : Run 139 57 lo st h Q = Cnt 139 Q (xo_bin (fun x y => x + y) 58 lo st h) := run_s rfl
theorem rq_X10_sortOf_58 {lo : Lo} {st : List Value} {h : Hp} {Q : Option Value → Hp → Prop} : Run 139 58 lo st h Q = Cnt 139 Q (xo_bin (fun x y => x * y) 59 lo st h) := run_s rfl
theorem rq_X10_sortOf_59 {lo : Lo} {st : List Value} {h : Hp} {Q : Option Value → Hp → Prop} : Run 139 59 lo st h Q = Cnt 139 Q (xo_if2 (fun x y => decide (x < y)) 66 62 lo st h) := run_s rfl
theorem rq_X10_sortOf_62 {lo : Lo} {st : List Value} {h : Hp} {Q : Option Value → Hp → Prop} : Run 139 62 lo st h Q = Cnt 139 Q (xo_const (.int 2) 63 lo st h) := run_s rfl
theorem rq_X10_sortOf_63 {lo : Lo} {st : List Value} {h : Hp} {Q : Option Value → Hp → Prop} : Run 139 63 lo st h Q = Cnt 139 Q (xo_goto 67 lo st h) := run_s rfl
theorem rq_X10_sortOf_66 {lo : Lo} {st : List Value} {h : Hp} {Q : Option Value → Hp → Prop} : Run 139 66 lo st h Q = Cnt 139 Q (xo_const (.int 1) 67 lo st h) := run_s rfl
theorem rq_X10_sortOf_67 {lo : Lo} {st : List Value} {h : Hp} {Q : Option Value → Hp → Prop} : Run 139 67 lo st h Q = Cnt 139 Q (xo_iret lo st h) := run_s rfl
theorem rq_X10_sort_0 {lo : Lo} {st : List Value} {h : Hp} {Q : Option Value → Hp → Prop} : Run 140 0 lo st h Q = Cnt 140 Q (xo_aload 0 1 lo st h) := run_s rfl
theorem rq_X10_sort_1 {lo : Lo} {st : List Value} {h : Hp} {Q : Option Value → Hp → Prop} : Run 140 1 lo st h Q = Cnt 140 Q (xo_iload 1 2 lo st h) := run_s rfl
theorem rq_X10_sort_2 {lo : Lo} {st : List Value} {h : Hp} {Q : Option Value → Hp → Prop} : Run 140 2 lo st h Q = Cnt 140 Q (xo_iload 2 3 lo st h) := run_s rfl
theorem rq_X10_sort_3 {lo : Lo} {st : List Value} {h : Hp} {Q : Option Value → Hp → Prop} : Run 140 3 lo st h Q = CCall 136 3 (some 10) st h (Knt 140 6 lo (st.drop 3) Q) := run_c rfl
theorem rq_X10_sort_6 {lo : Lo} {st : List Value} {h : Hp} {Q : Option Value → Hp → Prop} : Run 140 6 lo st h Q = Cnt 140 Q (xo_if1 (fun x => decide (¬ x = 0)) 11 9 lo st h) := run_s rfl
theorem rq_X10_sort_9 {lo : Lo} {st : List Value} {h : Hp} {Q : Option Value → Hp → Prop} : Run 140 9 lo st h Q = Cnt 140 Q (xo_const (.int (-1)) 10 lo st h) := run_s rfl
theorem rq_X10_sort_10 {lo : Lo} {st : List Value} {h : Hp} {Q : Option Value → Hp → Prop} : Run 140 10 lo st h Q = Cnt 140 Q (xo_iret lo st h) := run_s rfl
theorem rq_X10_sort_11 {lo : Lo} {st : List Value} {h : Hp} {Q : Option Value → Hp → Prop} : Run 140 11 lo st h Q = Cnt 140 Q (xo_const (.int 156) 14 lo st h) := run_s rfl
theorem rq_X10_sort_14 {lo : Lo} {st : List Value} {h : Hp} {Q : Option Value → Hp → Prop} : Run 140 14 lo st h Q = Cnt 140 Q (xo_iload 1 15 lo st h) := run_s rfl
theorem rq_X10_sort_15 {lo : Lo} {st : List Value} {h : Hp} {Q : Option Value → Hp → Prop} : Run 140 15 lo st h Q = Cnt 140 Q (xo_bin (fun x y => x + y) 16 lo st h) := run_s rfl
theorem rq_X10_sort_16 {lo : Lo} {st : List Value} {h : Hp} {Q : Option Value → Hp → Prop} : Run 140 16 lo st h Q = Cnt 140 Q (xo_istore 3 17 lo st h) := run_s rfl
theorem rq_X10_sort_17 {lo : Lo} {st : List Value} {h : Hp} {Q : Option Value → Hp → Prop} : Run 140 17 lo st h Q = Cnt 140 Q (xo_aload 0 18 lo st h) := run_s rfl
theorem rq_X10_sort_18 {lo : Lo} {st : List Value} {h : Hp} {Q : Option Value → Hp → Prop} : Run 140 18 lo st h Q = Cnt 140 Q (xo_iload 3 19 lo st h) := run_s rfl
theorem rq_X10_sort_19 {lo : Lo} {st : List Value} {h : Hp} {Q : Option Value → Hp → Prop} : Run 140 19 lo st h Q = Cnt 140 Q (xo_iload 2 20 lo st h) := run_s rfl
theorem rq_X10_sort_20 {lo : Lo} {st : List Value} {h : Hp} {Q : Option Value → Hp → Prop} : Run 140 20 lo st h Q = Cnt 140 Q (xo_aload 0 21 lo st h) := run_s rfl
theorem rq_X10_sort_21 {lo : Lo} {st : List Value} {h : Hp} {Q : Option Value → Hp → Prop} : Run 140 21 lo st h Q = Cnt 140 Q (xo_getf 10 7 24 lo st h) := run_s rfl
theorem rq_X10_sort_24 {lo : Lo} {st : List Value} {h : Hp} {Q : Option Value → Hp → Prop} : Run 140 24 lo st h Q = Cnt 140 Q (xo_iload 3 25 lo st h) := run_s rfl
theorem rq_X10_sort_25 {lo : Lo} {st : List Value} {h : Hp} {Q : Option Value → Hp → Prop} : Run 140 25 lo st h Q = Cnt 140 Q (xo_iald 26 lo st h) := run_s rfl
theorem rq_X10_sort_26 {lo : Lo} {st : List Value} {h : Hp} {Q : Option Value → Hp → Prop} : Run 140 26 lo st h Q = Cnt 140 Q (xo_aload 0 27 lo st h) := run_s rfl
theorem rq_X10_sort_27 {lo : Lo} {st : List Value} {h : Hp} {Q : Option Value → Hp → Prop} : Run 140 27 lo st h Q = Cnt 140 Q (xo_getf 10 8 30 lo st h) := run_s rfl
theorem rq_X10_sort_30 {lo : Lo} {st : List Value} {h : Hp} {Q : Option Value → Hp → Prop} : Run 140 30 lo st h Q = Cnt 140 Q (xo_iload 3 31 lo st h) := run_s rfl
theorem rq_X10_sort_31 {lo : Lo} {st : List Value} {h : Hp} {Q : Option Value → Hp → Prop} : Run 140 31 lo st h Q = Cnt 140 Q (xo_iald 32 lo st h) := run_s rfl
theorem rq_X10_sort_32 {lo : Lo} {st : List Value} {h : Hp} {Q : Option Value → Hp → Prop} : Run 140 32 lo st h Q = Cnt 140 Q (xo_aload 0 33 lo st h) := run_s rfl
theorem rq_X10_sort_33 {lo : Lo} {st : List Value} {h : Hp} {Q : Option Value → Hp → Prop} : Run 140 33 lo st h Q = Cnt 140 Q (xo_getf 10 13 36 lo st h) := run_s rfl
theorem rq_X10_sort_36 {lo : Lo} {st : List Value} {h : Hp} {Q : Option Value → Hp → Prop} : Run 140 36 lo st h Q = CCall 139 6 (some 10) st h (Knt 140 39 lo (st.drop 6) Q) := run_c rfl
theorem rq_X10_sort_39 {lo : Lo} {st : List Value} {h : Hp} {Q : Option Value → Hp → Prop} : Run 140 39 lo st h Q = Cnt 140 Q (xo_iret lo st h) := run_s rfl
theorem rq_X10_wrongOf_0 {lo : Lo} {st : List Value} {h : Hp} {Q : Option Value → Hp → Prop} : Run 141 0 lo st h Q = Cnt 141 Q (xo_const (.int 0) 1 lo st h) := run_s rfl
theorem rq_X10_wrongOf_1 {lo : Lo} {st : List Value} {h : Hp} {Q : Option Value → Hp → Prop} : Run 141 1 lo st h Q = Cnt 141 Q (xo_istore 5 3 lo st h) := run_s rfl
theorem rq_X10_wrongOf_3 {lo : Lo} {st : List Value} {h : Hp} {Q : Option Value → Hp → Prop} : Run 141 3 lo st h Q = Cnt 141 Q (xo_const (.int 0) 4 lo st h) := run_s rfl
theorem rq_X10_wrongOf_4 {lo : Lo} {st : List Value} {h : Hp} {Q : Option Value → Hp → Prop} : Run 141 4 lo st h Q = Cnt 141 Q (xo_istore 6 6 lo st h) := run_s rfl
theorem rq_X10_wrongOf_6 {lo : Lo} {st : List Value} {h : Hp} {Q : Option Value → Hp → Prop} : Run 141 6 lo st h Q = Cnt 141 Q (xo_iload 6 8 lo st h) := run_s rfl
theorem rq_X10_wrongOf_8 {lo : Lo} {st : List Value} {h : Hp} {Q : Option Value → Hp → Prop} : Run 141 8 lo st h Q = Cnt 141 Q (xo_aload 0 9 lo st h) := run_s rfl
theorem rq_X10_wrongOf_9 {lo : Lo} {st : List Value} {h : Hp} {Q : Option Value → Hp → Prop} : Run 141 9 lo st h Q = Cnt 141 Q (xo_getf 10 6 12 lo st h) := run_s rfl
theorem rq_X10_wrongOf_12 {lo : Lo} {st : List Value} {h : Hp} {Q : Option Value → Hp → Prop} : Run 141 12 lo st h Q = Cnt 141 Q (xo_iload 1 13 lo st h) := run_s rfl
theorem rq_X10_wrongOf_13 {lo : Lo} {st : List Value} {h : Hp} {Q : Option Value → Hp → Prop} : Run 141 13 lo st h Q = Cnt 141 Q (xo_iald 14 lo st h) := run_s rfl
theorem rq_X10_wrongOf_14 {lo : Lo} {st : List Value} {h : Hp} {Q : Option Value → Hp → Prop} : Run 141 14 lo st h Q = Cnt 141 Q (xo_const (.int 1) 15 lo st h) := run_s rfl
theorem rq_X10_wrongOf_15 {lo : Lo} {st : List Value} {h : Hp} {Q : Option Value → Hp → Prop} : Run 141 15 lo st h Q = Cnt 141 Q (xo_bin (fun x y => x - y) 16 lo st h) := run_s rfl
theorem rq_X10_wrongOf_16 {lo : Lo} {st : List Value} {h : Hp} {Q : Option Value → Hp → Prop} : Run 141 16 lo st h Q = Cnt 141 Q (xo_if2 (fun x y => decide (x ≥ y)) 86 19 lo st h) := run_s rfl
theorem rq_X10_wrongOf_19 {lo : Lo} {st : List Value} {h : Hp} {Q : Option Value → Hp → Prop} : Run 141 19 lo st h Q = Cnt 141 Q (xo_aload 0 20 lo st h) := run_s rfl
theorem rq_X10_wrongOf_20 {lo : Lo} {st : List Value} {h : Hp} {Q : Option Value → Hp → Prop} : Run 141 20 lo st h Q = Cnt 141 Q (xo_iload 1 21 lo st h) := run_s rfl
theorem rq_X10_wrongOf_21 {lo : Lo} {st : List Value} {h : Hp} {Q : Option Value → Hp → Prop} : Run 141 21 lo st h Q = Cnt 141 Q (xo_iload 6 23 lo st h) := run_s rfl
theorem rq_X10_wrongOf_23 {lo : Lo} {st : List Value} {h : Hp} {Q : Option Value → Hp → Prop} : Run 141 23 lo st h Q = Cnt 141 Q (xo_iload 2 24 lo st h) := run_s rfl
theorem rq_X10_wrongOf_24 {lo : Lo} {st : List Value} {h : Hp} {Q : Option Value → Hp → Prop} : Run 141 24 lo st h Q = Cnt 141 Q (xo_iload 3 25 lo st h) := run_s rfl
theorem rq_X10_wrongOf_25 {lo : Lo} {st : List Value} {h : Hp} {Q : Option Value → Hp → Prop} : Run 141 25 lo st h Q = Cnt 141 Q (xo_iload 4 27 lo st h) := run_s rfl
theorem rq_X10_wrongOf_27 {lo : Lo} {st : List Value} {h : Hp} {Q : Option Value → Hp → Prop} : Run 141 27 lo st h Q = CCall 139 6 (some 10) st h (Knt 141 30 lo (st.drop 6) Q) := run_c rfl
theorem rq_X10_wrongOf_30 {lo : Lo} {st : List Value} {h : Hp} {Q : Option Value → Hp → Prop} : Run 141 30 lo st h Q = Cnt 141 Q (xo_const (.int 2) 31 lo st h) := run_s rfl
theorem rq_X10_wrongOf_31 {lo : Lo} {st : List Value} {h : Hp} {Q : Option Value → Hp → Prop} : Run 141 31 lo st h Q = Cnt 141 Q (xo_if2 (fun x y => decide (¬ x = y)) 38 34 lo st h) := run_s rfl
theorem rq_X10_wrongOf_34 {lo : Lo} {st : List Value} {h : Hp} {Q : Option Value → Hp → Prop} : Run 141 34 lo st h Q = Cnt 141 Q (xo_const (.int 1) 35 lo st h) := run_s rfl
theorem rq_X10_wrongOf_35 {lo : Lo} {st : List Value} {h : Hp} {Q : Option Value → Hp → Prop} : Run 141 35 lo st h Q = Cnt 141 Q (xo_goto 39 lo st h) := run_s rfl
theorem rq_X10_wrongOf_38 {lo : Lo} {st : List Value} {h : Hp} {Q : Option Value → Hp → Prop} : Run 141 38 lo st h Q = Cnt 141 Q (xo_const (.int 0) 39 lo st h) := run_s rfl
theorem rq_X10_wrongOf_39 {lo : Lo} {st : List Value} {h : Hp} {Q : Option Value → Hp → Prop} : Run 141 39 lo st h Q = Cnt 141 Q (xo_istore 7 41 lo st h) := run_s rfl
theorem rq_X10_wrongOf_41 {lo : Lo} {st : List Value} {h : Hp} {Q : Option Value → Hp → Prop} : Run 141 41 lo st h Q = Cnt 141 Q (xo_aload 0 42 lo st h) := run_s rfl
theorem rq_X10_wrongOf_42 {lo : Lo} {st : List Value} {h : Hp} {Q : Option Value → Hp → Prop} : Run 141 42 lo st h Q = Cnt 141 Q (xo_iload 1 43 lo st h) := run_s rfl
theorem rq_X10_wrongOf_43 {lo : Lo} {st : List Value} {h : Hp} {Q : Option Value → Hp → Prop} : Run 141 43 lo st h Q = Cnt 141 Q (xo_iload 6 45 lo st h) := run_s rfl
theorem rq_X10_wrongOf_45 {lo : Lo} {st : List Value} {h : Hp} {Q : Option Value → Hp → Prop} : Run 141 45 lo st h Q = CCall 135 3 (some 10) st h (Knt 141 48 lo (st.drop 3) Q) := run_c rfl
theorem rq_X10_wrongOf_48 {lo : Lo} {st : List Value} {h : Hp} {Q : Option Value → Hp → Prop} : Run 141 48 lo st h Q = Cnt 141 Q (xo_istore 8 50 lo st h) := run_s rfl
theorem rq_X10_wrongOf_50 {lo : Lo} {st : List Value} {h : Hp} {Q : Option Value → Hp → Prop} : Run 141 50 lo st h Q = Cnt 141 Q (xo_iload 5 52 lo st h) := run_s rfl
theorem rq_X10_wrongOf_52 {lo : Lo} {st : List Value} {h : Hp} {Q : Option Value → Hp → Prop} : Run 141 52 lo st h Q = Cnt 141 Q (xo_iload 8 54 lo st h) := run_s rfl
theorem rq_X10_wrongOf_54 {lo : Lo} {st : List Value} {h : Hp} {Q : Option Value → Hp → Prop} : Run 141 54 lo st h Q = Cnt 141 Q (xo_if1 (fun x => decide (x ≤ 0)) 62 57 lo st h) := run_s rfl
theorem rq_X10_wrongOf_57 {lo : Lo} {st : List Value} {h : Hp} {Q : Option Value → Hp → Prop} : Run 141 57 lo st h Q = Cnt 141 Q (xo_iload 7 59 lo st h) := run_s rfl
theorem rq_X10_wrongOf_59 {lo : Lo} {st : List Value} {h : Hp} {Q : Option Value → Hp → Prop} : Run 141 59 lo st h Q = Cnt 141 Q (xo_if1 (fun x => decide (x = 0)) 72 62 lo st h) := run_s rfl
theorem rq_X10_wrongOf_62 {lo : Lo} {st : List Value} {h : Hp} {Q : Option Value → Hp → Prop} : Run 141 62 lo st h Q = Cnt 141 Q (xo_iload 8 64 lo st h) := run_s rfl
theorem rq_X10_wrongOf_64 {lo : Lo} {st : List Value} {h : Hp} {Q : Option Value → Hp → Prop} : Run 141 64 lo st h Q = Cnt 141 Q (xo_if1 (fun x => decide (x ≥ 0)) 76 67 lo st h) := run_s rfl
theorem rq_X10_wrongOf_67 {lo : Lo} {st : List Value} {h : Hp} {Q : Option Value → Hp → Prop} : Run 141 67 lo st h Q = Cnt 141 Q (xo_iload 7 69 lo st h) := run_s rfl
theorem rq_X10_wrongOf_69 {lo : Lo} {st : List Value} {h : Hp} {Q : Option Value → Hp → Prop} : Run 141 69 lo st h Q = Cnt 141 Q (xo_if1 (fun x => decide (x = 0)) 76 72 lo st h) := run_s rfl
theorem rq_X10_wrongOf_72 {lo : Lo} {st : List Value} {h : Hp} {Q : Option Value → Hp → Prop} : Run 141 72 lo st h Q = Cnt 141 Q (xo_const (.int 1) 73 lo st h) := run_s rfl
theorem rq_X10_wrongOf_73 {lo : Lo} {st : List Value} {h : Hp} {Q : Option Value → Hp → Prop} : Run 141 73 lo st h Q = Cnt 141 Q (xo_goto 77 lo st h) := run_s rfl
theorem rq_X10_wrongOf_76 {lo : Lo} {st : List Value} {h : Hp} {Q : Option Value → Hp → Prop} : Run 141 76 lo st h Q = Cnt 141 Q (xo_const (.int 0) 77 lo st h) := run_s rfl
theorem rq_X10_wrongOf_77 {lo : Lo} {st : List Value} {h : Hp} {Q : Option Value → Hp → Prop} : Run 141 77 lo st h Q = Cnt 141 Q (xo_bin (fun x y => x + y) 78 lo st h) := run_s rfl
theorem rq_X10_wrongOf_78 {lo : Lo} {st : List Value} {h : Hp} {Q : Option Value → Hp → Prop} : Run 141 78 lo st h Q = Cnt 141 Q (xo_istore 5 80 lo st h) := run_s rfl
theorem rq_X10_wrongOf_80 {lo : Lo} {st : List Value} {h : Hp} {Q : Option Value → Hp → Prop} : Run 141 80 lo st h Q = Cnt 141 Q (xo_iinc 6 1 83 lo st h) := run_s rfl
theorem rq_X10_wrongOf_83 {lo : Lo} {st : List Value} {h : Hp} {Q : Option Value → Hp → Prop} : Run 141 83 lo st h Q = Cnt 141 Q (xo_goto 6 lo st h) := run_s rfl
theorem rq_X10_wrongOf_86 {lo : Lo} {st : List Value} {h : Hp} {Q : Option Value → Hp → Prop} : Run 141 86 lo st h Q = Cnt 141 Q (xo_iload 5 88 lo st h) := run_s rfl
theorem rq_X10_wrongOf_88 {lo : Lo} {st : List Value} {h : Hp} {Q : Option Value → Hp → Prop} : Run 141 88 lo st h Q = Cnt 141 Q (xo_iret lo st h) := run_s rfl
theorem rq_X10_allWrong_0 {lo : Lo} {st : List Value} {h : Hp} {Q : Option Value → Hp → Prop} : Run 142 0 lo st h Q = Cnt 142 Q (xo_const (.int 0) 1 lo st h) := run_s rfl
theorem rq_X10_allWrong_1 {lo : Lo} {st : List Value} {h : Hp} {Q : Option Value → Hp → Prop} : Run 142 1 lo st h Q = Cnt 142 Q (xo_istore 2 2 lo st h) := run_s rfl
theorem rq_X10_allWrong_2 {lo : Lo} {st : List Value} {h : Hp} {Q : Option Value → Hp → Prop} : Run 142 2 lo st h Q = Cnt 142 Q (xo_const (.int 0) 3 lo st h) := run_s rfl
theorem rq_X10_allWrong_3 {lo : Lo} {st : List Value} {h : Hp} {Q : Option Value → Hp → Prop} : Run 142 3 lo st h Q = Cnt 142 Q (xo_istore 3 4 lo st h) := run_s rfl
theorem rq_X10_allWrong_4 {lo : Lo} {st : List Value} {h : Hp} {Q : Option Value → Hp → Prop} : Run 142 4 lo st h Q = Cnt 142 Q (xo_iload 3 5 lo st h) := run_s rfl
theorem rq_X10_allWrong_5 {lo : Lo} {st : List Value} {h : Hp} {Q : Option Value → Hp → Prop} : Run 142 5 lo st h Q = Cnt 142 Q (xo_aload 0 6 lo st h) := run_s rfl
theorem rq_X10_allWrong_6 {lo : Lo} {st : List Value} {h : Hp} {Q : Option Value → Hp → Prop} : Run 142 6 lo st h Q = Cnt 142 Q (xo_getf 10 5 9 lo st h) := run_s rfl
theorem rq_X10_allWrong_9 {lo : Lo} {st : List Value} {h : Hp} {Q : Option Value → Hp → Prop} : Run 142 9 lo st h Q = Cnt 142 Q (xo_const (.int 26) 11 lo st h) := run_s rfl
theorem rq_X10_allWrong_11 {lo : Lo} {st : List Value} {h : Hp} {Q : Option Value → Hp → Prop} : Run 142 11 lo st h Q = Cnt 142 Q (xo_iald 12 lo st h) := run_s rfl
theorem rq_X10_allWrong_12 {lo : Lo} {st : List Value} {h : Hp} {Q : Option Value → Hp → Prop} : Run 142 12 lo st h Q = Cnt 142 Q (xo_if2 (fun x y => decide (x ≥ y)) 52 15 lo st h) := run_s rfl
theorem rq_X10_allWrong_15 {lo : Lo} {st : List Value} {h : Hp} {Q : Option Value → Hp → Prop} : Run 142 15 lo st h Q = Cnt 142 Q (xo_const (.int 156) 18 lo st h) := run_s rfl
theorem rq_X10_allWrong_18 {lo : Lo} {st : List Value} {h : Hp} {Q : Option Value → Hp → Prop} : Run 142 18 lo st h Q = Cnt 142 Q (xo_iload 3 19 lo st h) := run_s rfl
theorem rq_X10_allWrong_19 {lo : Lo} {st : List Value} {h : Hp} {Q : Option Value → Hp → Prop} : Run 142 19 lo st h Q = Cnt 142 Q (xo_bin (fun x y => x + y) 20 lo st h) := run_s rfl
theorem rq_X10_allWrong_20 {lo : Lo} {st : List Value} {h : Hp} {Q : Option Value → Hp → Prop} : Run 142 20 lo st h Q = Cnt 142 Q (xo_istore 4 22 lo st h) := run_s rfl
theorem rq_X10_allWrong_22 {lo : Lo} {st : List Value} {h : Hp} {Q : Option Value → Hp → Prop} : Run 142 22 lo st h Q = Cnt 142 Q (xo_iload 2 23 lo st h) := run_s rfl
theorem rq_X10_allWrong_23 {lo : Lo} {st : List Value} {h : Hp} {Q : Option Value → Hp → Prop} : Run 142 23 lo st h Q = Cnt 142 Q (xo_aload 0 24 lo st h) := run_s rfl
theorem rq_X10_allWrong_24 {lo : Lo} {st : List Value} {h : Hp} {Q : Option Value → Hp → Prop} : Run 142 24 lo st h Q = Cnt 142 Q (xo_iload 4 26 lo st h) := run_s rfl
theorem rq_X10_allWrong_26 {lo : Lo} {st : List Value} {h : Hp} {Q : Option Value → Hp → Prop} : Run 142 26 lo st h Q = Cnt 142 Q (xo_aload 0 27 lo st h) := run_s rfl
theorem rq_X10_allWrong_27 {lo : Lo} {st : List Value} {h : Hp} {Q : Option Value → Hp → Prop} : Run 142 27 lo st h Q = Cnt 142 Q (xo_getf 10 7 30 lo st h) := run_s rfl
theorem rq_X10_allWrong_30 {lo : Lo} {st : List Value} {h : Hp} {Q : Option Value → Hp → Prop} : Run 142 30 lo st h Q = Cnt 142 Q (xo_iload 4 32 lo st h) := run_s rfl
theorem rq_X10_allWrong_32 {lo : Lo} {st : List Value} {h : Hp} {Q : Option Value → Hp → Prop} : Run 142 32 lo st h Q = Cnt 142 Q (xo_iald 33 lo st h) := run_s rfl
theorem rq_X10_allWrong_33 {lo : Lo} {st : List Value} {h : Hp} {Q : Option Value → Hp → Prop} : Run 142 33 lo st h Q = Cnt 142 Q (xo_aload 0 34 lo st h) := run_s rfl
theorem rq_X10_allWrong_34 {lo : Lo} {st : List Value} {h : Hp} {Q : Option Value → Hp → Prop} : Run 142 34 lo st h Q = Cnt 142 Q (xo_getf 10 8 37 lo st h) := run_s rfl
theorem rq_X10_allWrong_37 {lo : Lo} {st : List Value} {h : Hp} {Q : Option Value → Hp → Prop} : Run 142 37 lo st h Q = Cnt 142 Q (xo_iload 4 39 lo st h) := run_s rfl
theorem rq_X10_allWrong_39 {lo : Lo} {st : List Value} {h : Hp} {Q : Option Value → Hp → Prop} : Run 142 39 lo st h Q = Cnt 142 Q (xo_iald 40 lo st h) := run_s rfl
theorem rq_X10_allWrong_40 {lo : Lo} {st : List Value} {h : Hp} {Q : Option Value → Hp → Prop} : Run 142 40 lo st h Q = Cnt 142 Q (xo_iload 1 41 lo st h) := run_s rfl
theorem rq_X10_allWrong_41 {lo : Lo} {st : List Value} {h : Hp} {Q : Option Value → Hp → Prop} : Run 142 41 lo st h Q = CCall 141 5 (some 10) st h (Knt 142 44 lo (st.drop 5) Q) := run_c rfl
theorem rq_X10_allWrong_44 {lo : Lo} {st : List Value} {h : Hp} {Q : Option Value → Hp → Prop} : Run 142 44 lo st h Q = Cnt 142 Q (xo_bin (fun x y => x + y) 45 lo st h) := run_s rfl
theorem rq_X10_allWrong_45 {lo : Lo} {st : List Value} {h : Hp} {Q : Option Value → Hp → Prop} : Run 142 45 lo st h Q = Cnt 142 Q (xo_istore 2 46 lo st h) := run_s rfl
theorem rq_X10_allWrong_46 {lo : Lo} {st : List Value} {h : Hp} {Q : Option Value → Hp → Prop} : Run 142 46 lo st h Q = Cnt 142 Q (xo_iinc 3 1 49 lo st h) := run_s rfl
theorem rq_X10_allWrong_49 {lo : Lo} {st : List Value} {h : Hp} {Q : Option Value → Hp → Prop} : Run 142 49 lo st h Q = Cnt 142 Q (xo_goto 4 lo st h) := run_s rfl
theorem rq_X10_allWrong_52 {lo : Lo} {st : List Value} {h : Hp} {Q : Option Value → Hp → Prop} : Run 142 52 lo st h Q = Cnt 142 Q (xo_iload 2 53 lo st h) := run_s rfl
theorem rq_X10_allWrong_53 {lo : Lo} {st : List Value} {h : Hp} {Q : Option Value → Hp → Prop} : Run 142 53 lo st h Q = Cnt 142 Q (xo_iret lo st h) := run_s rfl
theorem rq_X10_wrong_0 {lo : Lo} {st : List Value} {h : Hp} {Q : Option Value → Hp → Prop} : Run 143 0 lo st h Q = Cnt 143 Q (xo_aload 0 1 lo st h) := run_s rfl
theorem rq_X10_wrong_1 {lo : Lo} {st : List Value} {h : Hp} {Q : Option Value → Hp → Prop} : Run 143 1 lo st h Q = Cnt 143 Q (xo_aload 0 2 lo st h) := run_s rfl
theorem rq_X10_wrong_2 {lo : Lo} {st : List Value} {h : Hp} {Q : Option Value → Hp → Prop} : Run 143 2 lo st h Q = Cnt 143 Q (xo_getf 10 13 5 lo st h) := run_s rfl
theorem rq_X10_wrong_5 {lo : Lo} {st : List Value} {h : Hp} {Q : Option Value → Hp → Prop} : Run 143 5 lo st h Q = CCall 142 2 (some 10) st h (Knt 143 8 lo (st.drop 2) Q) := run_c rfl
theorem rq_X10_wrong_8 {lo : Lo} {st : List Value} {h : Hp} {Q : Option Value → Hp → Prop} : Run 143 8 lo st h Q = Cnt 143 Q (xo_iret lo st h) := run_s rfl
theorem rq_X10_endOf_0 {lo : Lo} {st : List Value} {h : Hp} {Q : Option Value → Hp → Prop} : Run 144 0 lo st h Q = Cnt 144 Q (xo_const (.int 156) 3 lo st h) := run_s rfl
theorem rq_X10_endOf_3 {lo : Lo} {st : List Value} {h : Hp} {Q : Option Value → Hp → Prop} : Run 144 3 lo st h Q = Cnt 144 Q (xo_iload 1 4 lo st h) := run_s rfl
theorem rq_X10_endOf_4 {lo : Lo} {st : List Value} {h : Hp} {Q : Option Value → Hp → Prop} : Run 144 4 lo st h Q = Cnt 144 Q (xo_bin (fun x y => x + y) 5 lo st h) := run_s rfl
theorem rq_X10_endOf_5 {lo : Lo} {st : List Value} {h : Hp} {Q : Option Value → Hp → Prop} : Run 144 5 lo st h Q = Cnt 144 Q (xo_istore 3 6 lo st h) := run_s rfl
theorem rq_X10_endOf_6 {lo : Lo} {st : List Value} {h : Hp} {Q : Option Value → Hp → Prop} : Run 144 6 lo st h Q = Cnt 144 Q (xo_const (.int 8) 8 lo st h) := run_s rfl
theorem rq_X10_endOf_8 {lo : Lo} {st : List Value} {h : Hp} {Q : Option Value → Hp → Prop} : Run 144 8 lo st h Q = Cnt 144 Q (xo_iload 3 9 lo st h) := run_s rfl
theorem rq_X10_endOf_9 {lo : Lo} {st : List Value} {h : Hp} {Q : Option Value → Hp → Prop} : Run 144 9 lo st h Q = Cnt 144 Q (xo_bin (fun x y => x * y) 10 lo st h) := run_s rfl
theorem rq_X10_endOf_10 {lo : Lo} {st : List Value} {h : Hp} {Q : Option Value → Hp → Prop} : Run 144 10 lo st h Q = Cnt 144 Q (xo_iload 2 11 lo st h) := run_s rfl
theorem rq_X10_endOf_11 {lo : Lo} {st : List Value} {h : Hp} {Q : Option Value → Hp → Prop} : Run 144 11 lo st h Q = Cnt 144 Q (xo_if1 (fun x => decide (x = 0)) 25 14 lo st h) := run_s rfl
theorem rq_X10_endOf_14 {lo : Lo} {st : List Value} {h : Hp} {Q : Option Value → Hp → Prop} : Run 144 14 lo st h Q = Cnt 144 Q (xo_aload 0 15 lo st h) := run_s rfl
theorem rq_X10_endOf_15 {lo : Lo} {st : List Value} {h : Hp} {Q : Option Value → Hp → Prop} : Run 144 15 lo st h Q = Cnt 144 Q (xo_getf 10 6 18 lo st h) := run_s rfl
theorem rq_X10_endOf_18 {lo : Lo} {st : List Value} {h : Hp} {Q : Option Value → Hp → Prop} : Run 144 18 lo st h Q = Cnt 144 Q (xo_iload 3 19 lo st h) := run_s rfl
theorem rq_X10_endOf_19 {lo : Lo} {st : List Value} {h : Hp} {Q : Option Value → Hp → Prop} : Run 144 19 lo st h Q = Cnt 144 Q (xo_iald 20 lo st h) := run_s rfl
theorem rq_X10_endOf_20 {lo : Lo} {st : List Value} {h : Hp} {Q : Option Value → Hp → Prop} : Run 144 20 lo st h Q = Cnt 144 Q (xo_const (.int 1) 21 lo st h) := run_s rfl
theorem rq_X10_endOf_21 {lo : Lo} {st : List Value} {h : Hp} {Q : Option Value → Hp → Prop} : Run 144 21 lo st h Q = Cnt 144 Q (xo_bin (fun x y => x - y) 22 lo st h) := run_s rfl
theorem rq_X10_endOf_22 {lo : Lo} {st : List Value} {h : Hp} {Q : Option Value → Hp → Prop} : Run 144 22 lo st h Q = Cnt 144 Q (xo_goto 26 lo st h) := run_s rfl
theorem rq_X10_endOf_25 {lo : Lo} {st : List Value} {h : Hp} {Q : Option Value → Hp → Prop} : Run 144 25 lo st h Q = Cnt 144 Q (xo_const (.int 0) 26 lo st h) := run_s rfl
theorem rq_X10_endOf_26 {lo : Lo} {st : List Value} {h : Hp} {Q : Option Value → Hp → Prop} : Run 144 26 lo st h Q = Cnt 144 Q (xo_bin (fun x y => x + y) 27 lo st h) := run_s rfl
theorem rq_X10_endOf_27 {lo : Lo} {st : List Value} {h : Hp} {Q : Option Value → Hp → Prop} : Run 144 27 lo st h Q = Cnt 144 Q (xo_iret lo st h) := run_s rfl
theorem rq_X10_areAlike_0 {lo : Lo} {st : List Value} {h : Hp} {Q : Option Value → Hp → Prop} : Run 145 0 lo st h Q = Cnt 145 Q (xo_aload 0 1 lo st h) := run_s rfl
theorem rq_X10_areAlike_1 {lo : Lo} {st : List Value} {h : Hp} {Q : Option Value → Hp → Prop} : Run 145 1 lo st h Q = Cnt 145 Q (xo_getf 10 9 4 lo st h) := run_s rfl
theorem rq_X10_areAlike_4 {lo : Lo} {st : List Value} {h : Hp} {Q : Option Value → Hp → Prop} : Run 145 4 lo st h Q = Cnt 145 Q (xo_iload 1 5 lo st h) := run_s rfl
theorem rq_X10_areAlike_5 {lo : Lo} {st : List Value} {h : Hp} {Q : Option Value → Hp → Prop} : Run 145 5 lo st h Q = Cnt 145 Q (xo_iald 6 lo st h) := run_s rfl
theorem rq_X10_areAlike_6 {lo : Lo} {st : List Value} {h : Hp} {Q : Option Value → Hp → Prop} : Run 145 6 lo st h Q = Cnt 145 Q (xo_aload 0 7 lo st h) := run_s rfl
theorem rq_X10_areAlike_7 {lo : Lo} {st : List Value} {h : Hp} {Q : Option Value → Hp → Prop} : Run 145 7 lo st h Q = Cnt 145 Q (xo_getf 10 9 10 lo st h) := run_s rfl
theorem rq_X10_areAlike_10 {lo : Lo} {st : List Value} {h : Hp} {Q : Option Value → Hp → Prop} : Run 145 10 lo st h Q = Cnt 145 Q (xo_iload 2 11 lo st h) := run_s rfl
theorem rq_X10_areAlike_11 {lo : Lo} {st : List Value} {h : Hp} {Q : Option Value → Hp → Prop} : Run 145 11 lo st h Q = Cnt 145 Q (xo_iald 12 lo st h) := run_s rfl
theorem rq_X10_areAlike_12 {lo : Lo} {st : List Value} {h : Hp} {Q : Option Value → Hp → Prop} : Run 145 12 lo st h Q = Cnt 145 Q (xo_if2 (fun x y => decide (¬ x = y)) 34 15 lo st h) := run_s rfl
theorem rq_X10_areAlike_15 {lo : Lo} {st : List Value} {h : Hp} {Q : Option Value → Hp → Prop} : Run 145 15 lo st h Q = Cnt 145 Q (xo_aload 0 16 lo st h) := run_s rfl
theorem rq_X10_areAlike_16 {lo : Lo} {st : List Value} {h : Hp} {Q : Option Value → Hp → Prop} : Run 145 16 lo st h Q = Cnt 145 Q (xo_getf 10 10 19 lo st h) := run_s rfl
theorem rq_X10_areAlike_19 {lo : Lo} {st : List Value} {h : Hp} {Q : Option Value → Hp → Prop} : Run 145 19 lo st h Q = Cnt 145 Q (xo_iload 1 20 lo st h) := run_s rfl
theorem rq_X10_areAlike_20 {lo : Lo} {st : List Value} {h : Hp} {Q : Option Value → Hp → Prop} : Run 145 20 lo st h Q = Cnt 145 Q (xo_iald 21 lo st h) := run_s rfl
theorem rq_X10_areAlike_21 {lo : Lo} {st : List Value} {h : Hp} {Q : Option Value → Hp → Prop} : Run 145 21 lo st h Q = Cnt 145 Q (xo_aload 0 22 lo st h) := run_s rfl
theorem rq_X10_areAlike_22 {lo : Lo} {st : List Value} {h : Hp} {Q : Option Value → Hp → Prop} : Run 145 22 lo st h Q = Cnt 145 Q (xo_getf 10 10 25 lo st h) := run_s rfl
theorem rq_X10_areAlike_25 {lo : Lo} {st : List Value} {h : Hp} {Q : Option Value → Hp → Prop} : Run 145 25 lo st h Q = Cnt 145 Q (xo_iload 2 26 lo st h) := run_s rfl
theorem rq_X10_areAlike_26 {lo : Lo} {st : List Value} {h : Hp} {Q : Option Value → Hp → Prop} : Run 145 26 lo st h Q = Cnt 145 Q (xo_iald 27 lo st h) := run_s rfl
theorem rq_X10_areAlike_27 {lo : Lo} {st : List Value} {h : Hp} {Q : Option Value → Hp → Prop} : Run 145 27 lo st h Q = Cnt 145 Q (xo_if2 (fun x y => decide (¬ x = y)) 34 30 lo st h) := run_s rfl
theorem rq_X10_areAlike_30 {lo : Lo} {st : List Value} {h : Hp} {Q : Option Value → Hp → Prop} : Run 145 30 lo st h Q = Cnt 145 Q (xo_const (.int 1) 31 lo st h) := run_s rfl
theorem rq_X10_areAlike_31 {lo : Lo} {st : List Value} {h : Hp} {Q : Option Value → Hp → Prop} : Run 145 31 lo st h Q = Cnt 145 Q (xo_goto 35 lo st h) := run_s rfl
theorem rq_X10_areAlike_34 {lo : Lo} {st : List Value} {h : Hp} {Q : Option Value → Hp → Prop} : Run 145 34 lo st h Q = Cnt 145 Q (xo_const (.int 0) 35 lo st h) := run_s rfl
theorem rq_X10_areAlike_35 {lo : Lo} {st : List Value} {h : Hp} {Q : Option Value → Hp → Prop} : Run 145 35 lo st h Q = Cnt 145 Q (xo_zret lo st h) := run_s rfl
theorem rq_X10_isInked_0 {lo : Lo} {st : List Value} {h : Hp} {Q : Option Value → Hp → Prop} : Run 146 0 lo st h Q = Cnt 146 Q (xo_aload 0 1 lo st h) := run_s rfl
theorem rq_X10_isInked_1 {lo : Lo} {st : List Value} {h : Hp} {Q : Option Value → Hp → Prop} : Run 146 1 lo st h Q = Cnt 146 Q (xo_getf 10 11 4 lo st h) := run_s rfl
theorem rq_X10_isInked_4 {lo : Lo} {st : List Value} {h : Hp} {Q : Option Value → Hp → Prop} : Run 146 4 lo st h Q = Cnt 146 Q (xo_aload 0 5 lo st h) := run_s rfl
theorem rq_X10_isInked_5 {lo : Lo} {st : List Value} {h : Hp} {Q : Option Value → Hp → Prop} : Run 146 5 lo st h Q = Cnt 146 Q (xo_getf 10 10 8 lo st h) := run_s rfl
theorem rq_X10_isInked_8 {lo : Lo} {st : List Value} {h : Hp} {Q : Option Value → Hp → Prop} : Run 146 8 lo st h Q = Cnt 146 Q (xo_iload 1 9 lo st h) := run_s rfl
theorem rq_X10_isInked_9 {lo : Lo} {st : List Value} {h : Hp} {Q : Option Value → Hp → Prop} : Run 146 9 lo st h Q = Cnt 146 Q (xo_iald 10 lo st h) := run_s rfl
theorem rq_X10_isInked_10 {lo : Lo} {st : List Value} {h : Hp} {Q : Option Value → Hp → Prop} : Run 146 10 lo st h Q = Cnt 146 Q (xo_iald 11 lo st h) := run_s rfl
theorem rq_X10_isInked_11 {lo : Lo} {st : List Value} {h : Hp} {Q : Option Value → Hp → Prop} : Run 146 11 lo st h Q = Cnt 146 Q (xo_aload 0 12 lo st h) := run_s rfl
theorem rq_X10_isInked_12 {lo : Lo} {st : List Value} {h : Hp} {Q : Option Value → Hp → Prop} : Run 146 12 lo st h Q = Cnt 146 Q (xo_getf 10 9 15 lo st h) := run_s rfl
theorem rq_X10_isInked_15 {lo : Lo} {st : List Value} {h : Hp} {Q : Option Value → Hp → Prop} : Run 146 15 lo st h Q = Cnt 146 Q (xo_iload 1 16 lo st h) := run_s rfl
theorem rq_X10_isInked_16 {lo : Lo} {st : List Value} {h : Hp} {Q : Option Value → Hp → Prop} : Run 146 16 lo st h Q = Cnt 146 Q (xo_iald 17 lo st h) := run_s rfl
theorem rq_X10_isInked_17 {lo : Lo} {st : List Value} {h : Hp} {Q : Option Value → Hp → Prop} : Run 146 17 lo st h Q = Cnt 146 Q (xo_bin (fun x y => x >>> (y &&& 31)) 18 lo st h) := run_s rfl
theorem rq_X10_isInked_18 {lo : Lo} {st : List Value} {h : Hp} {Q : Option Value → Hp → Prop} : Run 146 18 lo st h Q = Cnt 146 Q (xo_const (.int 1) 19 lo st h) := run_s rfl
theorem rq_X10_isInked_19 {lo : Lo} {st : List Value} {h : Hp} {Q : Option Value → Hp → Prop} : Run 146 19 lo st h Q = Cnt 146 Q (xo_bin (fun x y => x &&& y) 20 lo st h) := run_s rfl
theorem rq_X10_isInked_20 {lo : Lo} {st : List Value} {h : Hp} {Q : Option Value → Hp → Prop} : Run 146 20 lo st h Q = Cnt 146 Q (xo_const (.int 1) 21 lo st h) := run_s rfl
theorem rq_X10_isInked_21 {lo : Lo} {st : List Value} {h : Hp} {Q : Option Value → Hp → Prop} : Run 146 21 lo st h Q = Cnt 146 Q (xo_if2 (fun x y => decide (¬ x = y)) 28 24 lo st h) := run_s rfl
theorem rq_X10_isInked_24 {lo : Lo} {st : List Value} {h : Hp} {Q : Option Value → Hp → Prop} : Run 146 24 lo st h Q = Cnt 146 Q (xo_const (.int 1) 25 lo st h) := run_s rfl
theorem rq_X10_isInked_25 {lo : Lo} {st : List Value} {h : Hp} {Q : Option Value → Hp → Prop} : Run 146 25 lo st h Q = Cnt 146 Q (xo_goto 29 lo st h) := run_s rfl
theorem rq_X10_isInked_28 {lo : Lo} {st : List Value} {h : Hp} {Q : Option Value → Hp → Prop} : Run 146 28 lo st h Q = Cnt 146 Q (xo_const (.int 0) 29 lo st h) := run_s rfl
theorem rq_X10_isInked_29 {lo : Lo} {st : List Value} {h : Hp} {Q : Option Value → Hp → Prop} : Run 146 29 lo st h Q = Cnt 146 Q (xo_zret lo st h) := run_s rfl
theorem rq_X10_endsIn_0 {lo : Lo} {st : List Value} {h : Hp} {Q : Option Value → Hp → Prop} : Run 147 0 lo st h Q = Cnt 147 Q (xo_aload 0 1 lo st h) := run_s rfl
theorem rq_X10_endsIn_1 {lo : Lo} {st : List Value} {h : Hp} {Q : Option Value → Hp → Prop} : Run 147 1 lo st h Q = Cnt 147 Q (xo_iload 2 2 lo st h) := run_s rfl
theorem rq_X10_endsIn_2 {lo : Lo} {st : List Value} {h : Hp} {Q : Option Value → Hp → Prop} : Run 147 2 lo st h Q = CCall 128 2 (some 10) st h (Knt 147 5 lo (st.drop 2) Q) := run_c rfl
theorem rq_X10_endsIn_5 {lo : Lo} {st : List Value} {h : Hp} {Q : Option Value → Hp → Prop} : Run 147 5 lo st h Q = Cnt 147 Q (xo_aload 0 6 lo st h) := run_s rfl
theorem rq_X10_endsIn_6 {lo : Lo} {st : List Value} {h : Hp} {Q : Option Value → Hp → Prop} : Run 147 6 lo st h Q = Cnt 147 Q (xo_aload 0 7 lo st h) := run_s rfl
theorem rq_X10_endsIn_7 {lo : Lo} {st : List Value} {h : Hp} {Q : Option Value → Hp → Prop} : Run 147 7 lo st h Q = Cnt 147 Q (xo_iload 1 8 lo st h) := run_s rfl
theorem rq_X10_endsIn_8 {lo : Lo} {st : List Value} {h : Hp} {Q : Option Value → Hp → Prop} : Run 147 8 lo st h Q = Cnt 147 Q (xo_const (.int 0) 9 lo st h) := run_s rfl
theorem rq_X10_endsIn_9 {lo : Lo} {st : List Value} {h : Hp} {Q : Option Value → Hp → Prop} : Run 147 9 lo st h Q = CCall 144 3 (some 10) st h (Knt 147 12 lo (st.drop 3) Q) := run_c rfl
theorem rq_X10_endsIn_12 {lo : Lo} {st : List Value} {h : Hp} {Q : Option Value → Hp → Prop} : Run 147 12 lo st h Q = CCall 146 2 (some 10) st h (Knt 147 15 lo (st.drop 2) Q) := run_c rfl
theorem rq_X10_endsIn_15 {lo : Lo} {st : List Value} {h : Hp} {Q : Option Value → Hp → Prop} : Run 147 15 lo st h Q = Cnt 147 Q (xo_if1 (fun x => decide (¬ x = 0)) 31 18 lo st h) := run_s rfl
theorem rq_X10_endsIn_18 {lo : Lo} {st : List Value} {h : Hp} {Q : Option Value → Hp → Prop} : Run 147 18 lo st h Q = Cnt 147 Q (xo_aload 0 19 lo st h) := run_s rfl
theorem rq_X10_endsIn_19 {lo : Lo} {st : List Value} {h : Hp} {Q : Option Value → Hp → Prop} : Run 147 19 lo st h Q = Cnt 147 Q (xo_aload 0 20 lo st h) := run_s rfl
theorem rq_X10_endsIn_20 {lo : Lo} {st : List Value} {h : Hp} {Q : Option Value → Hp → Prop} : Run 147 20 lo st h Q = Cnt 147 Q (xo_iload 1 21 lo st h) := run_s rfl
theorem rq_X10_endsIn_21 {lo : Lo} {st : List Value} {h : Hp} {Q : Option Value → Hp → Prop} : Run 147 21 lo st h Q = Cnt 147 Q (xo_const (.int 1) 22 lo st h) := run_s rfl
theorem rq_X10_endsIn_22 {lo : Lo} {st : List Value} {h : Hp} {Q : Option Value → Hp → Prop} : Run 147 22 lo st h Q = CCall 144 3 (some 10) st h (Knt 147 25 lo (st.drop 3) Q) := run_c rfl
theorem rq_X10_endsIn_25 {lo : Lo} {st : List Value} {h : Hp} {Q : Option Value → Hp → Prop} : Run 147 25 lo st h Q = CCall 146 2 (some 10) st h (Knt 147 28 lo (st.drop 2) Q) := run_c rfl
theorem rq_X10_endsIn_28 {lo : Lo} {st : List Value} {h : Hp} {Q : Option Value → Hp → Prop} : Run 147 28 lo st h Q = Cnt 147 Q (xo_if1 (fun x => decide (x = 0)) 35 31 lo st h) := run_s rfl
theorem rq_X10_endsIn_31 {lo : Lo} {st : List Value} {h : Hp} {Q : Option Value → Hp → Prop} : Run 147 31 lo st h Q = Cnt 147 Q (xo_const (.int 1) 32 lo st h) := run_s rfl
theorem rq_X10_endsIn_32 {lo : Lo} {st : List Value} {h : Hp} {Q : Option Value → Hp → Prop} : Run 147 32 lo st h Q = Cnt 147 Q (xo_goto 36 lo st h) := run_s rfl
theorem rq_X10_endsIn_35 {lo : Lo} {st : List Value} {h : Hp} {Q : Option Value → Hp → Prop} : Run 147 35 lo st h Q = Cnt 147 Q (xo_const (.int 0) 36 lo st h) := run_s rfl
theorem rq_X10_endsIn_36 {lo : Lo} {st : List Value} {h : Hp} {Q : Option Value → Hp → Prop} : Run 147 36 lo st h Q = Cnt 147 Q (xo_zret lo st h) := run_s rfl
theorem rq_X10_doMeet_0 {lo : Lo} {st : List Value} {h : Hp} {Q : Option Value → Hp → Prop} : Run 148 0 lo st h Q = Cnt 148 Q (xo_aload 0 1 lo st h) := run_s rfl
theorem rq_X10_doMeet_1 {lo : Lo} {st : List Value} {h : Hp} {Q : Option Value → Hp → Prop} : Run 148 1 lo st h Q = Cnt 148 Q (xo_iload 1 2 lo st h) := run_s rfl
theorem rq_X10_doMeet_2 {lo : Lo} {st : List Value} {h : Hp} {Q : Option Value → Hp → Prop} : Run 148 2 lo st h Q = CCall 128 2 (some 10) st h (Knt 148 5 lo (st.drop 2) Q) := run_c rfl
theorem rq_X10_doMeet_5 {lo : Lo} {st : List Value} {h : Hp} {Q : Option Value → Hp → Prop} : Run 148 5 lo st h Q = Cnt 148 Q (xo_const (.int 0) 6 lo st h) := run_s rfl
theorem rq_X10_doMeet_6 {lo : Lo} {st : List Value} {h : Hp} {Q : Option Value → Hp → Prop} : Run 148 6 lo st h Q = Cnt 148 Q (xo_istore 3 7 lo st h) := run_s rfl
theorem rq_X10_doMeet_7 {lo : Lo} {st : List Value} {h : Hp} {Q : Option Value → Hp → Prop} : Run 148 7 lo st h Q = Cnt 148 Q (xo_iload 3 8 lo st h) := run_s rfl
theorem rq_X10_doMeet_8 {lo : Lo} {st : List Value} {h : Hp} {Q : Option Value → Hp → Prop} : Run 148 8 lo st h Q = Cnt 148 Q (xo_const (.int 32) 10 lo st h) := run_s rfl
theorem rq_X10_doMeet_10 {lo : Lo} {st : List Value} {h : Hp} {Q : Option Value → Hp → Prop} : Run 148 10 lo st h Q = Cnt 148 Q (xo_if2 (fun x y => decide (x ≥ y)) 31 13 lo st h) := run_s rfl
theorem rq_X10_doMeet_13 {lo : Lo} {st : List Value} {h : Hp} {Q : Option Value → Hp → Prop} : Run 148 13 lo st h Q = Cnt 148 Q (xo_aload 0 14 lo st h) := run_s rfl
theorem rq_X10_doMeet_14 {lo : Lo} {st : List Value} {h : Hp} {Q : Option Value → Hp → Prop} : Run 148 14 lo st h Q = Cnt 148 Q (xo_getf 10 12 17 lo st h) := run_s rfl
theorem rq_X10_doMeet_17 {lo : Lo} {st : List Value} {h : Hp} {Q : Option Value → Hp → Prop} : Run 148 17 lo st h Q = Cnt 148 Q (xo_iload 3 18 lo st h) := run_s rfl
theorem rq_X10_doMeet_18 {lo : Lo} {st : List Value} {h : Hp} {Q : Option Value → Hp → Prop} : Run 148 18 lo st h Q = Cnt 148 Q (xo_aload 0 19 lo st h) := run_s rfl
theorem rq_X10_doMeet_19 {lo : Lo} {st : List Value} {h : Hp} {Q : Option Value → Hp → Prop} : Run 148 19 lo st h Q = Cnt 148 Q (xo_getf 10 11 22 lo st h) := run_s rfl
theorem rq_X10_doMeet_22 {lo : Lo} {st : List Value} {h : Hp} {Q : Option Value → Hp → Prop} : Run 148 22 lo st h Q = Cnt 148 Q (xo_iload 3 23 lo st h) := run_s rfl
theorem rq_X10_doMeet_23 {lo : Lo} {st : List Value} {h : Hp} {Q : Option Value → Hp → Prop} : Run 148 23 lo st h Q = Cnt 148 Q (xo_iald 24 lo st h) := run_s rfl
theorem rq_X10_doMeet_24 {lo : Lo} {st : List Value} {h : Hp} {Q : Option Value → Hp → Prop} : Run 148 24 lo st h Q = Cnt 148 Q (xo_iast 25 lo st h) := run_s rfl
theorem rq_X10_doMeet_25 {lo : Lo} {st : List Value} {h : Hp} {Q : Option Value → Hp → Prop} : Run 148 25 lo st h Q = Cnt 148 Q (xo_iinc 3 1 28 lo st h) := run_s rfl
theorem rq_X10_doMeet_28 {lo : Lo} {st : List Value} {h : Hp} {Q : Option Value → Hp → Prop} : Run 148 28 lo st h Q = Cnt 148 Q (xo_goto 7 lo st h) := run_s rfl
theorem rq_X10_doMeet_31 {lo : Lo} {st : List Value} {h : Hp} {Q : Option Value → Hp → Prop} : Run 148 31 lo st h Q = Cnt 148 Q (xo_aload 0 32 lo st h) := run_s rfl
theorem rq_X10_doMeet_32 {lo : Lo} {st : List Value} {h : Hp} {Q : Option Value → Hp → Prop} : Run 148 32 lo st h Q = Cnt 148 Q (xo_iload 2 33 lo st h) := run_s rfl
theorem rq_X10_doMeet_33 {lo : Lo} {st : List Value} {h : Hp} {Q : Option Value → Hp → Prop} : Run 148 33 lo st h Q = CCall 128 2 (some 10) st h (Knt 148 36 lo (st.drop 2) Q) := run_c rfl
theorem rq_X10_doMeet_36 {lo : Lo} {st : List Value} {h : Hp} {Q : Option Value → Hp → Prop} : Run 148 36 lo st h Q = Cnt 148 Q (xo_const (.int 0) 37 lo st h) := run_s rfl
theorem rq_X10_doMeet_37 {lo : Lo} {st : List Value} {h : Hp} {Q : Option Value → Hp → Prop} : Run 148 37 lo st h Q = Cnt 148 Q (xo_istore 3 38 lo st h) := run_s rfl
theorem rq_X10_doMeet_38 {lo : Lo} {st : List Value} {h : Hp} {Q : Option Value → Hp → Prop} : Run 148 38 lo st h Q = Cnt 148 Q (xo_iload 3 39 lo st h) := run_s rfl
theorem rq_X10_doMeet_39 {lo : Lo} {st : List Value} {h : Hp} {Q : Option Value → Hp → Prop} : Run 148 39 lo st h Q = Cnt 148 Q (xo_const (.int 32) 41 lo st h) := run_s rfl
theorem rq_X10_doMeet_41 {lo : Lo} {st : List Value} {h : Hp} {Q : Option Value → Hp → Prop} : Run 148 41 lo st h Q = Cnt 148 Q (xo_if2 (fun x y => decide (x ≥ y)) 68 44 lo st h) := run_s rfl
theorem rq_X10_doMeet_44 {lo : Lo} {st : List Value} {h : Hp} {Q : Option Value → Hp → Prop} : Run 148 44 lo st h Q = Cnt 148 Q (xo_aload 0 45 lo st h) := run_s rfl
theorem rq_X10_doMeet_45 {lo : Lo} {st : List Value} {h : Hp} {Q : Option Value → Hp → Prop} : Run 148 45 lo st h Q = Cnt 148 Q (xo_getf 10 12 48 lo st h) := run_s rfl
theorem rq_X10_doMeet_48 {lo : Lo} {st : List Value} {h : Hp} {Q : Option Value → Hp → Prop} : Run 148 48 lo st h Q = Cnt 148 Q (xo_iload 3 49 lo st h) := run_s rfl
theorem rq_X10_doMeet_49 {lo : Lo} {st : List Value} {h : Hp} {Q : Option Value → Hp → Prop} : Run 148 49 lo st h Q = Cnt 148 Q (xo_iald 50 lo st h) := run_s rfl
theorem rq_X10_doMeet_50 {lo : Lo} {st : List Value} {h : Hp} {Q : Option Value → Hp → Prop} : Run 148 50 lo st h Q = Cnt 148 Q (xo_aload 0 51 lo st h) := run_s rfl
theorem rq_X10_doMeet_51 {lo : Lo} {st : List Value} {h : Hp} {Q : Option Value → Hp → Prop} : Run 148 51 lo st h Q = Cnt 148 Q (xo_getf 10 11 54 lo st h) := run_s rfl
theorem rq_X10_doMeet_54 {lo : Lo} {st : List Value} {h : Hp} {Q : Option Value → Hp → Prop} : Run 148 54 lo st h Q = Cnt 148 Q (xo_iload 3 55 lo st h) := run_s rfl
theorem rq_X10_doMeet_55 {lo : Lo} {st : List Value} {h : Hp} {Q : Option Value → Hp → Prop} : Run 148 55 lo st h Q = Cnt 148 Q (xo_iald 56 lo st h) := run_s rfl
theorem rq_X10_doMeet_56 {lo : Lo} {st : List Value} {h : Hp} {Q : Option Value → Hp → Prop} : Run 148 56 lo st h Q = Cnt 148 Q (xo_bin (fun x y => x &&& y) 57 lo st h) := run_s rfl
theorem rq_X10_doMeet_57 {lo : Lo} {st : List Value} {h : Hp} {Q : Option Value → Hp → Prop} : Run 148 57 lo st h Q = Cnt 148 Q (xo_if1 (fun x => decide (x = 0)) 62 60 lo st h) := run_s rfl
theorem rq_X10_doMeet_60 {lo : Lo} {st : List Value} {h : Hp} {Q : Option Value → Hp → Prop} : Run 148 60 lo st h Q = Cnt 148 Q (xo_const (.int 1) 61 lo st h) := run_s rfl
theorem rq_X10_doMeet_61 {lo : Lo} {st : List Value} {h : Hp} {Q : Option Value → Hp → Prop} : Run 148 61 lo st h Q = Cnt 148 Q (xo_zret lo st h) := run_s rfl
theorem rq_X10_doMeet_62 {lo : Lo} {st : List Value} {h : Hp} {Q : Option Value → Hp → Prop} : Run 148 62 lo st h Q = Cnt 148 Q (xo_iinc 3 1 65 lo st h) := run_s rfl
theorem rq_X10_doMeet_65 {lo : Lo} {st : List Value} {h : Hp} {Q : Option Value → Hp → Prop} : Run 148 65 lo st h Q = Cnt 148 Q (xo_goto 38 lo st h) := run_s rfl
theorem rq_X10_doMeet_68 {lo : Lo} {st : List Value} {h : Hp} {Q : Option Value → Hp → Prop} : Run 148 68 lo st h Q = Cnt 148 Q (xo_const (.int 0) 69 lo st h) := run_s rfl
theorem rq_X10_doMeet_69 {lo : Lo} {st : List Value} {h : Hp} {Q : Option Value → Hp → Prop} : Run 148 69 lo st h Q = Cnt 148 Q (xo_zret lo st h) := run_s rfl
theorem rq_X10_join_0 {lo : Lo} {st : List Value} {h : Hp} {Q : Option Value → Hp → Prop} : Run 149 0 lo st h Q = Cnt 149 Q (xo_aload 0 1 lo st h) := run_s rfl
theorem rq_X10_join_1 {lo : Lo} {st : List Value} {h : Hp} {Q : Option Value → Hp → Prop} : Run 149 1 lo st h Q = Cnt 149 Q (xo_iload 1 2 lo st h) := run_s rfl
theorem rq_X10_join_2 {lo : Lo} {st : List Value} {h : Hp} {Q : Option Value → Hp → Prop} : Run 149 2 lo st h Q = CCall 118 2 (some 10) st h (Knt 149 5 lo (st.drop 2) Q) := run_c rfl
theorem rq_X10_join_5 {lo : Lo} {st : List Value} {h : Hp} {Q : Option Value → Hp → Prop} : Run 149 5 lo st h Q = Cnt 149 Q (xo_if1 (fun x => decide (x = 0)) 16 8 lo st h) := run_s rfl
theorem rq_X10_join_8 {lo : Lo} {st : List Value} {h : Hp} {Q : Option Value → Hp → Prop} : Run 149 8 lo st h Q = Cnt 149 Q (xo_aload 0 9 lo st h) := run_s rfl
theorem rq_X10_join_9 {lo : Lo} {st : List Value} {h : Hp} {Q : Option Value → Hp → Prop} : Run 149 9 lo st h Q = Cnt 149 Q (xo_iload 2 10 lo st h) := run_s rfl
theorem rq_X10_join_10 {lo : Lo} {st : List Value} {h : Hp} {Q : Option Value → Hp → Prop} : Run 149 10 lo st h Q = CCall 118 2 (some 10) st h (Knt 149 13 lo (st.drop 2) Q) := run_c rfl
theorem rq_X10_join_13 {lo : Lo} {st : List Value} {h : Hp} {Q : Option Value → Hp → Prop} : Run 149 13 lo st h Q = Cnt 149 Q (xo_if1 (fun x => decide (¬ x = 0)) 18 16 lo st h) := run_s rfl
theorem rq_X10_join_16 {lo : Lo} {st : List Value} {h : Hp} {Q : Option Value → Hp → Prop} : Run 149 16 lo st h Q = Cnt 149 Q (xo_const (.int (-1)) 17 lo st h) := run_s rfl
theorem rq_X10_join_17 {lo : Lo} {st : List Value} {h : Hp} {Q : Option Value → Hp → Prop} : Run 149 17 lo st h Q = Cnt 149 Q (xo_iret lo st h) := run_s rfl
theorem rq_X10_join_18 {lo : Lo} {st : List Value} {h : Hp} {Q : Option Value → Hp → Prop} : Run 149 18 lo st h Q = Cnt 149 Q (xo_iload 1 19 lo st h) := run_s rfl
theorem rq_X10_join_19 {lo : Lo} {st : List Value} {h : Hp} {Q : Option Value → Hp → Prop} : Run 149 19 lo st h Q = Cnt 149 Q (xo_iload 2 20 lo st h) := run_s rfl
theorem rq_X10_join_20 {lo : Lo} {st : List Value} {h : Hp} {Q : Option Value → Hp → Prop} : Run 149 20 lo st h Q = Cnt 149 Q (xo_if2 (fun x y => decide (¬ x = y)) 26 23 lo st h) := run_s rfl
theorem rq_X10_join_23 {lo : Lo} {st : List Value} {h : Hp} {Q : Option Value → Hp → Prop} : Run 149 23 lo st h Q = Cnt 149 Q (xo_const (.int (-3)) 25 lo st h) := run_s rfl
theorem rq_X10_join_25 {lo : Lo} {st : List Value} {h : Hp} {Q : Option Value → Hp → Prop} : Run 149 25 lo st h Q = Cnt 149 Q (xo_iret lo st h) := run_s rfl
theorem rq_X10_join_26 {lo : Lo} {st : List Value} {h : Hp} {Q : Option Value → Hp → Prop} : Run 149 26 lo st h Q = Cnt 149 Q (xo_aload 0 27 lo st h) := run_s rfl
theorem rq_X10_join_27 {lo : Lo} {st : List Value} {h : Hp} {Q : Option Value → Hp → Prop} : Run 149 27 lo st h Q = Cnt 149 Q (xo_aload 0 28 lo st h) := run_s rfl
theorem rq_X10_join_28 {lo : Lo} {st : List Value} {h : Hp} {Q : Option Value → Hp → Prop} : Run 149 28 lo st h Q = Cnt 149 Q (xo_iload 1 29 lo st h) := run_s rfl
theorem rq_X10_join_29 {lo : Lo} {st : List Value} {h : Hp} {Q : Option Value → Hp → Prop} : Run 149 29 lo st h Q = Cnt 149 Q (xo_const (.int 0) 30 lo st h) := run_s rfl
theorem rq_X10_join_30 {lo : Lo} {st : List Value} {h : Hp} {Q : Option Value → Hp → Prop} : Run 149 30 lo st h Q = CCall 144 3 (some 10) st h (Knt 149 33 lo (st.drop 3) Q) := run_c rfl
theorem rq_X10_join_33 {lo : Lo} {st : List Value} {h : Hp} {Q : Option Value → Hp → Prop} : Run 149 33 lo st h Q = Cnt 149 Q (xo_aload 0 34 lo st h) := run_s rfl
theorem rq_X10_join_34 {lo : Lo} {st : List Value} {h : Hp} {Q : Option Value → Hp → Prop} : Run 149 34 lo st h Q = Cnt 149 Q (xo_iload 2 35 lo st h) := run_s rfl
theorem rq_X10_join_35 {lo : Lo} {st : List Value} {h : Hp} {Q : Option Value → Hp → Prop} : Run 149 35 lo st h Q = Cnt 149 Q (xo_const (.int 0) 36 lo st h) := run_s rfl
theorem rq_X10_join_36 {lo : Lo} {st : List Value} {h : Hp} {Q : Option Value → Hp → Prop} : Run 149 36 lo st h Q = CCall 144 3 (some 10) st h (Knt 149 39 lo (st.drop 3) Q) := run_c rfl
theorem rq_X10_join_39 {lo : Lo} {st : List Value} {h : Hp} {Q : Option Value → Hp → Prop} : Run 149 39 lo st h Q = CCall 145 3 (some 10) st h (Knt 149 42 lo (st.drop 3) Q) := run_c rfl
theorem rq_X10_join_42 {lo : Lo} {st : List Value} {h : Hp} {Q : Option Value → Hp → Prop} : Run 149 42 lo st h Q = Cnt 149 Q (xo_if1 (fun x => decide (¬ x = 0)) 64 45 lo st h) := run_s rfl
theorem rq_X10_join_45 {lo : Lo} {st : List Value} {h : Hp} {Q : Option Value → Hp → Prop} : Run 149 45 lo st h Q = Cnt 149 Q (xo_aload 0 46 lo st h) := run_s rfl
theorem rq_X10_join_46 {lo : Lo} {st : List Value} {h : Hp} {Q : Option Value → Hp → Prop} : Run 149 46 lo st h Q = Cnt 149 Q (xo_aload 0 47 lo st h) := run_s rfl
theorem rq_X10_join_47 {lo : Lo} {st : List Value} {h : Hp} {Q : Option Value → Hp → Prop} : Run 149 47 lo st h Q = Cnt 149 Q (xo_iload 1 48 lo st h) := run_s rfl
theorem rq_X10_join_48 {lo : Lo} {st : List Value} {h : Hp} {Q : Option Value → Hp → Prop} : Run 149 48 lo st h Q = Cnt 149 Q (xo_const (.int 0) 49 lo st h) := run_s rfl
theorem rq_X10_join_49 {lo : Lo} {st : List Value} {h : Hp} {Q : Option Value → Hp → Prop} : Run 149 49 lo st h Q = CCall 144 3 (some 10) st h (Knt 149 52 lo (st.drop 3) Q) := run_c rfl
theorem rq_X10_join_52 {lo : Lo} {st : List Value} {h : Hp} {Q : Option Value → Hp → Prop} : Run 149 52 lo st h Q = Cnt 149 Q (xo_aload 0 53 lo st h) := run_s rfl
theorem rq_X10_join_53 {lo : Lo} {st : List Value} {h : Hp} {Q : Option Value → Hp → Prop} : Run 149 53 lo st h Q = Cnt 149 Q (xo_iload 2 54 lo st h) := run_s rfl
theorem rq_X10_join_54 {lo : Lo} {st : List Value} {h : Hp} {Q : Option Value → Hp → Prop} : Run 149 54 lo st h Q = Cnt 149 Q (xo_const (.int 1) 55 lo st h) := run_s rfl
theorem rq_X10_join_55 {lo : Lo} {st : List Value} {h : Hp} {Q : Option Value → Hp → Prop} : Run 149 55 lo st h Q = CCall 144 3 (some 10) st h (Knt 149 58 lo (st.drop 3) Q) := run_c rfl
theorem rq_X10_join_58 {lo : Lo} {st : List Value} {h : Hp} {Q : Option Value → Hp → Prop} : Run 149 58 lo st h Q = CCall 145 3 (some 10) st h (Knt 149 61 lo (st.drop 3) Q) := run_c rfl
theorem rq_X10_join_61 {lo : Lo} {st : List Value} {h : Hp} {Q : Option Value → Hp → Prop} : Run 149 61 lo st h Q = Cnt 149 Q (xo_if1 (fun x => decide (x = 0)) 68 64 lo st h) := run_s rfl
theorem rq_X10_join_64 {lo : Lo} {st : List Value} {h : Hp} {Q : Option Value → Hp → Prop} : Run 149 64 lo st h Q = Cnt 149 Q (xo_const (.int 1) 65 lo st h) := run_s rfl
theorem rq_X10_join_65 {lo : Lo} {st : List Value} {h : Hp} {Q : Option Value → Hp → Prop} : Run 149 65 lo st h Q = Cnt 149 Q (xo_goto 69 lo st h) := run_s rfl
theorem rq_X10_join_68 {lo : Lo} {st : List Value} {h : Hp} {Q : Option Value → Hp → Prop} : Run 149 68 lo st h Q = Cnt 149 Q (xo_const (.int 0) 69 lo st h) := run_s rfl
theorem rq_X10_join_69 {lo : Lo} {st : List Value} {h : Hp} {Q : Option Value → Hp → Prop} : Run 149 69 lo st h Q = Cnt 149 Q (xo_istore 3 70 lo st h) := run_s rfl
theorem rq_X10_join_70 {lo : Lo} {st : List Value} {h : Hp} {Q : Option Value → Hp → Prop} : Run 149 70 lo st h Q = Cnt 149 Q (xo_iload 3 71 lo st h) := run_s rfl
theorem rq_X10_join_71 {lo : Lo} {st : List Value} {h : Hp} {Q : Option Value → Hp → Prop} : Run 149 71 lo st h Q = Cnt 149 Q (xo_if1 (fun x => decide (¬ x = 0)) 112 74 lo st h) := run_s rfl
theorem rq_X10_join_74 {lo : Lo} {st : List Value} {h : Hp} {Q : Option Value → Hp → Prop} : Run 149 74 lo st h Q = Cnt 149 Q (xo_aload 0 75 lo st h) := run_s rfl
theorem rq_X10_join_75 {lo : Lo} {st : List Value} {h : Hp} {Q : Option Value → Hp → Prop} : Run 149 75 lo st h Q = Cnt 149 Q (xo_aload 0 76 lo st h) := run_s rfl
theorem rq_X10_join_76 {lo : Lo} {st : List Value} {h : Hp} {Q : Option Value → Hp → Prop} : Run 149 76 lo st h Q = Cnt 149 Q (xo_iload 1 77 lo st h) := run_s rfl
theorem rq_X10_join_77 {lo : Lo} {st : List Value} {h : Hp} {Q : Option Value → Hp → Prop} : Run 149 77 lo st h Q = Cnt 149 Q (xo_const (.int 1) 78 lo st h) := run_s rfl
theorem rq_X10_join_78 {lo : Lo} {st : List Value} {h : Hp} {Q : Option Value → Hp → Prop} : Run 149 78 lo st h Q = CCall 144 3 (some 10) st h (Knt 149 81 lo (st.drop 3) Q) := run_c rfl
theorem rq_X10_join_81 {lo : Lo} {st : List Value} {h : Hp} {Q : Option Value → Hp → Prop} : Run 149 81 lo st h Q = Cnt 149 Q (xo_aload 0 82 lo st h) := run_s rfl
theorem rq_X10_join_82 {lo : Lo} {st : List Value} {h : Hp} {Q : Option Value → Hp → Prop} : Run 149 82 lo st h Q = Cnt 149 Q (xo_iload 2 83 lo st h) := run_s rfl
theorem rq_X10_join_83 {lo : Lo} {st : List Value} {h : Hp} {Q : Option Value → Hp → Prop} : Run 149 83 lo st h Q = Cnt 149 Q (xo_const (.int 0) 84 lo st h) := run_s rfl
theorem rq_X10_join_84 {lo : Lo} {st : List Value} {h : Hp} {Q : Option Value → Hp → Prop} : Run 149 84 lo st h Q = CCall 144 3 (some 10) st h (Knt 149 87 lo (st.drop 3) Q) := run_c rfl
theorem rq_X10_join_87 {lo : Lo} {st : List Value} {h : Hp} {Q : Option Value → Hp → Prop} : Run 149 87 lo st h Q = CCall 145 3 (some 10) st h (Knt 149 90 lo (st.drop 3) Q) := run_c rfl
theorem rq_X10_join_90 {lo : Lo} {st : List Value} {h : Hp} {Q : Option Value → Hp → Prop} : Run 149 90 lo st h Q = Cnt 149 Q (xo_if1 (fun x => decide (¬ x = 0)) 112 93 lo st h) := run_s rfl
theorem rq_X10_join_93 {lo : Lo} {st : List Value} {h : Hp} {Q : Option Value → Hp → Prop} : Run 149 93 lo st h Q = Cnt 149 Q (xo_aload 0 94 lo st h) := run_s rfl
theorem rq_X10_join_94 {lo : Lo} {st : List Value} {h : Hp} {Q : Option Value → Hp → Prop} : Run 149 94 lo st h Q = Cnt 149 Q (xo_aload 0 95 lo st h) := run_s rfl
theorem rq_X10_join_95 {lo : Lo} {st : List Value} {h : Hp} {Q : Option Value → Hp → Prop} : Run 149 95 lo st h Q = Cnt 149 Q (xo_iload 1 96 lo st h) := run_s rfl
theorem rq_X10_join_96 {lo : Lo} {st : List Value} {h : Hp} {Q : Option Value → Hp → Prop} : Run 149 96 lo st h Q = Cnt 149 Q (xo_const (.int 1) 97 lo st h) := run_s rfl
theorem rq_X10_join_97 {lo : Lo} {st : List Value} {h : Hp} {Q : Option Value → Hp → Prop} : Run 149 97 lo st h Q = CCall 144 3 (some 10) st h (Knt 149 100 lo (st.drop 3) Q) := run_c rfl
theorem rq_X10_join_100 {lo : Lo} {st : List Value} {h : Hp} {Q : Option Value → Hp → Prop} : Run 149 100 lo st h Q = Cnt 149 Q (xo_aload 0 101 lo st h) := run_s rfl
theorem rq_X10_join_101 {lo : Lo} {st : List Value} {h : Hp} {Q : Option Value → Hp → Prop} : Run 149 101 lo st h Q = Cnt 149 Q (xo_iload 2 102 lo st h) := run_s rfl
theorem rq_X10_join_102 {lo : Lo} {st : List Value} {h : Hp} {Q : Option Value → Hp → Prop} : Run 149 102 lo st h Q = Cnt 149 Q (xo_const (.int 1) 103 lo st h) := run_s rfl
theorem rq_X10_join_103 {lo : Lo} {st : List Value} {h : Hp} {Q : Option Value → Hp → Prop} : Run 149 103 lo st h Q = CCall 144 3 (some 10) st h (Knt 149 106 lo (st.drop 3) Q) := run_c rfl
theorem rq_X10_join_106 {lo : Lo} {st : List Value} {h : Hp} {Q : Option Value → Hp → Prop} : Run 149 106 lo st h Q = CCall 145 3 (some 10) st h (Knt 149 109 lo (st.drop 3) Q) := run_c rfl
theorem rq_X10_join_109 {lo : Lo} {st : List Value} {h : Hp} {Q : Option Value → Hp → Prop} : Run 149 109 lo st h Q = Cnt 149 Q (xo_if1 (fun x => decide (x = 0)) 114 112 lo st h) := run_s rfl
theorem rq_X10_join_112 {lo : Lo} {st : List Value} {h : Hp} {Q : Option Value → Hp → Prop} : Run 149 112 lo st h Q = Cnt 149 Q (xo_const (.int 3) 113 lo st h) := run_s rfl
theorem rq_X10_join_113 {lo : Lo} {st : List Value} {h : Hp} {Q : Option Value → Hp → Prop} : Run 149 113 lo st h Q = Cnt 149 Q (xo_iret lo st h) := run_s rfl
theorem rq_X10_join_114 {lo : Lo} {st : List Value} {h : Hp} {Q : Option Value → Hp → Prop} : Run 149 114 lo st h Q = Cnt 149 Q (xo_aload 0 115 lo st h) := run_s rfl
theorem rq_X10_join_115 {lo : Lo} {st : List Value} {h : Hp} {Q : Option Value → Hp → Prop} : Run 149 115 lo st h Q = Cnt 149 Q (xo_iload 1 116 lo st h) := run_s rfl
theorem rq_X10_join_116 {lo : Lo} {st : List Value} {h : Hp} {Q : Option Value → Hp → Prop} : Run 149 116 lo st h Q = Cnt 149 Q (xo_iload 2 117 lo st h) := run_s rfl
theorem rq_X10_join_117 {lo : Lo} {st : List Value} {h : Hp} {Q : Option Value → Hp → Prop} : Run 149 117 lo st h Q = CCall 147 3 (some 10) st h (Knt 149 120 lo (st.drop 3) Q) := run_c rfl
theorem rq_X10_join_120 {lo : Lo} {st : List Value} {h : Hp} {Q : Option Value → Hp → Prop} : Run 149 120 lo st h Q = Cnt 149 Q (xo_if1 (fun x => decide (¬ x = 0)) 132 123 lo st h) := run_s rfl
theorem rq_X10_join_123 {lo : Lo} {st : List Value} {h : Hp} {Q : Option Value → Hp → Prop} : Run 149 123 lo st h Q = Cnt 149 Q (xo_aload 0 124 lo st h) := run_s rfl
theorem rq_X10_join_124 {lo : Lo} {st : List Value} {h : Hp} {Q : Option Value → Hp → Prop} : Run 149 124 lo st h Q = Cnt 149 Q (xo_iload 2 125 lo st h) := run_s rfl
theorem rq_X10_join_125 {lo : Lo} {st : List Value} {h : Hp} {Q : Option Value → Hp → Prop} : Run 149 125 lo st h Q = Cnt 149 Q (xo_iload 1 126 lo st h) := run_s rfl
theorem rq_X10_join_126 {lo : Lo} {st : List Value} {h : Hp} {Q : Option Value → Hp → Prop} : Run 149 126 lo st h Q = CCall 147 3 (some 10) st h (Knt 149 129 lo (st.drop 3) Q) := run_c rfl
theorem rq_X10_join_129 {lo : Lo} {st : List Value} {h : Hp} {Q : Option Value → Hp → Prop} : Run 149 129 lo st h Q = Cnt 149 Q (xo_if1 (fun x => decide (x = 0)) 136 132 lo st h) := run_s rfl
theorem rq_X10_join_132 {lo : Lo} {st : List Value} {h : Hp} {Q : Option Value → Hp → Prop} : Run 149 132 lo st h Q = Cnt 149 Q (xo_const (.int 2) 133 lo st h) := run_s rfl
theorem rq_X10_join_133 {lo : Lo} {st : List Value} {h : Hp} {Q : Option Value → Hp → Prop} : Run 149 133 lo st h Q = Cnt 149 Q (xo_goto 150 lo st h) := run_s rfl
theorem rq_X10_join_136 {lo : Lo} {st : List Value} {h : Hp} {Q : Option Value → Hp → Prop} : Run 149 136 lo st h Q = Cnt 149 Q (xo_aload 0 137 lo st h) := run_s rfl
theorem rq_X10_join_137 {lo : Lo} {st : List Value} {h : Hp} {Q : Option Value → Hp → Prop} : Run 149 137 lo st h Q = Cnt 149 Q (xo_iload 1 138 lo st h) := run_s rfl
theorem rq_X10_join_138 {lo : Lo} {st : List Value} {h : Hp} {Q : Option Value → Hp → Prop} : Run 149 138 lo st h Q = Cnt 149 Q (xo_iload 2 139 lo st h) := run_s rfl
theorem rq_X10_join_139 {lo : Lo} {st : List Value} {h : Hp} {Q : Option Value → Hp → Prop} : Run 149 139 lo st h Q = CCall 148 3 (some 10) st h (Knt 149 142 lo (st.drop 3) Q) := run_c rfl
theorem rq_X10_join_142 {lo : Lo} {st : List Value} {h : Hp} {Q : Option Value → Hp → Prop} : Run 149 142 lo st h Q = Cnt 149 Q (xo_if1 (fun x => decide (x = 0)) 149 145 lo st h) := run_s rfl
theorem rq_X10_join_145 {lo : Lo} {st : List Value} {h : Hp} {Q : Option Value → Hp → Prop} : Run 149 145 lo st h Q = Cnt 149 Q (xo_const (.int 1) 146 lo st h) := run_s rfl
theorem rq_X10_join_146 {lo : Lo} {st : List Value} {h : Hp} {Q : Option Value → Hp → Prop} : Run 149 146 lo st h Q = Cnt 149 Q (xo_goto 150 lo st h) := run_s rfl
theorem rq_X10_join_149 {lo : Lo} {st : List Value} {h : Hp} {Q : Option Value → Hp → Prop} : Run 149 149 lo st h Q = Cnt 149 Q (xo_const (.int 0) 150 lo st h) := run_s rfl
theorem rq_X10_join_150 {lo : Lo} {st : List Value} {h : Hp} {Q : Option Value → Hp → Prop} : Run 149 150 lo st h Q = Cnt 149 Q (xo_iret lo st h) := run_s rfl
theorem rq_X10_isInk_0 {lo : Lo} {st : List Value} {h : Hp} {Q : Option Value → Hp → Prop} : Run 150 0 lo st h Q = Cnt 150 Q (xo_aload 0 1 lo st h) := run_s rfl
theorem rq_X10_isInk_1 {lo : Lo} {st : List Value} {h : Hp} {Q : Option Value → Hp → Prop} : Run 150 1 lo st h Q = Cnt 150 Q (xo_getf 10 11 4 lo st h) := run_s rfl
theorem rq_X10_isInk_4 {lo : Lo} {st : List Value} {h : Hp} {Q : Option Value → Hp → Prop} : Run 150 4 lo st h Q = Cnt 150 Q (xo_iload 1 5 lo st h) := run_s rfl
theorem rq_X10_isInk_5 {lo : Lo} {st : List Value} {h : Hp} {Q : Option Value → Hp → Prop} : Run 150 5 lo st h Q = Cnt 150 Q (xo_const (.int 32) 7 lo st h) := run_s rfl
theorem rq_X10_isInk_7 {lo : Lo} {st : List Value} {h : Hp} {Q : Option Value → Hp → Prop} : Run 150 7 lo st h Q = Cnt 150 Q (xo_div (fun x y => x / y) 8 lo st h) := run_s rfl
theorem rq_X10_isInk_8 {lo : Lo} {st : List Value} {h : Hp} {Q : Option Value → Hp → Prop} : Run 150 8 lo st h Q = Cnt 150 Q (xo_iald 9 lo st h) := run_s rfl
theorem rq_X10_isInk_9 {lo : Lo} {st : List Value} {h : Hp} {Q : Option Value → Hp → Prop} : Run 150 9 lo st h Q = Cnt 150 Q (xo_iload 1 10 lo st h) := run_s rfl
theorem rq_X10_isInk_10 {lo : Lo} {st : List Value} {h : Hp} {Q : Option Value → Hp → Prop} : Run 150 10 lo st h Q = Cnt 150 Q (xo_const (.int 32) 12 lo st h) := run_s rfl
theorem rq_X10_isInk_12 {lo : Lo} {st : List Value} {h : Hp} {Q : Option Value → Hp → Prop} : Run 150 12 lo st h Q = Cnt 150 Q (xo_div (fun x y => x - x / y * y) 13 lo st h) := run_s rfl
theorem rq_X10_isInk_13 {lo : Lo} {st : List Value} {h : Hp} {Q : Option Value → Hp → Prop} : Run 150 13 lo st h Q = Cnt 150 Q (xo_bin (fun x y => x >>> (y &&& 31)) 14 lo st h) := run_s rfl
theorem rq_X10_isInk_14 {lo : Lo} {st : List Value} {h : Hp} {Q : Option Value → Hp → Prop} : Run 150 14 lo st h Q = Cnt 150 Q (xo_const (.int 1) 15 lo st h) := run_s rfl
theorem rq_X10_isInk_15 {lo : Lo} {st : List Value} {h : Hp} {Q : Option Value → Hp → Prop} : Run 150 15 lo st h Q = Cnt 150 Q (xo_bin (fun x y => x &&& y) 16 lo st h) := run_s rfl
theorem rq_X10_isInk_16 {lo : Lo} {st : List Value} {h : Hp} {Q : Option Value → Hp → Prop} : Run 150 16 lo st h Q = Cnt 150 Q (xo_const (.int 1) 17 lo st h) := run_s rfl
theorem rq_X10_isInk_17 {lo : Lo} {st : List Value} {h : Hp} {Q : Option Value → Hp → Prop} : Run 150 17 lo st h Q = Cnt 150 Q (xo_if2 (fun x y => decide (¬ x = y)) 24 20 lo st h) := run_s rfl
theorem rq_X10_isInk_20 {lo : Lo} {st : List Value} {h : Hp} {Q : Option Value → Hp → Prop} : Run 150 20 lo st h Q = Cnt 150 Q (xo_const (.int 1) 21 lo st h) := run_s rfl
theorem rq_X10_isInk_21 {lo : Lo} {st : List Value} {h : Hp} {Q : Option Value → Hp → Prop} : Run 150 21 lo st h Q = Cnt 150 Q (xo_goto 25 lo st h) := run_s rfl
theorem rq_X10_isInk_24 {lo : Lo} {st : List Value} {h : Hp} {Q : Option Value → Hp → Prop} : Run 150 24 lo st h Q = Cnt 150 Q (xo_const (.int 0) 25 lo st h) := run_s rfl
theorem rq_X10_isInk_25 {lo : Lo} {st : List Value} {h : Hp} {Q : Option Value → Hp → Prop} : Run 150 25 lo st h Q = Cnt 150 Q (xo_zret lo st h) := run_s rfl
theorem rq_X10_goesThrough_0 {lo : Lo} {st : List Value} {h : Hp} {Q : Option Value → Hp → Prop} : Run 151 0 lo st h Q = Cnt 151 Q (xo_const (.int 1) 1 lo st h) := run_s rfl
theorem rq_X10_goesThrough_1 {lo : Lo} {st : List Value} {h : Hp} {Q : Option Value → Hp → Prop} : Run 151 1 lo st h Q = Cnt 151 Q (xo_istore 3 2 lo st h) := run_s rfl
theorem rq_X10_goesThrough_2 {lo : Lo} {st : List Value} {h : Hp} {Q : Option Value → Hp → Prop} : Run 151 2 lo st h Q = Cnt 151 Q (xo_const (.int 0) 3 lo st h) := run_s rfl
theorem rq_X10_goesThrough_3 {lo : Lo} {st : List Value} {h : Hp} {Q : Option Value → Hp → Prop} : Run 151 3 lo st h Q = Cnt 151 Q (xo_istore 4 5 lo st h) := run_s rfl
theorem rq_X10_goesThrough_5 {lo : Lo} {st : List Value} {h : Hp} {Q : Option Value → Hp → Prop} : Run 151 5 lo st h Q = Cnt 151 Q (xo_aload 0 6 lo st h) := run_s rfl
theorem rq_X10_goesThrough_6 {lo : Lo} {st : List Value} {h : Hp} {Q : Option Value → Hp → Prop} : Run 151 6 lo st h Q = Cnt 151 Q (xo_getf 10 14 9 lo st h) := run_s rfl
theorem rq_X10_goesThrough_9 {lo : Lo} {st : List Value} {h : Hp} {Q : Option Value → Hp → Prop} : Run 151 9 lo st h Q = Cnt 151 Q (xo_const (.int 0) 10 lo st h) := run_s rfl
theorem rq_X10_goesThrough_10 {lo : Lo} {st : List Value} {h : Hp} {Q : Option Value → Hp → Prop} : Run 151 10 lo st h Q = Cnt 151 Q (xo_iload 1 11 lo st h) := run_s rfl
theorem rq_X10_goesThrough_11 {lo : Lo} {st : List Value} {h : Hp} {Q : Option Value → Hp → Prop} : Run 151 11 lo st h Q = Cnt 151 Q (xo_iast 12 lo st h) := run_s rfl
theorem rq_X10_goesThrough_12 {lo : Lo} {st : List Value} {h : Hp} {Q : Option Value → Hp → Prop} : Run 151 12 lo st h Q = Cnt 151 Q (xo_aload 0 13 lo st h) := run_s rfl
theorem rq_X10_goesThrough_13 {lo : Lo} {st : List Value} {h : Hp} {Q : Option Value → Hp → Prop} : Run 151 13 lo st h Q = Cnt 151 Q (xo_getf 10 15 16 lo st h) := run_s rfl
theorem rq_X10_goesThrough_16 {lo : Lo} {st : List Value} {h : Hp} {Q : Option Value → Hp → Prop} : Run 151 16 lo st h Q = Cnt 151 Q (xo_iload 1 17 lo st h) := run_s rfl
theorem rq_X10_goesThrough_17 {lo : Lo} {st : List Value} {h : Hp} {Q : Option Value → Hp → Prop} : Run 151 17 lo st h Q = Cnt 151 Q (xo_const (.int 1) 18 lo st h) := run_s rfl
theorem rq_X10_goesThrough_18 {lo : Lo} {st : List Value} {h : Hp} {Q : Option Value → Hp → Prop} : Run 151 18 lo st h Q = Cnt 151 Q (xo_zast 19 lo st h) := run_s rfl
theorem rq_X10_goesThrough_19 {lo : Lo} {st : List Value} {h : Hp} {Q : Option Value → Hp → Prop} : Run 151 19 lo st h Q = Cnt 151 Q (xo_const (.int 0) 20 lo st h) := run_s rfl
theorem rq_X10_goesThrough_20 {lo : Lo} {st : List Value} {h : Hp} {Q : Option Value → Hp → Prop} : Run 151 20 lo st h Q = Cnt 151 Q (xo_istore 5 22 lo st h) := run_s rfl
theorem rq_X10_goesThrough_22 {lo : Lo} {st : List Value} {h : Hp} {Q : Option Value → Hp → Prop} : Run 151 22 lo st h Q = Cnt 151 Q (xo_iload 5 24 lo st h) := run_s rfl
theorem rq_X10_goesThrough_24 {lo : Lo} {st : List Value} {h : Hp} {Q : Option Value → Hp → Prop} : Run 151 24 lo st h Q = Cnt 151 Q (xo_iload 3 25 lo st h) := run_s rfl
theorem rq_X10_goesThrough_25 {lo : Lo} {st : List Value} {h : Hp} {Q : Option Value → Hp → Prop} : Run 151 25 lo st h Q = Cnt 151 Q (xo_if2 (fun x y => decide (x ≥ y)) 247 28 lo st h) := run_s rfl
theorem rq_X10_goesThrough_28 {lo : Lo} {st : List Value} {h : Hp} {Q : Option Value → Hp → Prop} : Run 151 28 lo st h Q = Cnt 151 Q (xo_aload 0 29 lo st h) := run_s rfl
theorem rq_X10_goesThrough_29 {lo : Lo} {st : List Value} {h : Hp} {Q : Option Value → Hp → Prop} : Run 151 29 lo st h Q = Cnt 151 Q (xo_getf 10 14 32 lo st h) := run_s rfl
theorem rq_X10_goesThrough_32 {lo : Lo} {st : List Value} {h : Hp} {Q : Option Value → Hp → Prop} : Run 151 32 lo st h Q = Cnt 151 Q (xo_iload 5 34 lo st h) := run_s rfl
theorem rq_X10_goesThrough_34 {lo : Lo} {st : List Value} {h : Hp} {Q : Option Value → Hp → Prop} : Run 151 34 lo st h Q = Cnt 151 Q (xo_iald 35 lo st h) := run_s rfl
theorem rq_X10_goesThrough_35 {lo : Lo} {st : List Value} {h : Hp} {Q : Option Value → Hp → Prop} : Run 151 35 lo st h Q = Cnt 151 Q (xo_const (.int 32) 37 lo st h) := run_s rfl
theorem rq_X10_goesThrough_37 {lo : Lo} {st : List Value} {h : Hp} {Q : Option Value → Hp → Prop} : Run 151 37 lo st h Q = Cnt 151 Q (xo_div (fun x y => x - x / y * y) 38 lo st h) := run_s rfl
theorem rq_X10_goesThrough_38 {lo : Lo} {st : List Value} {h : Hp} {Q : Option Value → Hp → Prop} : Run 151 38 lo st h Q = Cnt 151 Q (xo_istore 6 40 lo st h) := run_s rfl
theorem rq_X10_goesThrough_40 {lo : Lo} {st : List Value} {h : Hp} {Q : Option Value → Hp → Prop} : Run 151 40 lo st h Q = Cnt 151 Q (xo_aload 0 41 lo st h) := run_s rfl
theorem rq_X10_goesThrough_41 {lo : Lo} {st : List Value} {h : Hp} {Q : Option Value → Hp → Prop} : Run 151 41 lo st h Q = Cnt 151 Q (xo_getf 10 14 44 lo st h) := run_s rfl
theorem rq_X10_goesThrough_44 {lo : Lo} {st : List Value} {h : Hp} {Q : Option Value → Hp → Prop} : Run 151 44 lo st h Q = Cnt 151 Q (xo_iload 5 46 lo st h) := run_s rfl
theorem rq_X10_goesThrough_46 {lo : Lo} {st : List Value} {h : Hp} {Q : Option Value → Hp → Prop} : Run 151 46 lo st h Q = Cnt 151 Q (xo_iald 47 lo st h) := run_s rfl
theorem rq_X10_goesThrough_47 {lo : Lo} {st : List Value} {h : Hp} {Q : Option Value → Hp → Prop} : Run 151 47 lo st h Q = Cnt 151 Q (xo_const (.int 32) 49 lo st h) := run_s rfl
theorem rq_X10_goesThrough_49 {lo : Lo} {st : List Value} {h : Hp} {Q : Option Value → Hp → Prop} : Run 151 49 lo st h Q = Cnt 151 Q (xo_div (fun x y => x / y) 50 lo st h) := run_s rfl
theorem rq_X10_goesThrough_50 {lo : Lo} {st : List Value} {h : Hp} {Q : Option Value → Hp → Prop} : Run 151 50 lo st h Q = Cnt 151 Q (xo_istore 7 52 lo st h) := run_s rfl
theorem rq_X10_goesThrough_52 {lo : Lo} {st : List Value} {h : Hp} {Q : Option Value → Hp → Prop} : Run 151 52 lo st h Q = Cnt 151 Q (xo_iload 4 54 lo st h) := run_s rfl
theorem rq_X10_goesThrough_54 {lo : Lo} {st : List Value} {h : Hp} {Q : Option Value → Hp → Prop} : Run 151 54 lo st h Q = Cnt 151 Q (xo_if1 (fun x => decide (¬ x = 0)) 81 57 lo st h) := run_s rfl
theorem rq_X10_goesThrough_57 {lo : Lo} {st : List Value} {h : Hp} {Q : Option Value → Hp → Prop} : Run 151 57 lo st h Q = Cnt 151 Q (xo_iload 6 59 lo st h) := run_s rfl
theorem rq_X10_goesThrough_59 {lo : Lo} {st : List Value} {h : Hp} {Q : Option Value → Hp → Prop} : Run 151 59 lo st h Q = Cnt 151 Q (xo_if1 (fun x => decide (x = 0)) 81 62 lo st h) := run_s rfl
theorem rq_X10_goesThrough_62 {lo : Lo} {st : List Value} {h : Hp} {Q : Option Value → Hp → Prop} : Run 151 62 lo st h Q = Cnt 151 Q (xo_iload 7 64 lo st h) := run_s rfl
theorem rq_X10_goesThrough_64 {lo : Lo} {st : List Value} {h : Hp} {Q : Option Value → Hp → Prop} : Run 151 64 lo st h Q = Cnt 151 Q (xo_if1 (fun x => decide (x = 0)) 81 67 lo st h) := run_s rfl
theorem rq_X10_goesThrough_67 {lo : Lo} {st : List Value} {h : Hp} {Q : Option Value → Hp → Prop} : Run 151 67 lo st h Q = Cnt 151 Q (xo_iload 6 69 lo st h) := run_s rfl
theorem rq_X10_goesThrough_69 {lo : Lo} {st : List Value} {h : Hp} {Q : Option Value → Hp → Prop} : Run 151 69 lo st h Q = Cnt 151 Q (xo_const (.int 31) 71 lo st h) := run_s rfl
theorem rq_X10_goesThrough_71 {lo : Lo} {st : List Value} {h : Hp} {Q : Option Value → Hp → Prop} : Run 151 71 lo st h Q = Cnt 151 Q (xo_if2 (fun x y => decide (x = y)) 81 74 lo st h) := run_s rfl
theorem rq_X10_goesThrough_74 {lo : Lo} {st : List Value} {h : Hp} {Q : Option Value → Hp → Prop} : Run 151 74 lo st h Q = Cnt 151 Q (xo_iload 7 76 lo st h) := run_s rfl
theorem rq_X10_goesThrough_76 {lo : Lo} {st : List Value} {h : Hp} {Q : Option Value → Hp → Prop} : Run 151 76 lo st h Q = Cnt 151 Q (xo_const (.int 31) 78 lo st h) := run_s rfl
theorem rq_X10_goesThrough_78 {lo : Lo} {st : List Value} {h : Hp} {Q : Option Value → Hp → Prop} : Run 151 78 lo st h Q = Cnt 151 Q (xo_if2 (fun x y => decide (¬ x = y)) 85 81 lo st h) := run_s rfl
theorem rq_X10_goesThrough_81 {lo : Lo} {st : List Value} {h : Hp} {Q : Option Value → Hp → Prop} : Run 151 81 lo st h Q = Cnt 151 Q (xo_const (.int 1) 82 lo st h) := run_s rfl
theorem rq_X10_goesThrough_82 {lo : Lo} {st : List Value} {h : Hp} {Q : Option Value → Hp → Prop} : Run 151 82 lo st h Q = Cnt 151 Q (xo_goto 86 lo st h) := run_s rfl
theorem rq_X10_goesThrough_85 {lo : Lo} {st : List Value} {h : Hp} {Q : Option Value → Hp → Prop} : Run 151 85 lo st h Q = Cnt 151 Q (xo_const (.int 0) 86 lo st h) := run_s rfl
theorem rq_X10_goesThrough_86 {lo : Lo} {st : List Value} {h : Hp} {Q : Option Value → Hp → Prop} : Run 151 86 lo st h Q = Cnt 151 Q (xo_istore 4 88 lo st h) := run_s rfl
theorem rq_X10_goesThrough_88 {lo : Lo} {st : List Value} {h : Hp} {Q : Option Value → Hp → Prop} : Run 151 88 lo st h Q = Cnt 151 Q (xo_const (.int 0) 89 lo st h) := run_s rfl
theorem rq_X10_goesThrough_89 {lo : Lo} {st : List Value} {h : Hp} {Q : Option Value → Hp → Prop} : Run 151 89 lo st h Q = Cnt 151 Q (xo_istore 8 91 lo st h) := run_s rfl
theorem rq_X10_goesThrough_91 {lo : Lo} {st : List Value} {h : Hp} {Q : Option Value → Hp → Prop} : Run 151 91 lo st h Q = Cnt 151 Q (xo_iload 8 93 lo st h) := run_s rfl
theorem rq_X10_goesThrough_93 {lo : Lo} {st : List Value} {h : Hp} {Q : Option Value → Hp → Prop} : Run 151 93 lo st h Q = Cnt 151 Q (xo_const (.int 9) 95 lo st h) := run_s rfl
theorem rq_X10_goesThrough_95 {lo : Lo} {st : List Value} {h : Hp} {Q : Option Value → Hp → Prop} : Run 151 95 lo st h Q = Cnt 151 Q (xo_if2 (fun x y => decide (x ≥ y)) 241 98 lo st h) := run_s rfl
theorem rq_X10_goesThrough_98 {lo : Lo} {st : List Value} {h : Hp} {Q : Option Value → Hp → Prop} : Run 151 98 lo st h Q = Cnt 151 Q (xo_iload 6 100 lo st h) := run_s rfl
theorem rq_X10_goesThrough_100 {lo : Lo} {st : List Value} {h : Hp} {Q : Option Value → Hp → Prop} : Run 151 100 lo st h Q = Cnt 151 Q (xo_iload 8 102 lo st h) := run_s rfl
theorem rq_X10_goesThrough_102 {lo : Lo} {st : List Value} {h : Hp} {Q : Option Value → Hp → Prop} : Run 151 102 lo st h Q = Cnt 151 Q (xo_const (.int 3) 103 lo st h) := run_s rfl
theorem rq_X10_goesThrough_103 {lo : Lo} {st : List Value} {h : Hp} {Q : Option Value → Hp → Prop} : Run 151 103 lo st h Q = Cnt 151 Q (xo_div (fun x y => x - x / y * y) 104 lo st h) := run_s rfl
theorem rq_X10_goesThrough_104 {lo : Lo} {st : List Value} {h : Hp} {Q : Option Value → Hp → Prop} : Run 151 104 lo st h Q = Cnt 151 Q (xo_bin (fun x y => x + y) 105 lo st h) := run_s rfl
theorem rq_X10_goesThrough_105 {lo : Lo} {st : List Value} {h : Hp} {Q : Option Value → Hp → Prop} : Run 151 105 lo st h Q = Cnt 151 Q (xo_const (.int 1) 106 lo st h) := run_s rfl
theorem rq_X10_goesThrough_106 {lo : Lo} {st : List Value} {h : Hp} {Q : Option Value → Hp → Prop} : Run 151 106 lo st h Q = Cnt 151 Q (xo_bin (fun x y => x - y) 107 lo st h) := run_s rfl
theorem rq_X10_goesThrough_107 {lo : Lo} {st : List Value} {h : Hp} {Q : Option Value → Hp → Prop} : Run 151 107 lo st h Q = Cnt 151 Q (xo_istore 9 109 lo st h) := run_s rfl
theorem rq_X10_goesThrough_109 {lo : Lo} {st : List Value} {h : Hp} {Q : Option Value → Hp → Prop} : Run 151 109 lo st h Q = Cnt 151 Q (xo_iload 7 111 lo st h) := run_s rfl
theorem rq_X10_goesThrough_111 {lo : Lo} {st : List Value} {h : Hp} {Q : Option Value → Hp → Prop} : Run 151 111 lo st h Q = Cnt 151 Q (xo_iload 8 113 lo st h) := run_s rfl
theorem rq_X10_goesThrough_113 {lo : Lo} {st : List Value} {h : Hp} {Q : Option Value → Hp → Prop} : Run 151 113 lo st h Q = Cnt 151 Q (xo_const (.int 3) 114 lo st h) := run_s rfl
theorem rq_X10_goesThrough_114 {lo : Lo} {st : List Value} {h : Hp} {Q : Option Value → Hp → Prop} : Run 151 114 lo st h Q = Cnt 151 Q (xo_div (fun x y => x / y) 115 lo st h) := run_s rfl
theorem rq_X10_goesThrough_115 {lo : Lo} {st : List Value} {h : Hp} {Q : Option Value → Hp → Prop} : Run 151 115 lo st h Q = Cnt 151 Q (xo_bin (fun x y => x + y) 116 lo st h) := run_s rfl
theorem rq_X10_goesThrough_116 {lo : Lo} {st : List Value} {h : Hp} {Q : Option Value → Hp → Prop} : Run 151 116 lo st h Q = Cnt 151 Q (xo_const (.int 1) 117 lo st h) := run_s rfl
theorem rq_X10_goesThrough_117 {lo : Lo} {st : List Value} {h : Hp} {Q : Option Value → Hp → Prop} : Run 151 117 lo st h Q = Cnt 151 Q (xo_bin (fun x y => x - y) 118 lo st h) := run_s rfl
theorem rq_X10_goesThrough_118 {lo : Lo} {st : List Value} {h : Hp} {Q : Option Value → Hp → Prop} : Run 151 118 lo st h Q = Cnt 151 Q (xo_istore 10 120 lo st h) := run_s rfl
theorem rq_X10_goesThrough_120 {lo : Lo} {st : List Value} {h : Hp} {Q : Option Value → Hp → Prop} : Run 151 120 lo st h Q = Cnt 151 Q (xo_iload 9 122 lo st h) := run_s rfl
theorem rq_X10_goesThrough_122 {lo : Lo} {st : List Value} {h : Hp} {Q : Option Value → Hp → Prop} : Run 151 122 lo st h Q = Cnt 151 Q (xo_const (.int 0) 123 lo st h) := run_s rfl
theorem rq_X10_goesThrough_123 {lo : Lo} {st : List Value} {h : Hp} {Q : Option Value → Hp → Prop} : Run 151 123 lo st h Q = Cnt 151 Q (xo_const (.int 31) 125 lo st h) := run_s rfl
theorem rq_X10_goesThrough_125 {lo : Lo} {st : List Value} {h : Hp} {Q : Option Value → Hp → Prop} : Run 151 125 lo st h Q = CCall 111 3 none st h (Knt 151 128 lo (st.drop 3) Q) := run_c rfl
theorem rq_X10_goesThrough_128 {lo : Lo} {st : List Value} {h : Hp} {Q : Option Value → Hp → Prop} : Run 151 128 lo st h Q = Cnt 151 Q (xo_if1 (fun x => decide (x = 0)) 164 131 lo st h) := run_s rfl
theorem rq_X10_goesThrough_131 {lo : Lo} {st : List Value} {h : Hp} {Q : Option Value → Hp → Prop} : Run 151 131 lo st h Q = Cnt 151 Q (xo_iload 10 133 lo st h) := run_s rfl
theorem rq_X10_goesThrough_133 {lo : Lo} {st : List Value} {h : Hp} {Q : Option Value → Hp → Prop} : Run 151 133 lo st h Q = Cnt 151 Q (xo_const (.int 0) 134 lo st h) := run_s rfl
theorem rq_X10_goesThrough_134 {lo : Lo} {st : List Value} {h : Hp} {Q : Option Value → Hp → Prop} : Run 151 134 lo st h Q = Cnt 151 Q (xo_const (.int 31) 136 lo st h) := run_s rfl
theorem rq_X10_goesThrough_136 {lo : Lo} {st : List Value} {h : Hp} {Q : Option Value → Hp → Prop} : Run 151 136 lo st h Q = CCall 111 3 none st h (Knt 151 139 lo (st.drop 3) Q) := run_c rfl
theorem rq_X10_goesThrough_139 {lo : Lo} {st : List Value} {h : Hp} {Q : Option Value → Hp → Prop} : Run 151 139 lo st h Q = Cnt 151 Q (xo_if1 (fun x => decide (x = 0)) 164 142 lo st h) := run_s rfl
theorem rq_X10_goesThrough_142 {lo : Lo} {st : List Value} {h : Hp} {Q : Option Value → Hp → Prop} : Run 151 142 lo st h Q = Cnt 151 Q (xo_iload 2 143 lo st h) := run_s rfl
theorem rq_X10_goesThrough_143 {lo : Lo} {st : List Value} {h : Hp} {Q : Option Value → Hp → Prop} : Run 151 143 lo st h Q = Cnt 151 Q (xo_if1 (fun x => decide (¬ x = 0)) 160 146 lo st h) := run_s rfl
theorem rq_X10_goesThrough_146 {lo : Lo} {st : List Value} {h : Hp} {Q : Option Value → Hp → Prop} : Run 151 146 lo st h Q = Cnt 151 Q (xo_iload 9 148 lo st h) := run_s rfl
theorem rq_X10_goesThrough_148 {lo : Lo} {st : List Value} {h : Hp} {Q : Option Value → Hp → Prop} : Run 151 148 lo st h Q = Cnt 151 Q (xo_iload 6 150 lo st h) := run_s rfl
theorem rq_X10_goesThrough_150 {lo : Lo} {st : List Value} {h : Hp} {Q : Option Value → Hp → Prop} : Run 151 150 lo st h Q = Cnt 151 Q (xo_if2 (fun x y => decide (x = y)) 160 153 lo st h) := run_s rfl
theorem rq_X10_goesThrough_153 {lo : Lo} {st : List Value} {h : Hp} {Q : Option Value → Hp → Prop} : Run 151 153 lo st h Q = Cnt 151 Q (xo_iload 10 155 lo st h) := run_s rfl
theorem rq_X10_goesThrough_155 {lo : Lo} {st : List Value} {h : Hp} {Q : Option Value → Hp → Prop} : Run 151 155 lo st h Q = Cnt 151 Q (xo_iload 7 157 lo st h) := run_s rfl
theorem rq_X10_goesThrough_157 {lo : Lo} {st : List Value} {h : Hp} {Q : Option Value → Hp → Prop} : Run 151 157 lo st h Q = Cnt 151 Q (xo_if2 (fun x y => decide (¬ x = y)) 164 160 lo st h) := run_s rfl
theorem rq_X10_goesThrough_160 {lo : Lo} {st : List Value} {h : Hp} {Q : Option Value → Hp → Prop} : Run 151 160 lo st h Q = Cnt 151 Q (xo_const (.int 1) 161 lo st h) := run_s rfl
theorem rq_X10_goesThrough_161 {lo : Lo} {st : List Value} {h : Hp} {Q : Option Value → Hp → Prop} : Run 151 161 lo st h Q = Cnt 151 Q (xo_goto 165 lo st h) := run_s rfl
theorem rq_X10_goesThrough_164 {lo : Lo} {st : List Value} {h : Hp} {Q : Option Value → Hp → Prop} : Run 151 164 lo st h Q = Cnt 151 Q (xo_const (.int 0) 165 lo st h) := run_s rfl
theorem rq_X10_goesThrough_165 {lo : Lo} {st : List Value} {h : Hp} {Q : Option Value → Hp → Prop} : Run 151 165 lo st h Q = Cnt 151 Q (xo_istore 11 167 lo st h) := run_s rfl
theorem rq_X10_goesThrough_167 {lo : Lo} {st : List Value} {h : Hp} {Q : Option Value → Hp → Prop} : Run 151 167 lo st h Q = Cnt 151 Q (xo_iload 11 169 lo st h) := run_s rfl
theorem rq_X10_goesThrough_169 {lo : Lo} {st : List Value} {h : Hp} {Q : Option Value → Hp → Prop} : Run 151 169 lo st h Q = Cnt 151 Q (xo_if1 (fun x => decide (x = 0)) 235 172 lo st h) := run_s rfl
theorem rq_X10_goesThrough_172 {lo : Lo} {st : List Value} {h : Hp} {Q : Option Value → Hp → Prop} : Run 151 172 lo st h Q = Cnt 151 Q (xo_aload 0 173 lo st h) := run_s rfl
theorem rq_X10_goesThrough_173 {lo : Lo} {st : List Value} {h : Hp} {Q : Option Value → Hp → Prop} : Run 151 173 lo st h Q = Cnt 151 Q (xo_getf 10 15 176 lo st h) := run_s rfl
theorem rq_X10_goesThrough_176 {lo : Lo} {st : List Value} {h : Hp} {Q : Option Value → Hp → Prop} : Run 151 176 lo st h Q = Cnt 151 Q (xo_const (.int 32) 178 lo st h) := run_s rfl
theorem rq_X10_goesThrough_178 {lo : Lo} {st : List Value} {h : Hp} {Q : Option Value → Hp → Prop} : Run 151 178 lo st h Q = Cnt 151 Q (xo_iload 10 180 lo st h) := run_s rfl
theorem rq_X10_goesThrough_180 {lo : Lo} {st : List Value} {h : Hp} {Q : Option Value → Hp → Prop} : Run 151 180 lo st h Q = Cnt 151 Q (xo_bin (fun x y => x * y) 181 lo st h) := run_s rfl
theorem rq_X10_goesThrough_181 {lo : Lo} {st : List Value} {h : Hp} {Q : Option Value → Hp → Prop} : Run 151 181 lo st h Q = Cnt 151 Q (xo_iload 9 183 lo st h) := run_s rfl
theorem rq_X10_goesThrough_183 {lo : Lo} {st : List Value} {h : Hp} {Q : Option Value → Hp → Prop} : Run 151 183 lo st h Q = Cnt 151 Q (xo_bin (fun x y => x + y) 184 lo st h) := run_s rfl
theorem rq_X10_goesThrough_184 {lo : Lo} {st : List Value} {h : Hp} {Q : Option Value → Hp → Prop} : Run 151 184 lo st h Q = Cnt 151 Q (xo_zald 185 lo st h) := run_s rfl
theorem rq_X10_goesThrough_185 {lo : Lo} {st : List Value} {h : Hp} {Q : Option Value → Hp → Prop} : Run 151 185 lo st h Q = Cnt 151 Q (xo_if1 (fun x => decide (¬ x = 0)) 235 188 lo st h) := run_s rfl
theorem rq_X10_goesThrough_188 {lo : Lo} {st : List Value} {h : Hp} {Q : Option Value → Hp → Prop} : Run 151 188 lo st h Q = Cnt 151 Q (xo_aload 0 189 lo st h) := run_s rfl
theorem rq_X10_goesThrough_189 {lo : Lo} {st : List Value} {h : Hp} {Q : Option Value → Hp → Prop} : Run 151 189 lo st h Q = Cnt 151 Q (xo_const (.int 32) 191 lo st h) := run_s rfl
theorem rq_X10_goesThrough_191 {lo : Lo} {st : List Value} {h : Hp} {Q : Option Value → Hp → Prop} : Run 151 191 lo st h Q = Cnt 151 Q (xo_iload 10 193 lo st h) := run_s rfl
theorem rq_X10_goesThrough_193 {lo : Lo} {st : List Value} {h : Hp} {Q : Option Value → Hp → Prop} : Run 151 193 lo st h Q = Cnt 151 Q (xo_bin (fun x y => x * y) 194 lo st h) := run_s rfl
theorem rq_X10_goesThrough_194 {lo : Lo} {st : List Value} {h : Hp} {Q : Option Value → Hp → Prop} : Run 151 194 lo st h Q = Cnt 151 Q (xo_iload 9 196 lo st h) := run_s rfl
theorem rq_X10_goesThrough_196 {lo : Lo} {st : List Value} {h : Hp} {Q : Option Value → Hp → Prop} : Run 151 196 lo st h Q = Cnt 151 Q (xo_bin (fun x y => x + y) 197 lo st h) := run_s rfl
theorem rq_X10_goesThrough_197 {lo : Lo} {st : List Value} {h : Hp} {Q : Option Value → Hp → Prop} : Run 151 197 lo st h Q = CCall 150 2 (some 10) st h (Knt 151 200 lo (st.drop 2) Q) := run_c rfl
theorem rq_X10_goesThrough_200 {lo : Lo} {st : List Value} {h : Hp} {Q : Option Value → Hp → Prop} : Run 151 200 lo st h Q = Cnt 151 Q (xo_iload 2 201 lo st h) := run_s rfl
theorem rq_X10_goesThrough_201 {lo : Lo} {st : List Value} {h : Hp} {Q : Option Value → Hp → Prop} : Run 151 201 lo st h Q = Cnt 151 Q (xo_if2 (fun x y => decide (¬ x = y)) 235 204 lo st h) := run_s rfl
theorem rq_X10_goesThrough_204 {lo : Lo} {st : List Value} {h : Hp} {Q : Option Value → Hp → Prop} : Run 151 204 lo st h Q = Cnt 151 Q (xo_aload 0 205 lo st h) := run_s rfl
theorem rq_X10_goesThrough_205 {lo : Lo} {st : List Value} {h : Hp} {Q : Option Value → Hp → Prop} : Run 151 205 lo st h Q = Cnt 151 Q (xo_getf 10 15 208 lo st h) := run_s rfl
theorem rq_X10_goesThrough_208 {lo : Lo} {st : List Value} {h : Hp} {Q : Option Value → Hp → Prop} : Run 151 208 lo st h Q = Cnt 151 Q (xo_const (.int 32) 210 lo st h) := run_s rfl
theorem rq_X10_goesThrough_210 {lo : Lo} {st : List Value} {h : Hp} {Q : Option Value → Hp → Prop} : Run 151 210 lo st h Q = Cnt 151 Q (xo_iload 10 212 lo st h) := run_s rfl
theorem rq_X10_goesThrough_212 {lo : Lo} {st : List Value} {h : Hp} {Q : Option Value → Hp → Prop} : Run 151 212 lo st h Q = Cnt 151 Q (xo_bin (fun x y => x * y) 213 lo st h) := run_s rfl
theorem rq_X10_goesThrough_213 {lo : Lo} {st : List Value} {h : Hp} {Q : Option Value → Hp → Prop} : Run 151 213 lo st h Q = Cnt 151 Q (xo_iload 9 215 lo st h) := run_s rfl
theorem rq_X10_goesThrough_215 {lo : Lo} {st : List Value} {h : Hp} {Q : Option Value → Hp → Prop} : Run 151 215 lo st h Q = Cnt 151 Q (xo_bin (fun x y => x + y) 216 lo st h) := run_s rfl
theorem rq_X10_goesThrough_216 {lo : Lo} {st : List Value} {h : Hp} {Q : Option Value → Hp → Prop} : Run 151 216 lo st h Q = Cnt 151 Q (xo_const (.int 1) 217 lo st h) := run_s rfl
theorem rq_X10_goesThrough_217 {lo : Lo} {st : List Value} {h : Hp} {Q : Option Value → Hp → Prop} : Run 151 217 lo st h Q = Cnt 151 Q (xo_zast 218 lo st h) := run_s rfl
theorem rq_X10_goesThrough_218 {lo : Lo} {st : List Value} {h : Hp} {Q : Option Value → Hp → Prop} : Run 151 218 lo st h Q = Cnt 151 Q (xo_aload 0 219 lo st h) := run_s rfl
theorem rq_X10_goesThrough_219 {lo : Lo} {st : List Value} {h : Hp} {Q : Option Value → Hp → Prop} : Run 151 219 lo st h Q = Cnt 151 Q (xo_getf 10 14 222 lo st h) := run_s rfl
theorem rq_X10_goesThrough_222 {lo : Lo} {st : List Value} {h : Hp} {Q : Option Value → Hp → Prop} : Run 151 222 lo st h Q = Cnt 151 Q (xo_iload 3 223 lo st h) := run_s rfl
theorem rq_X10_goesThrough_223 {lo : Lo} {st : List Value} {h : Hp} {Q : Option Value → Hp → Prop} : Run 151 223 lo st h Q = Cnt 151 Q (xo_const (.int 32) 225 lo st h) := run_s rfl
theorem rq_X10_goesThrough_225 {lo : Lo} {st : List Value} {h : Hp} {Q : Option Value → Hp → Prop} : Run 151 225 lo st h Q = Cnt 151 Q (xo_iload 10 227 lo st h) := run_s rfl
theorem rq_X10_goesThrough_227 {lo : Lo} {st : List Value} {h : Hp} {Q : Option Value → Hp → Prop} : Run 151 227 lo st h Q = Cnt 151 Q (xo_bin (fun x y => x * y) 228 lo st h) := run_s rfl
theorem rq_X10_goesThrough_228 {lo : Lo} {st : List Value} {h : Hp} {Q : Option Value → Hp → Prop} : Run 151 228 lo st h Q = Cnt 151 Q (xo_iload 9 230 lo st h) := run_s rfl
theorem rq_X10_goesThrough_230 {lo : Lo} {st : List Value} {h : Hp} {Q : Option Value → Hp → Prop} : Run 151 230 lo st h Q = Cnt 151 Q (xo_bin (fun x y => x + y) 231 lo st h) := run_s rfl
theorem rq_X10_goesThrough_231 {lo : Lo} {st : List Value} {h : Hp} {Q : Option Value → Hp → Prop} : Run 151 231 lo st h Q = Cnt 151 Q (xo_iast 232 lo st h) := run_s rfl
theorem rq_X10_goesThrough_232 {lo : Lo} {st : List Value} {h : Hp} {Q : Option Value → Hp → Prop} : Run 151 232 lo st h Q = Cnt 151 Q (xo_iinc 3 1 235 lo st h) := run_s rfl
theorem rq_X10_goesThrough_235 {lo : Lo} {st : List Value} {h : Hp} {Q : Option Value → Hp → Prop} : Run 151 235 lo st h Q = Cnt 151 Q (xo_iinc 8 1 238 lo st h) := run_s rfl
theorem rq_X10_goesThrough_238 {lo : Lo} {st : List Value} {h : Hp} {Q : Option Value → Hp → Prop} : Run 151 238 lo st h Q = Cnt 151 Q (xo_goto 91 lo st h) := run_s rfl
theorem rq_X10_goesThrough_241 {lo : Lo} {st : List Value} {h : Hp} {Q : Option Value → Hp → Prop} : Run 151 241 lo st h Q = Cnt 151 Q (xo_iinc 5 1 244 lo st h) := run_s rfl
theorem rq_X10_goesThrough_244 {lo : Lo} {st : List Value} {h : Hp} {Q : Option Value → Hp → Prop} : Run 151 244 lo st h Q = Cnt 151 Q (xo_goto 22 lo st h) := run_s rfl
theorem rq_X10_goesThrough_247 {lo : Lo} {st : List Value} {h : Hp} {Q : Option Value → Hp → Prop} : Run 151 247 lo st h Q = Cnt 151 Q (xo_iload 4 249 lo st h) := run_s rfl
theorem rq_X10_goesThrough_249 {lo : Lo} {st : List Value} {h : Hp} {Q : Option Value → Hp → Prop} : Run 151 249 lo st h Q = Cnt 151 Q (xo_zret lo st h) := run_s rfl
theorem rq_X10_piecesOf_0 {lo : Lo} {st : List Value} {h : Hp} {Q : Option Value → Hp → Prop} : Run 152 0 lo st h Q = Cnt 152 Q (xo_const (.int 0) 1 lo st h) := run_s rfl
theorem rq_X10_piecesOf_1 {lo : Lo} {st : List Value} {h : Hp} {Q : Option Value → Hp → Prop} : Run 152 1 lo st h Q = Cnt 152 Q (xo_istore 2 2 lo st h) := run_s rfl
theorem rq_X10_piecesOf_2 {lo : Lo} {st : List Value} {h : Hp} {Q : Option Value → Hp → Prop} : Run 152 2 lo st h Q = Cnt 152 Q (xo_iload 2 3 lo st h) := run_s rfl
theorem rq_X10_piecesOf_3 {lo : Lo} {st : List Value} {h : Hp} {Q : Option Value → Hp → Prop} : Run 152 3 lo st h Q = Cnt 152 Q (xo_const (.int 1024) 6 lo st h) := run_s rfl
theorem rq_X10_piecesOf_6 {lo : Lo} {st : List Value} {h : Hp} {Q : Option Value → Hp → Prop} : Run 152 6 lo st h Q = Cnt 152 Q (xo_if2 (fun x y => decide (x ≥ y)) 22 9 lo st h) := run_s rfl
theorem rq_X10_piecesOf_9 {lo : Lo} {st : List Value} {h : Hp} {Q : Option Value → Hp → Prop} : Run 152 9 lo st h Q = Cnt 152 Q (xo_aload 0 10 lo st h) := run_s rfl
theorem rq_X10_piecesOf_10 {lo : Lo} {st : List Value} {h : Hp} {Q : Option Value → Hp → Prop} : Run 152 10 lo st h Q = Cnt 152 Q (xo_getf 10 15 13 lo st h) := run_s rfl
theorem rq_X10_piecesOf_13 {lo : Lo} {st : List Value} {h : Hp} {Q : Option Value → Hp → Prop} : Run 152 13 lo st h Q = Cnt 152 Q (xo_iload 2 14 lo st h) := run_s rfl
theorem rq_X10_piecesOf_14 {lo : Lo} {st : List Value} {h : Hp} {Q : Option Value → Hp → Prop} : Run 152 14 lo st h Q = Cnt 152 Q (xo_const (.int 0) 15 lo st h) := run_s rfl
theorem rq_X10_piecesOf_15 {lo : Lo} {st : List Value} {h : Hp} {Q : Option Value → Hp → Prop} : Run 152 15 lo st h Q = Cnt 152 Q (xo_zast 16 lo st h) := run_s rfl
theorem rq_X10_piecesOf_16 {lo : Lo} {st : List Value} {h : Hp} {Q : Option Value → Hp → Prop} : Run 152 16 lo st h Q = Cnt 152 Q (xo_iinc 2 1 19 lo st h) := run_s rfl
theorem rq_X10_piecesOf_19 {lo : Lo} {st : List Value} {h : Hp} {Q : Option Value → Hp → Prop} : Run 152 19 lo st h Q = Cnt 152 Q (xo_goto 2 lo st h) := run_s rfl
theorem rq_X10_piecesOf_22 {lo : Lo} {st : List Value} {h : Hp} {Q : Option Value → Hp → Prop} : Run 152 22 lo st h Q = Cnt 152 Q (xo_const (.int 0) 23 lo st h) := run_s rfl
theorem rq_X10_piecesOf_23 {lo : Lo} {st : List Value} {h : Hp} {Q : Option Value → Hp → Prop} : Run 152 23 lo st h Q = Cnt 152 Q (xo_istore 2 24 lo st h) := run_s rfl
theorem rq_X10_piecesOf_24 {lo : Lo} {st : List Value} {h : Hp} {Q : Option Value → Hp → Prop} : Run 152 24 lo st h Q = Cnt 152 Q (xo_const (.int 0) 25 lo st h) := run_s rfl
theorem rq_X10_piecesOf_25 {lo : Lo} {st : List Value} {h : Hp} {Q : Option Value → Hp → Prop} : Run 152 25 lo st h Q = Cnt 152 Q (xo_istore 3 26 lo st h) := run_s rfl
theorem rq_X10_piecesOf_26 {lo : Lo} {st : List Value} {h : Hp} {Q : Option Value → Hp → Prop} : Run 152 26 lo st h Q = Cnt 152 Q (xo_iload 3 27 lo st h) := run_s rfl
theorem rq_X10_piecesOf_27 {lo : Lo} {st : List Value} {h : Hp} {Q : Option Value → Hp → Prop} : Run 152 27 lo st h Q = Cnt 152 Q (xo_const (.int 1024) 30 lo st h) := run_s rfl
theorem rq_X10_piecesOf_30 {lo : Lo} {st : List Value} {h : Hp} {Q : Option Value → Hp → Prop} : Run 152 30 lo st h Q = Cnt 152 Q (xo_if2 (fun x y => decide (x ≥ y)) 82 33 lo st h) := run_s rfl
theorem rq_X10_piecesOf_33 {lo : Lo} {st : List Value} {h : Hp} {Q : Option Value → Hp → Prop} : Run 152 33 lo st h Q = Cnt 152 Q (xo_aload 0 34 lo st h) := run_s rfl
theorem rq_X10_piecesOf_34 {lo : Lo} {st : List Value} {h : Hp} {Q : Option Value → Hp → Prop} : Run 152 34 lo st h Q = Cnt 152 Q (xo_getf 10 15 37 lo st h) := run_s rfl
theorem rq_X10_piecesOf_37 {lo : Lo} {st : List Value} {h : Hp} {Q : Option Value → Hp → Prop} : Run 152 37 lo st h Q = Cnt 152 Q (xo_iload 3 38 lo st h) := run_s rfl
theorem rq_X10_piecesOf_38 {lo : Lo} {st : List Value} {h : Hp} {Q : Option Value → Hp → Prop} : Run 152 38 lo st h Q = Cnt 152 Q (xo_zald 39 lo st h) := run_s rfl
theorem rq_X10_piecesOf_39 {lo : Lo} {st : List Value} {h : Hp} {Q : Option Value → Hp → Prop} : Run 152 39 lo st h Q = Cnt 152 Q (xo_if1 (fun x => decide (¬ x = 0)) 76 42 lo st h) := run_s rfl
theorem rq_X10_piecesOf_42 {lo : Lo} {st : List Value} {h : Hp} {Q : Option Value → Hp → Prop} : Run 152 42 lo st h Q = Cnt 152 Q (xo_aload 0 43 lo st h) := run_s rfl
theorem rq_X10_piecesOf_43 {lo : Lo} {st : List Value} {h : Hp} {Q : Option Value → Hp → Prop} : Run 152 43 lo st h Q = Cnt 152 Q (xo_iload 3 44 lo st h) := run_s rfl
theorem rq_X10_piecesOf_44 {lo : Lo} {st : List Value} {h : Hp} {Q : Option Value → Hp → Prop} : Run 152 44 lo st h Q = CCall 150 2 (some 10) st h (Knt 152 47 lo (st.drop 2) Q) := run_c rfl
theorem rq_X10_piecesOf_47 {lo : Lo} {st : List Value} {h : Hp} {Q : Option Value → Hp → Prop} : Run 152 47 lo st h Q = Cnt 152 Q (xo_iload 1 48 lo st h) := run_s rfl
theorem rq_X10_piecesOf_48 {lo : Lo} {st : List Value} {h : Hp} {Q : Option Value → Hp → Prop} : Run 152 48 lo st h Q = Cnt 152 Q (xo_if2 (fun x y => decide (¬ x = y)) 76 51 lo st h) := run_s rfl
theorem rq_X10_piecesOf_51 {lo : Lo} {st : List Value} {h : Hp} {Q : Option Value → Hp → Prop} : Run 152 51 lo st h Q = Cnt 152 Q (xo_aload 0 52 lo st h) := run_s rfl
theorem rq_X10_piecesOf_52 {lo : Lo} {st : List Value} {h : Hp} {Q : Option Value → Hp → Prop} : Run 152 52 lo st h Q = Cnt 152 Q (xo_iload 3 53 lo st h) := run_s rfl
theorem rq_X10_piecesOf_53 {lo : Lo} {st : List Value} {h : Hp} {Q : Option Value → Hp → Prop} : Run 152 53 lo st h Q = Cnt 152 Q (xo_iload 1 54 lo st h) := run_s rfl
theorem rq_X10_piecesOf_54 {lo : Lo} {st : List Value} {h : Hp} {Q : Option Value → Hp → Prop} : Run 152 54 lo st h Q = CCall 151 3 (some 10) st h (Knt 152 57 lo (st.drop 3) Q) := run_c rfl
theorem rq_X10_piecesOf_57 {lo : Lo} {st : List Value} {h : Hp} {Q : Option Value → Hp → Prop} : Run 152 57 lo st h Q = Cnt 152 Q (xo_istore 4 59 lo st h) := run_s rfl
theorem rq_X10_piecesOf_59 {lo : Lo} {st : List Value} {h : Hp} {Q : Option Value → Hp → Prop} : Run 152 59 lo st h Q = Cnt 152 Q (xo_iload 2 60 lo st h) := run_s rfl
theorem rq_X10_piecesOf_60 {lo : Lo} {st : List Value} {h : Hp} {Q : Option Value → Hp → Prop} : Run 152 60 lo st h Q = Cnt 152 Q (xo_iload 1 61 lo st h) := run_s rfl
theorem rq_X10_piecesOf_61 {lo : Lo} {st : List Value} {h : Hp} {Q : Option Value → Hp → Prop} : Run 152 61 lo st h Q = Cnt 152 Q (xo_if1 (fun x => decide (¬ x = 0)) 69 64 lo st h) := run_s rfl
theorem rq_X10_piecesOf_64 {lo : Lo} {st : List Value} {h : Hp} {Q : Option Value → Hp → Prop} : Run 152 64 lo st h Q = Cnt 152 Q (xo_iload 4 66 lo st h) := run_s rfl
theorem rq_X10_piecesOf_66 {lo : Lo} {st : List Value} {h : Hp} {Q : Option Value → Hp → Prop} : Run 152 66 lo st h Q = Cnt 152 Q (xo_if1 (fun x => decide (¬ x = 0)) 73 69 lo st h) := run_s rfl
theorem rq_X10_piecesOf_69 {lo : Lo} {st : List Value} {h : Hp} {Q : Option Value → Hp → Prop} : Run 152 69 lo st h Q = Cnt 152 Q (xo_const (.int 1) 70 lo st h) := run_s rfl
theorem rq_X10_piecesOf_70 {lo : Lo} {st : List Value} {h : Hp} {Q : Option Value → Hp → Prop} : Run 152 70 lo st h Q = Cnt 152 Q (xo_goto 74 lo st h) := run_s rfl
theorem rq_X10_piecesOf_73 {lo : Lo} {st : List Value} {h : Hp} {Q : Option Value → Hp → Prop} : Run 152 73 lo st h Q = Cnt 152 Q (xo_const (.int 0) 74 lo st h) := run_s rfl
theorem rq_X10_piecesOf_74 {lo : Lo} {st : List Value} {h : Hp} {Q : Option Value → Hp → Prop} : Run 152 74 lo st h Q = Cnt 152 Q (xo_bin (fun x y => x + y) 75 lo st h) := run_s rfl
theorem rq_X10_piecesOf_75 {lo : Lo} {st : List Value} {h : Hp} {Q : Option Value → Hp → Prop} : Run 152 75 lo st h Q = Cnt 152 Q (xo_istore 2 76 lo st h) := run_s rfl
theorem rq_X10_piecesOf_76 {lo : Lo} {st : List Value} {h : Hp} {Q : Option Value → Hp → Prop} : Run 152 76 lo st h Q = Cnt 152 Q (xo_iinc 3 1 79 lo st h) := run_s rfl
theorem rq_X10_piecesOf_79 {lo : Lo} {st : List Value} {h : Hp} {Q : Option Value → Hp → Prop} : Run 152 79 lo st h Q = Cnt 152 Q (xo_goto 26 lo st h) := run_s rfl
theorem rq_X10_piecesOf_82 {lo : Lo} {st : List Value} {h : Hp} {Q : Option Value → Hp → Prop} : Run 152 82 lo st h Q = Cnt 152 Q (xo_iload 2 83 lo st h) := run_s rfl
theorem rq_X10_piecesOf_83 {lo : Lo} {st : List Value} {h : Hp} {Q : Option Value → Hp → Prop} : Run 152 83 lo st h Q = Cnt 152 Q (xo_iret lo st h) := run_s rfl
theorem rq_X10_pieces_0 {lo : Lo} {st : List Value} {h : Hp} {Q : Option Value → Hp → Prop} : Run 153 0 lo st h Q = Cnt 153 Q (xo_iload 1 1 lo st h) := run_s rfl
theorem rq_X10_pieces_1 {lo : Lo} {st : List Value} {h : Hp} {Q : Option Value → Hp → Prop} : Run 153 1 lo st h Q = Cnt 153 Q (xo_const (.int 0) 2 lo st h) := run_s rfl
theorem rq_X10_pieces_2 {lo : Lo} {st : List Value} {h : Hp} {Q : Option Value → Hp → Prop} : Run 153 2 lo st h Q = Cnt 153 Q (xo_const (.int 1) 3 lo st h) := run_s rfl
theorem rq_X10_pieces_3 {lo : Lo} {st : List Value} {h : Hp} {Q : Option Value → Hp → Prop} : Run 153 3 lo st h Q = CCall 111 3 none st h (Knt 153 6 lo (st.drop 3) Q) := run_c rfl
theorem rq_X10_pieces_6 {lo : Lo} {st : List Value} {h : Hp} {Q : Option Value → Hp → Prop} : Run 153 6 lo st h Q = Cnt 153 Q (xo_if1 (fun x => decide (¬ x = 0)) 12 9 lo st h) := run_s rfl
theorem rq_X10_pieces_9 {lo : Lo} {st : List Value} {h : Hp} {Q : Option Value → Hp → Prop} : Run 153 9 lo st h Q = Cnt 153 Q (xo_const (.int (-2)) 11 lo st h) := run_s rfl
theorem rq_X10_pieces_11 {lo : Lo} {st : List Value} {h : Hp} {Q : Option Value → Hp → Prop} : Run 153 11 lo st h Q = Cnt 153 Q (xo_iret lo st h) := run_s rfl
theorem rq_X10_pieces_12 {lo : Lo} {st : List Value} {h : Hp} {Q : Option Value → Hp → Prop} : Run 153 12 lo st h Q = Cnt 153 Q (xo_aload 0 13 lo st h) := run_s rfl
theorem rq_X10_pieces_13 {lo : Lo} {st : List Value} {h : Hp} {Q : Option Value → Hp → Prop} : Run 153 13 lo st h Q = Cnt 153 Q (xo_const (.int 26) 15 lo st h) := run_s rfl
theorem rq_X10_pieces_15 {lo : Lo} {st : List Value} {h : Hp} {Q : Option Value → Hp → Prop} : Run 153 15 lo st h Q = CCall 127 2 (some 10) st h (Knt 153 18 lo (st.drop 2) Q) := run_c rfl
theorem rq_X10_pieces_18 {lo : Lo} {st : List Value} {h : Hp} {Q : Option Value → Hp → Prop} : Run 153 18 lo st h Q = Cnt 153 Q (xo_aload 0 19 lo st h) := run_s rfl
theorem rq_X10_pieces_19 {lo : Lo} {st : List Value} {h : Hp} {Q : Option Value → Hp → Prop} : Run 153 19 lo st h Q = Cnt 153 Q (xo_iload 1 20 lo st h) := run_s rfl
theorem rq_X10_pieces_20 {lo : Lo} {st : List Value} {h : Hp} {Q : Option Value → Hp → Prop} : Run 153 20 lo st h Q = Cnt 153 Q (xo_if1 (fun x => decide (¬ x = 0)) 27 23 lo st h) := run_s rfl
theorem rq_X10_pieces_23 {lo : Lo} {st : List Value} {h : Hp} {Q : Option Value → Hp → Prop} : Run 153 23 lo st h Q = Cnt 153 Q (xo_const (.int 1) 24 lo st h) := run_s rfl
theorem rq_X10_pieces_24 {lo : Lo} {st : List Value} {h : Hp} {Q : Option Value → Hp → Prop} : Run 153 24 lo st h Q = Cnt 153 Q (xo_goto 28 lo st h) := run_s rfl
theorem rq_X10_pieces_27 {lo : Lo} {st : List Value} {h : Hp} {Q : Option Value → Hp → Prop} : Run 153 27 lo st h Q = Cnt 153 Q (xo_const (.int 0) 28 lo st h) := run_s rfl
theorem rq_X10_pieces_28 {lo : Lo} {st : List Value} {h : Hp} {Q : Option Value → Hp → Prop} : Run 153 28 lo st h Q = CCall 152 2 (some 10) st h (Knt 153 31 lo (st.drop 2) Q) := run_c rfl
theorem rq_X10_pieces_31 {lo : Lo} {st : List Value} {h : Hp} {Q : Option Value → Hp → Prop} : Run 153 31 lo st h Q = Cnt 153 Q (xo_iret lo st h) := run_s rfl
theorem rq_X10_isLetter_0 {lo : Lo} {st : List Value} {h : Hp} {Q : Option Value → Hp → Prop} : Run 154 0 lo st h Q = Cnt 154 Q (xo_iload 1 1 lo st h) := run_s rfl
theorem rq_X10_isLetter_1 {lo : Lo} {st : List Value} {h : Hp} {Q : Option Value → Hp → Prop} : Run 154 1 lo st h Q = Cnt 154 Q (xo_const (.int 0) 2 lo st h) := run_s rfl
theorem rq_X10_isLetter_2 {lo : Lo} {st : List Value} {h : Hp} {Q : Option Value → Hp → Prop} : Run 154 2 lo st h Q = Cnt 154 Q (xo_const (.int 25) 4 lo st h) := run_s rfl
theorem rq_X10_isLetter_4 {lo : Lo} {st : List Value} {h : Hp} {Q : Option Value → Hp → Prop} : Run 154 4 lo st h Q = CCall 111 3 none st h (Knt 154 7 lo (st.drop 3) Q) := run_c rfl
theorem rq_X10_isLetter_7 {lo : Lo} {st : List Value} {h : Hp} {Q : Option Value → Hp → Prop} : Run 154 7 lo st h Q = Cnt 154 Q (xo_if1 (fun x => decide (x = 0)) 23 10 lo st h) := run_s rfl
theorem rq_X10_isLetter_10 {lo : Lo} {st : List Value} {h : Hp} {Q : Option Value → Hp → Prop} : Run 154 10 lo st h Q = Cnt 154 Q (xo_aload 0 11 lo st h) := run_s rfl
theorem rq_X10_isLetter_11 {lo : Lo} {st : List Value} {h : Hp} {Q : Option Value → Hp → Prop} : Run 154 11 lo st h Q = Cnt 154 Q (xo_getf 10 5 14 lo st h) := run_s rfl
theorem rq_X10_isLetter_14 {lo : Lo} {st : List Value} {h : Hp} {Q : Option Value → Hp → Prop} : Run 154 14 lo st h Q = Cnt 154 Q (xo_iload 1 15 lo st h) := run_s rfl
theorem rq_X10_isLetter_15 {lo : Lo} {st : List Value} {h : Hp} {Q : Option Value → Hp → Prop} : Run 154 15 lo st h Q = Cnt 154 Q (xo_iald 16 lo st h) := run_s rfl
theorem rq_X10_isLetter_16 {lo : Lo} {st : List Value} {h : Hp} {Q : Option Value → Hp → Prop} : Run 154 16 lo st h Q = Cnt 154 Q (xo_if1 (fun x => decide (x ≤ 0)) 23 19 lo st h) := run_s rfl
theorem rq_X10_isLetter_19 {lo : Lo} {st : List Value} {h : Hp} {Q : Option Value → Hp → Prop} : Run 154 19 lo st h Q = Cnt 154 Q (xo_const (.int 1) 20 lo st h) := run_s rfl
theorem rq_X10_isLetter_20 {lo : Lo} {st : List Value} {h : Hp} {Q : Option Value → Hp → Prop} : Run 154 20 lo st h Q = Cnt 154 Q (xo_goto 24 lo st h) := run_s rfl
theorem rq_X10_isLetter_23 {lo : Lo} {st : List Value} {h : Hp} {Q : Option Value → Hp → Prop} : Run 154 23 lo st h Q = Cnt 154 Q (xo_const (.int 0) 24 lo st h) := run_s rfl
theorem rq_X10_isLetter_24 {lo : Lo} {st : List Value} {h : Hp} {Q : Option Value → Hp → Prop} : Run 154 24 lo st h Q = Cnt 154 Q (xo_zret lo st h) := run_s rfl
theorem rq_X10_letters_0 {lo : Lo} {st : List Value} {h : Hp} {Q : Option Value → Hp → Prop} : Run 155 0 lo st h Q = Cnt 155 Q (xo_const (.int 0) 1 lo st h) := run_s rfl
theorem rq_X10_letters_1 {lo : Lo} {st : List Value} {h : Hp} {Q : Option Value → Hp → Prop} : Run 155 1 lo st h Q = Cnt 155 Q (xo_istore 1 2 lo st h) := run_s rfl
theorem rq_X10_letters_2 {lo : Lo} {st : List Value} {h : Hp} {Q : Option Value → Hp → Prop} : Run 155 2 lo st h Q = Cnt 155 Q (xo_const (.int 0) 3 lo st h) := run_s rfl
theorem rq_X10_letters_3 {lo : Lo} {st : List Value} {h : Hp} {Q : Option Value → Hp → Prop} : Run 155 3 lo st h Q = Cnt 155 Q (xo_istore 2 4 lo st h) := run_s rfl
theorem rq_X10_letters_4 {lo : Lo} {st : List Value} {h : Hp} {Q : Option Value → Hp → Prop} : Run 155 4 lo st h Q = Cnt 155 Q (xo_iload 2 5 lo st h) := run_s rfl
theorem rq_X10_letters_5 {lo : Lo} {st : List Value} {h : Hp} {Q : Option Value → Hp → Prop} : Run 155 5 lo st h Q = Cnt 155 Q (xo_const (.int 26) 7 lo st h) := run_s rfl
theorem rq_X10_letters_7 {lo : Lo} {st : List Value} {h : Hp} {Q : Option Value → Hp → Prop} : Run 155 7 lo st h Q = Cnt 155 Q (xo_if2 (fun x y => decide (x ≥ y)) 32 10 lo st h) := run_s rfl
theorem rq_X10_letters_10 {lo : Lo} {st : List Value} {h : Hp} {Q : Option Value → Hp → Prop} : Run 155 10 lo st h Q = Cnt 155 Q (xo_iload 1 11 lo st h) := run_s rfl
theorem rq_X10_letters_11 {lo : Lo} {st : List Value} {h : Hp} {Q : Option Value → Hp → Prop} : Run 155 11 lo st h Q = Cnt 155 Q (xo_aload 0 12 lo st h) := run_s rfl
theorem rq_X10_letters_12 {lo : Lo} {st : List Value} {h : Hp} {Q : Option Value → Hp → Prop} : Run 155 12 lo st h Q = Cnt 155 Q (xo_iload 2 13 lo st h) := run_s rfl
theorem rq_X10_letters_13 {lo : Lo} {st : List Value} {h : Hp} {Q : Option Value → Hp → Prop} : Run 155 13 lo st h Q = CCall 154 2 (some 10) st h (Knt 155 16 lo (st.drop 2) Q) := run_c rfl
theorem rq_X10_letters_16 {lo : Lo} {st : List Value} {h : Hp} {Q : Option Value → Hp → Prop} : Run 155 16 lo st h Q = Cnt 155 Q (xo_if1 (fun x => decide (x = 0)) 23 19 lo st h) := run_s rfl
theorem rq_X10_letters_19 {lo : Lo} {st : List Value} {h : Hp} {Q : Option Value → Hp → Prop} : Run 155 19 lo st h Q = Cnt 155 Q (xo_const (.int 1) 20 lo st h) := run_s rfl
theorem rq_X10_letters_20 {lo : Lo} {st : List Value} {h : Hp} {Q : Option Value → Hp → Prop} : Run 155 20 lo st h Q = Cnt 155 Q (xo_goto 24 lo st h) := run_s rfl
theorem rq_X10_letters_23 {lo : Lo} {st : List Value} {h : Hp} {Q : Option Value → Hp → Prop} : Run 155 23 lo st h Q = Cnt 155 Q (xo_const (.int 0) 24 lo st h) := run_s rfl
theorem rq_X10_letters_24 {lo : Lo} {st : List Value} {h : Hp} {Q : Option Value → Hp → Prop} : Run 155 24 lo st h Q = Cnt 155 Q (xo_bin (fun x y => x + y) 25 lo st h) := run_s rfl
theorem rq_X10_letters_25 {lo : Lo} {st : List Value} {h : Hp} {Q : Option Value → Hp → Prop} : Run 155 25 lo st h Q = Cnt 155 Q (xo_istore 1 26 lo st h) := run_s rfl
theorem rq_X10_letters_26 {lo : Lo} {st : List Value} {h : Hp} {Q : Option Value → Hp → Prop} : Run 155 26 lo st h Q = Cnt 155 Q (xo_iinc 2 1 29 lo st h) := run_s rfl
theorem rq_X10_letters_29 {lo : Lo} {st : List Value} {h : Hp} {Q : Option Value → Hp → Prop} : Run 155 29 lo st h Q = Cnt 155 Q (xo_goto 4 lo st h) := run_s rfl
theorem rq_X10_letters_32 {lo : Lo} {st : List Value} {h : Hp} {Q : Option Value → Hp → Prop} : Run 155 32 lo st h Q = Cnt 155 Q (xo_iload 1 33 lo st h) := run_s rfl
theorem rq_X10_letters_33 {lo : Lo} {st : List Value} {h : Hp} {Q : Option Value → Hp → Prop} : Run 155 33 lo st h Q = Cnt 155 Q (xo_iret lo st h) := run_s rfl
theorem rq_X10_copies_0 {lo : Lo} {st : List Value} {h : Hp} {Q : Option Value → Hp → Prop} : Run 156 0 lo st h Q = Cnt 156 Q (xo_aload 0 1 lo st h) := run_s rfl
theorem rq_X10_copies_1 {lo : Lo} {st : List Value} {h : Hp} {Q : Option Value → Hp → Prop} : Run 156 1 lo st h Q = Cnt 156 Q (xo_getf 10 5 4 lo st h) := run_s rfl
theorem rq_X10_copies_4 {lo : Lo} {st : List Value} {h : Hp} {Q : Option Value → Hp → Prop} : Run 156 4 lo st h Q = Cnt 156 Q (xo_iload 2 5 lo st h) := run_s rfl
theorem rq_X10_copies_5 {lo : Lo} {st : List Value} {h : Hp} {Q : Option Value → Hp → Prop} : Run 156 5 lo st h Q = Cnt 156 Q (xo_aload 0 6 lo st h) := run_s rfl
theorem rq_X10_copies_6 {lo : Lo} {st : List Value} {h : Hp} {Q : Option Value → Hp → Prop} : Run 156 6 lo st h Q = Cnt 156 Q (xo_getf 10 5 9 lo st h) := run_s rfl
theorem rq_X10_copies_9 {lo : Lo} {st : List Value} {h : Hp} {Q : Option Value → Hp → Prop} : Run 156 9 lo st h Q = Cnt 156 Q (xo_iload 1 10 lo st h) := run_s rfl
theorem rq_X10_copies_10 {lo : Lo} {st : List Value} {h : Hp} {Q : Option Value → Hp → Prop} : Run 156 10 lo st h Q = Cnt 156 Q (xo_iald 11 lo st h) := run_s rfl
theorem rq_X10_copies_11 {lo : Lo} {st : List Value} {h : Hp} {Q : Option Value → Hp → Prop} : Run 156 11 lo st h Q = Cnt 156 Q (xo_iast 12 lo st h) := run_s rfl
theorem rq_X10_copies_12 {lo : Lo} {st : List Value} {h : Hp} {Q : Option Value → Hp → Prop} : Run 156 12 lo st h Q = Cnt 156 Q (xo_const (.int 0) 13 lo st h) := run_s rfl
theorem rq_X10_copies_13 {lo : Lo} {st : List Value} {h : Hp} {Q : Option Value → Hp → Prop} : Run 156 13 lo st h Q = Cnt 156 Q (xo_istore 3 14 lo st h) := run_s rfl
theorem rq_X10_copies_14 {lo : Lo} {st : List Value} {h : Hp} {Q : Option Value → Hp → Prop} : Run 156 14 lo st h Q = Cnt 156 Q (xo_iload 3 15 lo st h) := run_s rfl
theorem rq_X10_copies_15 {lo : Lo} {st : List Value} {h : Hp} {Q : Option Value → Hp → Prop} : Run 156 15 lo st h Q = Cnt 156 Q (xo_const (.int 6) 17 lo st h) := run_s rfl
theorem rq_X10_copies_17 {lo : Lo} {st : List Value} {h : Hp} {Q : Option Value → Hp → Prop} : Run 156 17 lo st h Q = Cnt 156 Q (xo_if2 (fun x y => decide (x ≥ y)) 92 20 lo st h) := run_s rfl
theorem rq_X10_copies_20 {lo : Lo} {st : List Value} {h : Hp} {Q : Option Value → Hp → Prop} : Run 156 20 lo st h Q = Cnt 156 Q (xo_aload 0 21 lo st h) := run_s rfl
theorem rq_X10_copies_21 {lo : Lo} {st : List Value} {h : Hp} {Q : Option Value → Hp → Prop} : Run 156 21 lo st h Q = Cnt 156 Q (xo_getf 10 6 24 lo st h) := run_s rfl
theorem rq_X10_copies_24 {lo : Lo} {st : List Value} {h : Hp} {Q : Option Value → Hp → Prop} : Run 156 24 lo st h Q = Cnt 156 Q (xo_const (.int 6) 26 lo st h) := run_s rfl
theorem rq_X10_copies_26 {lo : Lo} {st : List Value} {h : Hp} {Q : Option Value → Hp → Prop} : Run 156 26 lo st h Q = Cnt 156 Q (xo_iload 2 27 lo st h) := run_s rfl
theorem rq_X10_copies_27 {lo : Lo} {st : List Value} {h : Hp} {Q : Option Value → Hp → Prop} : Run 156 27 lo st h Q = Cnt 156 Q (xo_bin (fun x y => x * y) 28 lo st h) := run_s rfl
theorem rq_X10_copies_28 {lo : Lo} {st : List Value} {h : Hp} {Q : Option Value → Hp → Prop} : Run 156 28 lo st h Q = Cnt 156 Q (xo_iload 3 29 lo st h) := run_s rfl
theorem rq_X10_copies_29 {lo : Lo} {st : List Value} {h : Hp} {Q : Option Value → Hp → Prop} : Run 156 29 lo st h Q = Cnt 156 Q (xo_bin (fun x y => x + y) 30 lo st h) := run_s rfl
theorem rq_X10_copies_30 {lo : Lo} {st : List Value} {h : Hp} {Q : Option Value → Hp → Prop} : Run 156 30 lo st h Q = Cnt 156 Q (xo_aload 0 31 lo st h) := run_s rfl
theorem rq_X10_copies_31 {lo : Lo} {st : List Value} {h : Hp} {Q : Option Value → Hp → Prop} : Run 156 31 lo st h Q = Cnt 156 Q (xo_getf 10 6 34 lo st h) := run_s rfl
theorem rq_X10_copies_34 {lo : Lo} {st : List Value} {h : Hp} {Q : Option Value → Hp → Prop} : Run 156 34 lo st h Q = Cnt 156 Q (xo_const (.int 6) 36 lo st h) := run_s rfl
theorem rq_X10_copies_36 {lo : Lo} {st : List Value} {h : Hp} {Q : Option Value → Hp → Prop} : Run 156 36 lo st h Q = Cnt 156 Q (xo_iload 1 37 lo st h) := run_s rfl
theorem rq_X10_copies_37 {lo : Lo} {st : List Value} {h : Hp} {Q : Option Value → Hp → Prop} : Run 156 37 lo st h Q = Cnt 156 Q (xo_bin (fun x y => x * y) 38 lo st h) := run_s rfl
theorem rq_X10_copies_38 {lo : Lo} {st : List Value} {h : Hp} {Q : Option Value → Hp → Prop} : Run 156 38 lo st h Q = Cnt 156 Q (xo_iload 3 39 lo st h) := run_s rfl
theorem rq_X10_copies_39 {lo : Lo} {st : List Value} {h : Hp} {Q : Option Value → Hp → Prop} : Run 156 39 lo st h Q = Cnt 156 Q (xo_bin (fun x y => x + y) 40 lo st h) := run_s rfl
theorem rq_X10_copies_40 {lo : Lo} {st : List Value} {h : Hp} {Q : Option Value → Hp → Prop} : Run 156 40 lo st h Q = Cnt 156 Q (xo_iald 41 lo st h) := run_s rfl
theorem rq_X10_copies_41 {lo : Lo} {st : List Value} {h : Hp} {Q : Option Value → Hp → Prop} : Run 156 41 lo st h Q = Cnt 156 Q (xo_iast 42 lo st h) := run_s rfl
theorem rq_X10_copies_42 {lo : Lo} {st : List Value} {h : Hp} {Q : Option Value → Hp → Prop} : Run 156 42 lo st h Q = Cnt 156 Q (xo_aload 0 43 lo st h) := run_s rfl
theorem rq_X10_copies_43 {lo : Lo} {st : List Value} {h : Hp} {Q : Option Value → Hp → Prop} : Run 156 43 lo st h Q = Cnt 156 Q (xo_getf 10 7 46 lo st h) := run_s rfl
theorem rq_X10_copies_46 {lo : Lo} {st : List Value} {h : Hp} {Q : Option Value → Hp → Prop} : Run 156 46 lo st h Q = Cnt 156 Q (xo_const (.int 6) 48 lo st h) := run_s rfl
theorem rq_X10_copies_48 {lo : Lo} {st : List Value} {h : Hp} {Q : Option Value → Hp → Prop} : Run 156 48 lo st h Q = Cnt 156 Q (xo_iload 2 49 lo st h) := run_s rfl
theorem rq_X10_copies_49 {lo : Lo} {st : List Value} {h : Hp} {Q : Option Value → Hp → Prop} : Run 156 49 lo st h Q = Cnt 156 Q (xo_bin (fun x y => x * y) 50 lo st h) := run_s rfl
theorem rq_X10_copies_50 {lo : Lo} {st : List Value} {h : Hp} {Q : Option Value → Hp → Prop} : Run 156 50 lo st h Q = Cnt 156 Q (xo_iload 3 51 lo st h) := run_s rfl
theorem rq_X10_copies_51 {lo : Lo} {st : List Value} {h : Hp} {Q : Option Value → Hp → Prop} : Run 156 51 lo st h Q = Cnt 156 Q (xo_bin (fun x y => x + y) 52 lo st h) := run_s rfl
theorem rq_X10_copies_52 {lo : Lo} {st : List Value} {h : Hp} {Q : Option Value → Hp → Prop} : Run 156 52 lo st h Q = Cnt 156 Q (xo_aload 0 53 lo st h) := run_s rfl
theorem rq_X10_copies_53 {lo : Lo} {st : List Value} {h : Hp} {Q : Option Value → Hp → Prop} : Run 156 53 lo st h Q = Cnt 156 Q (xo_getf 10 7 56 lo st h) := run_s rfl
theorem rq_X10_copies_56 {lo : Lo} {st : List Value} {h : Hp} {Q : Option Value → Hp → Prop} : Run 156 56 lo st h Q = Cnt 156 Q (xo_const (.int 6) 58 lo st h) := run_s rfl
theorem rq_X10_copies_58 {lo : Lo} {st : List Value} {h : Hp} {Q : Option Value → Hp → Prop} : Run 156 58 lo st h Q = Cnt 156 Q (xo_iload 1 59 lo st h) := run_s rfl
theorem rq_X10_copies_59 {lo : Lo} {st : List Value} {h : Hp} {Q : Option Value → Hp → Prop} : Run 156 59 lo st h Q = Cnt 156 Q (xo_bin (fun x y => x * y) 60 lo st h) := run_s rfl
theorem rq_X10_copies_60 {lo : Lo} {st : List Value} {h : Hp} {Q : Option Value → Hp → Prop} : Run 156 60 lo st h Q = Cnt 156 Q (xo_iload 3 61 lo st h) := run_s rfl
theorem rq_X10_copies_61 {lo : Lo} {st : List Value} {h : Hp} {Q : Option Value → Hp → Prop} : Run 156 61 lo st h Q = Cnt 156 Q (xo_bin (fun x y => x + y) 62 lo st h) := run_s rfl
theorem rq_X10_copies_62 {lo : Lo} {st : List Value} {h : Hp} {Q : Option Value → Hp → Prop} : Run 156 62 lo st h Q = Cnt 156 Q (xo_iald 63 lo st h) := run_s rfl
theorem rq_X10_copies_63 {lo : Lo} {st : List Value} {h : Hp} {Q : Option Value → Hp → Prop} : Run 156 63 lo st h Q = Cnt 156 Q (xo_iast 64 lo st h) := run_s rfl
theorem rq_X10_copies_64 {lo : Lo} {st : List Value} {h : Hp} {Q : Option Value → Hp → Prop} : Run 156 64 lo st h Q = Cnt 156 Q (xo_aload 0 65 lo st h) := run_s rfl
theorem rq_X10_copies_65 {lo : Lo} {st : List Value} {h : Hp} {Q : Option Value → Hp → Prop} : Run 156 65 lo st h Q = Cnt 156 Q (xo_getf 10 8 68 lo st h) := run_s rfl
theorem rq_X10_copies_68 {lo : Lo} {st : List Value} {h : Hp} {Q : Option Value → Hp → Prop} : Run 156 68 lo st h Q = Cnt 156 Q (xo_const (.int 6) 70 lo st h) := run_s rfl
theorem rq_X10_copies_70 {lo : Lo} {st : List Value} {h : Hp} {Q : Option Value → Hp → Prop} : Run 156 70 lo st h Q = Cnt 156 Q (xo_iload 2 71 lo st h) := run_s rfl
theorem rq_X10_copies_71 {lo : Lo} {st : List Value} {h : Hp} {Q : Option Value → Hp → Prop} : Run 156 71 lo st h Q = Cnt 156 Q (xo_bin (fun x y => x * y) 72 lo st h) := run_s rfl
theorem rq_X10_copies_72 {lo : Lo} {st : List Value} {h : Hp} {Q : Option Value → Hp → Prop} : Run 156 72 lo st h Q = Cnt 156 Q (xo_iload 3 73 lo st h) := run_s rfl
theorem rq_X10_copies_73 {lo : Lo} {st : List Value} {h : Hp} {Q : Option Value → Hp → Prop} : Run 156 73 lo st h Q = Cnt 156 Q (xo_bin (fun x y => x + y) 74 lo st h) := run_s rfl
theorem rq_X10_copies_74 {lo : Lo} {st : List Value} {h : Hp} {Q : Option Value → Hp → Prop} : Run 156 74 lo st h Q = Cnt 156 Q (xo_aload 0 75 lo st h) := run_s rfl
theorem rq_X10_copies_75 {lo : Lo} {st : List Value} {h : Hp} {Q : Option Value → Hp → Prop} : Run 156 75 lo st h Q = Cnt 156 Q (xo_getf 10 8 78 lo st h) := run_s rfl
theorem rq_X10_copies_78 {lo : Lo} {st : List Value} {h : Hp} {Q : Option Value → Hp → Prop} : Run 156 78 lo st h Q = Cnt 156 Q (xo_const (.int 6) 80 lo st h) := run_s rfl
theorem rq_X10_copies_80 {lo : Lo} {st : List Value} {h : Hp} {Q : Option Value → Hp → Prop} : Run 156 80 lo st h Q = Cnt 156 Q (xo_iload 1 81 lo st h) := run_s rfl
theorem rq_X10_copies_81 {lo : Lo} {st : List Value} {h : Hp} {Q : Option Value → Hp → Prop} : Run 156 81 lo st h Q = Cnt 156 Q (xo_bin (fun x y => x * y) 82 lo st h) := run_s rfl
theorem rq_X10_copies_82 {lo : Lo} {st : List Value} {h : Hp} {Q : Option Value → Hp → Prop} : Run 156 82 lo st h Q = Cnt 156 Q (xo_iload 3 83 lo st h) := run_s rfl
theorem rq_X10_copies_83 {lo : Lo} {st : List Value} {h : Hp} {Q : Option Value → Hp → Prop} : Run 156 83 lo st h Q = Cnt 156 Q (xo_bin (fun x y => x + y) 84 lo st h) := run_s rfl
theorem rq_X10_copies_84 {lo : Lo} {st : List Value} {h : Hp} {Q : Option Value → Hp → Prop} : Run 156 84 lo st h Q = Cnt 156 Q (xo_iald 85 lo st h) := run_s rfl
theorem rq_X10_copies_85 {lo : Lo} {st : List Value} {h : Hp} {Q : Option Value → Hp → Prop} : Run 156 85 lo st h Q = Cnt 156 Q (xo_iast 86 lo st h) := run_s rfl
theorem rq_X10_copies_86 {lo : Lo} {st : List Value} {h : Hp} {Q : Option Value → Hp → Prop} : Run 156 86 lo st h Q = Cnt 156 Q (xo_iinc 3 1 89 lo st h) := run_s rfl
theorem rq_X10_copies_89 {lo : Lo} {st : List Value} {h : Hp} {Q : Option Value → Hp → Prop} : Run 156 89 lo st h Q = Cnt 156 Q (xo_goto 14 lo st h) := run_s rfl
theorem rq_X10_copies_92 {lo : Lo} {st : List Value} {h : Hp} {Q : Option Value → Hp → Prop} : Run 156 92 lo st h Q = Cnt 156 Q (xo_const (.int 0) 93 lo st h) := run_s rfl
theorem rq_X10_copies_93 {lo : Lo} {st : List Value} {h : Hp} {Q : Option Value → Hp → Prop} : Run 156 93 lo st h Q = Cnt 156 Q (xo_istore 3 94 lo st h) := run_s rfl
theorem rq_X10_copies_94 {lo : Lo} {st : List Value} {h : Hp} {Q : Option Value → Hp → Prop} : Run 156 94 lo st h Q = Cnt 156 Q (xo_iload 3 95 lo st h) := run_s rfl
theorem rq_X10_copies_95 {lo : Lo} {st : List Value} {h : Hp} {Q : Option Value → Hp → Prop} : Run 156 95 lo st h Q = Cnt 156 Q (xo_const (.int 48) 97 lo st h) := run_s rfl
theorem rq_X10_copies_97 {lo : Lo} {st : List Value} {h : Hp} {Q : Option Value → Hp → Prop} : Run 156 97 lo st h Q = Cnt 156 Q (xo_if2 (fun x y => decide (x ≥ y)) 150 100 lo st h) := run_s rfl
theorem rq_X10_copies_100 {lo : Lo} {st : List Value} {h : Hp} {Q : Option Value → Hp → Prop} : Run 156 100 lo st h Q = Cnt 156 Q (xo_aload 0 101 lo st h) := run_s rfl
theorem rq_X10_copies_101 {lo : Lo} {st : List Value} {h : Hp} {Q : Option Value → Hp → Prop} : Run 156 101 lo st h Q = Cnt 156 Q (xo_getf 10 9 104 lo st h) := run_s rfl
theorem rq_X10_copies_104 {lo : Lo} {st : List Value} {h : Hp} {Q : Option Value → Hp → Prop} : Run 156 104 lo st h Q = Cnt 156 Q (xo_const (.int 48) 106 lo st h) := run_s rfl
theorem rq_X10_copies_106 {lo : Lo} {st : List Value} {h : Hp} {Q : Option Value → Hp → Prop} : Run 156 106 lo st h Q = Cnt 156 Q (xo_iload 2 107 lo st h) := run_s rfl
theorem rq_X10_copies_107 {lo : Lo} {st : List Value} {h : Hp} {Q : Option Value → Hp → Prop} : Run 156 107 lo st h Q = Cnt 156 Q (xo_bin (fun x y => x * y) 108 lo st h) := run_s rfl
theorem rq_X10_copies_108 {lo : Lo} {st : List Value} {h : Hp} {Q : Option Value → Hp → Prop} : Run 156 108 lo st h Q = Cnt 156 Q (xo_iload 3 109 lo st h) := run_s rfl
theorem rq_X10_copies_109 {lo : Lo} {st : List Value} {h : Hp} {Q : Option Value → Hp → Prop} : Run 156 109 lo st h Q = Cnt 156 Q (xo_bin (fun x y => x + y) 110 lo st h) := run_s rfl
theorem rq_X10_copies_110 {lo : Lo} {st : List Value} {h : Hp} {Q : Option Value → Hp → Prop} : Run 156 110 lo st h Q = Cnt 156 Q (xo_aload 0 111 lo st h) := run_s rfl
theorem rq_X10_copies_111 {lo : Lo} {st : List Value} {h : Hp} {Q : Option Value → Hp → Prop} : Run 156 111 lo st h Q = Cnt 156 Q (xo_getf 10 9 114 lo st h) := run_s rfl
theorem rq_X10_copies_114 {lo : Lo} {st : List Value} {h : Hp} {Q : Option Value → Hp → Prop} : Run 156 114 lo st h Q = Cnt 156 Q (xo_const (.int 48) 116 lo st h) := run_s rfl
theorem rq_X10_copies_116 {lo : Lo} {st : List Value} {h : Hp} {Q : Option Value → Hp → Prop} : Run 156 116 lo st h Q = Cnt 156 Q (xo_iload 1 117 lo st h) := run_s rfl
theorem rq_X10_copies_117 {lo : Lo} {st : List Value} {h : Hp} {Q : Option Value → Hp → Prop} : Run 156 117 lo st h Q = Cnt 156 Q (xo_bin (fun x y => x * y) 118 lo st h) := run_s rfl
theorem rq_X10_copies_118 {lo : Lo} {st : List Value} {h : Hp} {Q : Option Value → Hp → Prop} : Run 156 118 lo st h Q = Cnt 156 Q (xo_iload 3 119 lo st h) := run_s rfl
theorem rq_X10_copies_119 {lo : Lo} {st : List Value} {h : Hp} {Q : Option Value → Hp → Prop} : Run 156 119 lo st h Q = Cnt 156 Q (xo_bin (fun x y => x + y) 120 lo st h) := run_s rfl
theorem rq_X10_copies_120 {lo : Lo} {st : List Value} {h : Hp} {Q : Option Value → Hp → Prop} : Run 156 120 lo st h Q = Cnt 156 Q (xo_iald 121 lo st h) := run_s rfl
theorem rq_X10_copies_121 {lo : Lo} {st : List Value} {h : Hp} {Q : Option Value → Hp → Prop} : Run 156 121 lo st h Q = Cnt 156 Q (xo_iast 122 lo st h) := run_s rfl
theorem rq_X10_copies_122 {lo : Lo} {st : List Value} {h : Hp} {Q : Option Value → Hp → Prop} : Run 156 122 lo st h Q = Cnt 156 Q (xo_aload 0 123 lo st h) := run_s rfl
theorem rq_X10_copies_123 {lo : Lo} {st : List Value} {h : Hp} {Q : Option Value → Hp → Prop} : Run 156 123 lo st h Q = Cnt 156 Q (xo_getf 10 10 126 lo st h) := run_s rfl
theorem rq_X10_copies_126 {lo : Lo} {st : List Value} {h : Hp} {Q : Option Value → Hp → Prop} : Run 156 126 lo st h Q = Cnt 156 Q (xo_const (.int 48) 128 lo st h) := run_s rfl
theorem rq_X10_copies_128 {lo : Lo} {st : List Value} {h : Hp} {Q : Option Value → Hp → Prop} : Run 156 128 lo st h Q = Cnt 156 Q (xo_iload 2 129 lo st h) := run_s rfl
theorem rq_X10_copies_129 {lo : Lo} {st : List Value} {h : Hp} {Q : Option Value → Hp → Prop} : Run 156 129 lo st h Q = Cnt 156 Q (xo_bin (fun x y => x * y) 130 lo st h) := run_s rfl
theorem rq_X10_copies_130 {lo : Lo} {st : List Value} {h : Hp} {Q : Option Value → Hp → Prop} : Run 156 130 lo st h Q = Cnt 156 Q (xo_iload 3 131 lo st h) := run_s rfl
theorem rq_X10_copies_131 {lo : Lo} {st : List Value} {h : Hp} {Q : Option Value → Hp → Prop} : Run 156 131 lo st h Q = Cnt 156 Q (xo_bin (fun x y => x + y) 132 lo st h) := run_s rfl
theorem rq_X10_copies_132 {lo : Lo} {st : List Value} {h : Hp} {Q : Option Value → Hp → Prop} : Run 156 132 lo st h Q = Cnt 156 Q (xo_aload 0 133 lo st h) := run_s rfl
theorem rq_X10_copies_133 {lo : Lo} {st : List Value} {h : Hp} {Q : Option Value → Hp → Prop} : Run 156 133 lo st h Q = Cnt 156 Q (xo_getf 10 10 136 lo st h) := run_s rfl
theorem rq_X10_copies_136 {lo : Lo} {st : List Value} {h : Hp} {Q : Option Value → Hp → Prop} : Run 156 136 lo st h Q = Cnt 156 Q (xo_const (.int 48) 138 lo st h) := run_s rfl
theorem rq_X10_copies_138 {lo : Lo} {st : List Value} {h : Hp} {Q : Option Value → Hp → Prop} : Run 156 138 lo st h Q = Cnt 156 Q (xo_iload 1 139 lo st h) := run_s rfl
theorem rq_X10_copies_139 {lo : Lo} {st : List Value} {h : Hp} {Q : Option Value → Hp → Prop} : Run 156 139 lo st h Q = Cnt 156 Q (xo_bin (fun x y => x * y) 140 lo st h) := run_s rfl
theorem rq_X10_copies_140 {lo : Lo} {st : List Value} {h : Hp} {Q : Option Value → Hp → Prop} : Run 156 140 lo st h Q = Cnt 156 Q (xo_iload 3 141 lo st h) := run_s rfl
theorem rq_X10_copies_141 {lo : Lo} {st : List Value} {h : Hp} {Q : Option Value → Hp → Prop} : Run 156 141 lo st h Q = Cnt 156 Q (xo_bin (fun x y => x + y) 142 lo st h) := run_s rfl
theorem rq_X10_copies_142 {lo : Lo} {st : List Value} {h : Hp} {Q : Option Value → Hp → Prop} : Run 156 142 lo st h Q = Cnt 156 Q (xo_iald 143 lo st h) := run_s rfl
theorem rq_X10_copies_143 {lo : Lo} {st : List Value} {h : Hp} {Q : Option Value → Hp → Prop} : Run 156 143 lo st h Q = Cnt 156 Q (xo_iast 144 lo st h) := run_s rfl
theorem rq_X10_copies_144 {lo : Lo} {st : List Value} {h : Hp} {Q : Option Value → Hp → Prop} : Run 156 144 lo st h Q = Cnt 156 Q (xo_iinc 3 1 147 lo st h) := run_s rfl
theorem rq_X10_copies_147 {lo : Lo} {st : List Value} {h : Hp} {Q : Option Value → Hp → Prop} : Run 156 147 lo st h Q = Cnt 156 Q (xo_goto 94 lo st h) := run_s rfl
theorem rq_X10_copies_150 {lo : Lo} {st : List Value} {h : Hp} {Q : Option Value → Hp → Prop} : Run 156 150 lo st h Q = Cnt 156 Q (xo_vret lo st h) := run_s rfl
theorem rq_X10_keep_0 {lo : Lo} {st : List Value} {h : Hp} {Q : Option Value → Hp → Prop} : Run 157 0 lo st h Q = Cnt 157 Q (xo_iload 1 1 lo st h) := run_s rfl
theorem rq_X10_keep_1 {lo : Lo} {st : List Value} {h : Hp} {Q : Option Value → Hp → Prop} : Run 157 1 lo st h Q = Cnt 157 Q (xo_const (.int 0) 2 lo st h) := run_s rfl
theorem rq_X10_keep_2 {lo : Lo} {st : List Value} {h : Hp} {Q : Option Value → Hp → Prop} : Run 157 2 lo st h Q = Cnt 157 Q (xo_const (.int 25) 4 lo st h) := run_s rfl
theorem rq_X10_keep_4 {lo : Lo} {st : List Value} {h : Hp} {Q : Option Value → Hp → Prop} : Run 157 4 lo st h Q = CCall 111 3 none st h (Knt 157 7 lo (st.drop 3) Q) := run_c rfl
theorem rq_X10_keep_7 {lo : Lo} {st : List Value} {h : Hp} {Q : Option Value → Hp → Prop} : Run 157 7 lo st h Q = Cnt 157 Q (xo_if1 (fun x => decide (¬ x = 0)) 13 10 lo st h) := run_s rfl
theorem rq_X10_keep_10 {lo : Lo} {st : List Value} {h : Hp} {Q : Option Value → Hp → Prop} : Run 157 10 lo st h Q = Cnt 157 Q (xo_const (.int (-2)) 12 lo st h) := run_s rfl
theorem rq_X10_keep_12 {lo : Lo} {st : List Value} {h : Hp} {Q : Option Value → Hp → Prop} : Run 157 12 lo st h Q = Cnt 157 Q (xo_iret lo st h) := run_s rfl
theorem rq_X10_keep_13 {lo : Lo} {st : List Value} {h : Hp} {Q : Option Value → Hp → Prop} : Run 157 13 lo st h Q = Cnt 157 Q (xo_aload 0 14 lo st h) := run_s rfl
theorem rq_X10_keep_14 {lo : Lo} {st : List Value} {h : Hp} {Q : Option Value → Hp → Prop} : Run 157 14 lo st h Q = Cnt 157 Q (xo_getf 10 5 17 lo st h) := run_s rfl
theorem rq_X10_keep_17 {lo : Lo} {st : List Value} {h : Hp} {Q : Option Value → Hp → Prop} : Run 157 17 lo st h Q = Cnt 157 Q (xo_const (.int 26) 19 lo st h) := run_s rfl
theorem rq_X10_keep_19 {lo : Lo} {st : List Value} {h : Hp} {Q : Option Value → Hp → Prop} : Run 157 19 lo st h Q = Cnt 157 Q (xo_iald 20 lo st h) := run_s rfl
theorem rq_X10_keep_20 {lo : Lo} {st : List Value} {h : Hp} {Q : Option Value → Hp → Prop} : Run 157 20 lo st h Q = Cnt 157 Q (xo_if1 (fun x => decide (¬ x = 0)) 26 23 lo st h) := run_s rfl
theorem rq_X10_keep_23 {lo : Lo} {st : List Value} {h : Hp} {Q : Option Value → Hp → Prop} : Run 157 23 lo st h Q = Cnt 157 Q (xo_const (.int (-3)) 25 lo st h) := run_s rfl
theorem rq_X10_keep_25 {lo : Lo} {st : List Value} {h : Hp} {Q : Option Value → Hp → Prop} : Run 157 25 lo st h Q = Cnt 157 Q (xo_iret lo st h) := run_s rfl
theorem rq_X10_keep_26 {lo : Lo} {st : List Value} {h : Hp} {Q : Option Value → Hp → Prop} : Run 157 26 lo st h Q = Cnt 157 Q (xo_aload 0 27 lo st h) := run_s rfl
theorem rq_X10_keep_27 {lo : Lo} {st : List Value} {h : Hp} {Q : Option Value → Hp → Prop} : Run 157 27 lo st h Q = Cnt 157 Q (xo_iload 1 28 lo st h) := run_s rfl
theorem rq_X10_keep_28 {lo : Lo} {st : List Value} {h : Hp} {Q : Option Value → Hp → Prop} : Run 157 28 lo st h Q = CCall 154 2 (some 10) st h (Knt 157 31 lo (st.drop 2) Q) := run_c rfl
theorem rq_X10_keep_31 {lo : Lo} {st : List Value} {h : Hp} {Q : Option Value → Hp → Prop} : Run 157 31 lo st h Q = Cnt 157 Q (xo_if1 (fun x => decide (¬ x = 0)) 46 34 lo st h) := run_s rfl
theorem rq_X10_keep_34 {lo : Lo} {st : List Value} {h : Hp} {Q : Option Value → Hp → Prop} : Run 157 34 lo st h Q = Cnt 157 Q (xo_aload 0 35 lo st h) := run_s rfl
theorem rq_X10_keep_35 {lo : Lo} {st : List Value} {h : Hp} {Q : Option Value → Hp → Prop} : Run 157 35 lo st h Q = CCall 155 1 (some 10) st h (Knt 157 38 lo (st.drop 1) Q) := run_c rfl
theorem rq_X10_keep_38 {lo : Lo} {st : List Value} {h : Hp} {Q : Option Value → Hp → Prop} : Run 157 38 lo st h Q = Cnt 157 Q (xo_const (.int 10) 40 lo st h) := run_s rfl
theorem rq_X10_keep_40 {lo : Lo} {st : List Value} {h : Hp} {Q : Option Value → Hp → Prop} : Run 157 40 lo st h Q = Cnt 157 Q (xo_if2 (fun x y => decide (¬ x = y)) 46 43 lo st h) := run_s rfl
theorem rq_X10_keep_43 {lo : Lo} {st : List Value} {h : Hp} {Q : Option Value → Hp → Prop} : Run 157 43 lo st h Q = Cnt 157 Q (xo_const (.int (-4)) 45 lo st h) := run_s rfl
theorem rq_X10_keep_45 {lo : Lo} {st : List Value} {h : Hp} {Q : Option Value → Hp → Prop} : Run 157 45 lo st h Q = Cnt 157 Q (xo_iret lo st h) := run_s rfl
theorem rq_X10_keep_46 {lo : Lo} {st : List Value} {h : Hp} {Q : Option Value → Hp → Prop} : Run 157 46 lo st h Q = Cnt 157 Q (xo_aload 0 47 lo st h) := run_s rfl
theorem rq_X10_keep_47 {lo : Lo} {st : List Value} {h : Hp} {Q : Option Value → Hp → Prop} : Run 157 47 lo st h Q = Cnt 157 Q (xo_const (.int 26) 49 lo st h) := run_s rfl
theorem rq_X10_keep_49 {lo : Lo} {st : List Value} {h : Hp} {Q : Option Value → Hp → Prop} : Run 157 49 lo st h Q = Cnt 157 Q (xo_iload 1 50 lo st h) := run_s rfl
theorem rq_X10_keep_50 {lo : Lo} {st : List Value} {h : Hp} {Q : Option Value → Hp → Prop} : Run 157 50 lo st h Q = CCall 156 3 (some 10) st h (Knt 157 53 lo (st.drop 3) Q) := run_c rfl
theorem rq_X10_keep_53 {lo : Lo} {st : List Value} {h : Hp} {Q : Option Value → Hp → Prop} : Run 157 53 lo st h Q = Cnt 157 Q (xo_aload 0 54 lo st h) := run_s rfl
theorem rq_X10_keep_54 {lo : Lo} {st : List Value} {h : Hp} {Q : Option Value → Hp → Prop} : Run 157 54 lo st h Q = Cnt 157 Q (xo_getf 10 5 57 lo st h) := run_s rfl
theorem rq_X10_keep_57 {lo : Lo} {st : List Value} {h : Hp} {Q : Option Value → Hp → Prop} : Run 157 57 lo st h Q = Cnt 157 Q (xo_const (.int 26) 59 lo st h) := run_s rfl
theorem rq_X10_keep_59 {lo : Lo} {st : List Value} {h : Hp} {Q : Option Value → Hp → Prop} : Run 157 59 lo st h Q = Cnt 157 Q (xo_const (.int 0) 60 lo st h) := run_s rfl
theorem rq_X10_keep_60 {lo : Lo} {st : List Value} {h : Hp} {Q : Option Value → Hp → Prop} : Run 157 60 lo st h Q = Cnt 157 Q (xo_iast 61 lo st h) := run_s rfl
theorem rq_X10_keep_61 {lo : Lo} {st : List Value} {h : Hp} {Q : Option Value → Hp → Prop} : Run 157 61 lo st h Q = Cnt 157 Q (xo_aload 0 62 lo st h) := run_s rfl
theorem rq_X10_keep_62 {lo : Lo} {st : List Value} {h : Hp} {Q : Option Value → Hp → Prop} : Run 157 62 lo st h Q = CCall 155 1 (some 10) st h (Knt 157 65 lo (st.drop 1) Q) := run_c rfl
theorem rq_X10_keep_65 {lo : Lo} {st : List Value} {h : Hp} {Q : Option Value → Hp → Prop} : Run 157 65 lo st h Q = Cnt 157 Q (xo_iret lo st h) := run_s rfl
theorem rq_X10_take_0 {lo : Lo} {st : List Value} {h : Hp} {Q : Option Value → Hp → Prop} : Run 158 0 lo st h Q = Cnt 158 Q (xo_aload 0 1 lo st h) := run_s rfl
theorem rq_X10_take_1 {lo : Lo} {st : List Value} {h : Hp} {Q : Option Value → Hp → Prop} : Run 158 1 lo st h Q = Cnt 158 Q (xo_iload 1 2 lo st h) := run_s rfl
theorem rq_X10_take_2 {lo : Lo} {st : List Value} {h : Hp} {Q : Option Value → Hp → Prop} : Run 158 2 lo st h Q = CCall 154 2 (some 10) st h (Knt 158 5 lo (st.drop 2) Q) := run_c rfl
theorem rq_X10_take_5 {lo : Lo} {st : List Value} {h : Hp} {Q : Option Value → Hp → Prop} : Run 158 5 lo st h Q = Cnt 158 Q (xo_if1 (fun x => decide (¬ x = 0)) 10 8 lo st h) := run_s rfl
theorem rq_X10_take_8 {lo : Lo} {st : List Value} {h : Hp} {Q : Option Value → Hp → Prop} : Run 158 8 lo st h Q = Cnt 158 Q (xo_const (.int (-1)) 9 lo st h) := run_s rfl
theorem rq_X10_take_9 {lo : Lo} {st : List Value} {h : Hp} {Q : Option Value → Hp → Prop} : Run 158 9 lo st h Q = Cnt 158 Q (xo_iret lo st h) := run_s rfl
theorem rq_X10_take_10 {lo : Lo} {st : List Value} {h : Hp} {Q : Option Value → Hp → Prop} : Run 158 10 lo st h Q = Cnt 158 Q (xo_aload 0 11 lo st h) := run_s rfl
theorem rq_X10_take_11 {lo : Lo} {st : List Value} {h : Hp} {Q : Option Value → Hp → Prop} : Run 158 11 lo st h Q = Cnt 158 Q (xo_iload 1 12 lo st h) := run_s rfl
theorem rq_X10_take_12 {lo : Lo} {st : List Value} {h : Hp} {Q : Option Value → Hp → Prop} : Run 158 12 lo st h Q = Cnt 158 Q (xo_const (.int 26) 14 lo st h) := run_s rfl
theorem rq_X10_take_14 {lo : Lo} {st : List Value} {h : Hp} {Q : Option Value → Hp → Prop} : Run 158 14 lo st h Q = CCall 156 3 (some 10) st h (Knt 158 17 lo (st.drop 3) Q) := run_c rfl
theorem rq_X10_take_17 {lo : Lo} {st : List Value} {h : Hp} {Q : Option Value → Hp → Prop} : Run 158 17 lo st h Q = Cnt 158 Q (xo_aload 0 18 lo st h) := run_s rfl
theorem rq_X10_take_18 {lo : Lo} {st : List Value} {h : Hp} {Q : Option Value → Hp → Prop} : Run 158 18 lo st h Q = Cnt 158 Q (xo_getf 10 5 21 lo st h) := run_s rfl
theorem rq_X10_take_21 {lo : Lo} {st : List Value} {h : Hp} {Q : Option Value → Hp → Prop} : Run 158 21 lo st h Q = Cnt 158 Q (xo_const (.int 26) 23 lo st h) := run_s rfl
theorem rq_X10_take_23 {lo : Lo} {st : List Value} {h : Hp} {Q : Option Value → Hp → Prop} : Run 158 23 lo st h Q = Cnt 158 Q (xo_iald 24 lo st h) := run_s rfl
theorem rq_X10_take_24 {lo : Lo} {st : List Value} {h : Hp} {Q : Option Value → Hp → Prop} : Run 158 24 lo st h Q = Cnt 158 Q (xo_iret lo st h) := run_s rfl
theorem rq_X10_forget_0 {lo : Lo} {st : List Value} {h : Hp} {Q : Option Value → Hp → Prop} : Run 159 0 lo st h Q = Cnt 159 Q (xo_aload 0 1 lo st h) := run_s rfl
theorem rq_X10_forget_1 {lo : Lo} {st : List Value} {h : Hp} {Q : Option Value → Hp → Prop} : Run 159 1 lo st h Q = Cnt 159 Q (xo_iload 1 2 lo st h) := run_s rfl
theorem rq_X10_forget_2 {lo : Lo} {st : List Value} {h : Hp} {Q : Option Value → Hp → Prop} : Run 159 2 lo st h Q = CCall 154 2 (some 10) st h (Knt 159 5 lo (st.drop 2) Q) := run_c rfl
theorem rq_X10_forget_5 {lo : Lo} {st : List Value} {h : Hp} {Q : Option Value → Hp → Prop} : Run 159 5 lo st h Q = Cnt 159 Q (xo_if1 (fun x => decide (¬ x = 0)) 10 8 lo st h) := run_s rfl
theorem rq_X10_forget_8 {lo : Lo} {st : List Value} {h : Hp} {Q : Option Value → Hp → Prop} : Run 159 8 lo st h Q = Cnt 159 Q (xo_const (.int (-1)) 9 lo st h) := run_s rfl
theorem rq_X10_forget_9 {lo : Lo} {st : List Value} {h : Hp} {Q : Option Value → Hp → Prop} : Run 159 9 lo st h Q = Cnt 159 Q (xo_iret lo st h) := run_s rfl
theorem rq_X10_forget_10 {lo : Lo} {st : List Value} {h : Hp} {Q : Option Value → Hp → Prop} : Run 159 10 lo st h Q = Cnt 159 Q (xo_aload 0 11 lo st h) := run_s rfl
theorem rq_X10_forget_11 {lo : Lo} {st : List Value} {h : Hp} {Q : Option Value → Hp → Prop} : Run 159 11 lo st h Q = Cnt 159 Q (xo_getf 10 5 14 lo st h) := run_s rfl
theorem rq_X10_forget_14 {lo : Lo} {st : List Value} {h : Hp} {Q : Option Value → Hp → Prop} : Run 159 14 lo st h Q = Cnt 159 Q (xo_iload 1 15 lo st h) := run_s rfl
theorem rq_X10_forget_15 {lo : Lo} {st : List Value} {h : Hp} {Q : Option Value → Hp → Prop} : Run 159 15 lo st h Q = Cnt 159 Q (xo_const (.int 0) 16 lo st h) := run_s rfl
theorem rq_X10_forget_16 {lo : Lo} {st : List Value} {h : Hp} {Q : Option Value → Hp → Prop} : Run 159 16 lo st h Q = Cnt 159 Q (xo_iast 17 lo st h) := run_s rfl
theorem rq_X10_forget_17 {lo : Lo} {st : List Value} {h : Hp} {Q : Option Value → Hp → Prop} : Run 159 17 lo st h Q = Cnt 159 Q (xo_aload 0 18 lo st h) := run_s rfl
theorem rq_X10_forget_18 {lo : Lo} {st : List Value} {h : Hp} {Q : Option Value → Hp → Prop} : Run 159 18 lo st h Q = CCall 155 1 (some 10) st h (Knt 159 21 lo (st.drop 1) Q) := run_c rfl
theorem rq_X10_forget_21 {lo : Lo} {st : List Value} {h : Hp} {Q : Option Value → Hp → Prop} : Run 159 21 lo st h Q = Cnt 159 Q (xo_iret lo st h) := run_s rfl
theorem rq_X10_name_0 {lo : Lo} {st : List Value} {h : Hp} {Q : Option Value → Hp → Prop} : Run 160 0 lo st h Q = Cnt 160 Q (xo_iload 1 1 lo st h) := run_s rfl
theorem rq_X10_name_1 {lo : Lo} {st : List Value} {h : Hp} {Q : Option Value → Hp → Prop} : Run 160 1 lo st h Q = Cnt 160 Q (xo_const (.int 0) 2 lo st h) := run_s rfl
theorem rq_X10_name_2 {lo : Lo} {st : List Value} {h : Hp} {Q : Option Value → Hp → Prop} : Run 160 2 lo st h Q = Cnt 160 Q (xo_const (.int 9) 4 lo st h) := run_s rfl
theorem rq_X10_name_4 {lo : Lo} {st : List Value} {h : Hp} {Q : Option Value → Hp → Prop} : Run 160 4 lo st h Q = CCall 111 3 none st h (Knt 160 7 lo (st.drop 3) Q) := run_c rfl
theorem rq_X10_name_7 {lo : Lo} {st : List Value} {h : Hp} {Q : Option Value → Hp → Prop} : Run 160 7 lo st h Q = Cnt 160 Q (xo_if1 (fun x => decide (¬ x = 0)) 13 10 lo st h) := run_s rfl
theorem rq_X10_name_10 {lo : Lo} {st : List Value} {h : Hp} {Q : Option Value → Hp → Prop} : Run 160 10 lo st h Q = Cnt 160 Q (xo_const (.int (-2)) 12 lo st h) := run_s rfl
theorem rq_X10_name_12 {lo : Lo} {st : List Value} {h : Hp} {Q : Option Value → Hp → Prop} : Run 160 12 lo st h Q = Cnt 160 Q (xo_iret lo st h) := run_s rfl
theorem rq_X10_name_13 {lo : Lo} {st : List Value} {h : Hp} {Q : Option Value → Hp → Prop} : Run 160 13 lo st h Q = Cnt 160 Q (xo_iload 1 14 lo st h) := run_s rfl
theorem rq_X10_name_14 {lo : Lo} {st : List Value} {h : Hp} {Q : Option Value → Hp → Prop} : Run 160 14 lo st h Q = Cnt 160 Q (xo_istore 2 15 lo st h) := run_s rfl
theorem rq_X10_name_15 {lo : Lo} {st : List Value} {h : Hp} {Q : Option Value → Hp → Prop} : Run 160 15 lo st h Q = Cnt 160 Q (xo_const (.int 0) 16 lo st h) := run_s rfl
theorem rq_X10_name_16 {lo : Lo} {st : List Value} {h : Hp} {Q : Option Value → Hp → Prop} : Run 160 16 lo st h Q = Cnt 160 Q (xo_istore 3 17 lo st h) := run_s rfl
theorem rq_X10_name_17 {lo : Lo} {st : List Value} {h : Hp} {Q : Option Value → Hp → Prop} : Run 160 17 lo st h Q = Cnt 160 Q (xo_iload 3 18 lo st h) := run_s rfl
theorem rq_X10_name_18 {lo : Lo} {st : List Value} {h : Hp} {Q : Option Value → Hp → Prop} : Run 160 18 lo st h Q = Cnt 160 Q (xo_const (.int 26) 20 lo st h) := run_s rfl
theorem rq_X10_name_20 {lo : Lo} {st : List Value} {h : Hp} {Q : Option Value → Hp → Prop} : Run 160 20 lo st h Q = Cnt 160 Q (xo_if2 (fun x y => decide (x ≥ y)) 46 23 lo st h) := run_s rfl
theorem rq_X10_name_23 {lo : Lo} {st : List Value} {h : Hp} {Q : Option Value → Hp → Prop} : Run 160 23 lo st h Q = Cnt 160 Q (xo_aload 0 24 lo st h) := run_s rfl
theorem rq_X10_name_24 {lo : Lo} {st : List Value} {h : Hp} {Q : Option Value → Hp → Prop} : Run 160 24 lo st h Q = Cnt 160 Q (xo_iload 3 25 lo st h) := run_s rfl
theorem rq_X10_name_25 {lo : Lo} {st : List Value} {h : Hp} {Q : Option Value → Hp → Prop} : Run 160 25 lo st h Q = CCall 154 2 (some 10) st h (Knt 160 28 lo (st.drop 2) Q) := run_c rfl
theorem rq_X10_name_28 {lo : Lo} {st : List Value} {h : Hp} {Q : Option Value → Hp → Prop} : Run 160 28 lo st h Q = Cnt 160 Q (xo_if1 (fun x => decide (x = 0)) 40 31 lo st h) := run_s rfl
theorem rq_X10_name_31 {lo : Lo} {st : List Value} {h : Hp} {Q : Option Value → Hp → Prop} : Run 160 31 lo st h Q = Cnt 160 Q (xo_iload 2 32 lo st h) := run_s rfl
theorem rq_X10_name_32 {lo : Lo} {st : List Value} {h : Hp} {Q : Option Value → Hp → Prop} : Run 160 32 lo st h Q = Cnt 160 Q (xo_if1 (fun x => decide (¬ x = 0)) 37 35 lo st h) := run_s rfl
theorem rq_X10_name_35 {lo : Lo} {st : List Value} {h : Hp} {Q : Option Value → Hp → Prop} : Run 160 35 lo st h Q = Cnt 160 Q (xo_iload 3 36 lo st h) := run_s rfl
theorem rq_X10_name_36 {lo : Lo} {st : List Value} {h : Hp} {Q : Option Value → Hp → Prop} : Run 160 36 lo st h Q = Cnt 160 Q (xo_iret lo st h) := run_s rfl
theorem rq_X10_name_37 {lo : Lo} {st : List Value} {h : Hp} {Q : Option Value → Hp → Prop} : Run 160 37 lo st h Q = Cnt 160 Q (xo_iinc 2 (-1) 40 lo st h) := run_s rfl
theorem rq_X10_name_40 {lo : Lo} {st : List Value} {h : Hp} {Q : Option Value → Hp → Prop} : Run 160 40 lo st h Q = Cnt 160 Q (xo_iinc 3 1 43 lo st h) := run_s rfl
theorem rq_X10_name_43 {lo : Lo} {st : List Value} {h : Hp} {Q : Option Value → Hp → Prop} : Run 160 43 lo st h Q = Cnt 160 Q (xo_goto 17 lo st h) := run_s rfl
theorem rq_X10_name_46 {lo : Lo} {st : List Value} {h : Hp} {Q : Option Value → Hp → Prop} : Run 160 46 lo st h Q = Cnt 160 Q (xo_const (.int (-9)) 48 lo st h) := run_s rfl
theorem rq_X10_name_48 {lo : Lo} {st : List Value} {h : Hp} {Q : Option Value → Hp → Prop} : Run 160 48 lo st h Q = Cnt 160 Q (xo_iret lo st h) := run_s rfl
theorem rq_X10_kindOf_0 {lo : Lo} {st : List Value} {h : Hp} {Q : Option Value → Hp → Prop} : Run 161 0 lo st h Q = Cnt 161 Q (xo_const (.int 0) 1 lo st h) := run_s rfl
theorem rq_X10_kindOf_1 {lo : Lo} {st : List Value} {h : Hp} {Q : Option Value → Hp → Prop} : Run 161 1 lo st h Q = Cnt 161 Q (xo_istore 2 2 lo st h) := run_s rfl
theorem rq_X10_kindOf_2 {lo : Lo} {st : List Value} {h : Hp} {Q : Option Value → Hp → Prop} : Run 161 2 lo st h Q = Cnt 161 Q (xo_const (.int (-9)) 4 lo st h) := run_s rfl
theorem rq_X10_kindOf_4 {lo : Lo} {st : List Value} {h : Hp} {Q : Option Value → Hp → Prop} : Run 161 4 lo st h Q = Cnt 161 Q (xo_istore 3 5 lo st h) := run_s rfl
theorem rq_X10_kindOf_5 {lo : Lo} {st : List Value} {h : Hp} {Q : Option Value → Hp → Prop} : Run 161 5 lo st h Q = Cnt 161 Q (xo_const (.int 0) 6 lo st h) := run_s rfl
theorem rq_X10_kindOf_6 {lo : Lo} {st : List Value} {h : Hp} {Q : Option Value → Hp → Prop} : Run 161 6 lo st h Q = Cnt 161 Q (xo_istore 4 8 lo st h) := run_s rfl
theorem rq_X10_kindOf_8 {lo : Lo} {st : List Value} {h : Hp} {Q : Option Value → Hp → Prop} : Run 161 8 lo st h Q = Cnt 161 Q (xo_const (.int 0) 9 lo st h) := run_s rfl
theorem rq_X10_kindOf_9 {lo : Lo} {st : List Value} {h : Hp} {Q : Option Value → Hp → Prop} : Run 161 9 lo st h Q = Cnt 161 Q (xo_istore 5 11 lo st h) := run_s rfl
theorem rq_X10_kindOf_11 {lo : Lo} {st : List Value} {h : Hp} {Q : Option Value → Hp → Prop} : Run 161 11 lo st h Q = Cnt 161 Q (xo_iload 5 13 lo st h) := run_s rfl
theorem rq_X10_kindOf_13 {lo : Lo} {st : List Value} {h : Hp} {Q : Option Value → Hp → Prop} : Run 161 13 lo st h Q = Cnt 161 Q (xo_aload 0 14 lo st h) := run_s rfl
theorem rq_X10_kindOf_14 {lo : Lo} {st : List Value} {h : Hp} {Q : Option Value → Hp → Prop} : Run 161 14 lo st h Q = Cnt 161 Q (xo_getf 10 6 17 lo st h) := run_s rfl
theorem rq_X10_kindOf_17 {lo : Lo} {st : List Value} {h : Hp} {Q : Option Value → Hp → Prop} : Run 161 17 lo st h Q = Cnt 161 Q (xo_iload 1 18 lo st h) := run_s rfl
theorem rq_X10_kindOf_18 {lo : Lo} {st : List Value} {h : Hp} {Q : Option Value → Hp → Prop} : Run 161 18 lo st h Q = Cnt 161 Q (xo_iald 19 lo st h) := run_s rfl
theorem rq_X10_kindOf_19 {lo : Lo} {st : List Value} {h : Hp} {Q : Option Value → Hp → Prop} : Run 161 19 lo st h Q = Cnt 161 Q (xo_const (.int 1) 20 lo st h) := run_s rfl
theorem rq_X10_kindOf_20 {lo : Lo} {st : List Value} {h : Hp} {Q : Option Value → Hp → Prop} : Run 161 20 lo st h Q = Cnt 161 Q (xo_bin (fun x y => x - y) 21 lo st h) := run_s rfl
theorem rq_X10_kindOf_21 {lo : Lo} {st : List Value} {h : Hp} {Q : Option Value → Hp → Prop} : Run 161 21 lo st h Q = Cnt 161 Q (xo_if2 (fun x y => decide (x ≥ y)) 76 24 lo st h) := run_s rfl
theorem rq_X10_kindOf_24 {lo : Lo} {st : List Value} {h : Hp} {Q : Option Value → Hp → Prop} : Run 161 24 lo st h Q = Cnt 161 Q (xo_aload 0 25 lo st h) := run_s rfl
theorem rq_X10_kindOf_25 {lo : Lo} {st : List Value} {h : Hp} {Q : Option Value → Hp → Prop} : Run 161 25 lo st h Q = Cnt 161 Q (xo_iload 1 26 lo st h) := run_s rfl
theorem rq_X10_kindOf_26 {lo : Lo} {st : List Value} {h : Hp} {Q : Option Value → Hp → Prop} : Run 161 26 lo st h Q = Cnt 161 Q (xo_iload 5 28 lo st h) := run_s rfl
theorem rq_X10_kindOf_28 {lo : Lo} {st : List Value} {h : Hp} {Q : Option Value → Hp → Prop} : Run 161 28 lo st h Q = Cnt 161 Q (xo_aload 0 29 lo st h) := run_s rfl
theorem rq_X10_kindOf_29 {lo : Lo} {st : List Value} {h : Hp} {Q : Option Value → Hp → Prop} : Run 161 29 lo st h Q = Cnt 161 Q (xo_getf 10 7 32 lo st h) := run_s rfl
theorem rq_X10_kindOf_32 {lo : Lo} {st : List Value} {h : Hp} {Q : Option Value → Hp → Prop} : Run 161 32 lo st h Q = Cnt 161 Q (xo_iload 1 33 lo st h) := run_s rfl
theorem rq_X10_kindOf_33 {lo : Lo} {st : List Value} {h : Hp} {Q : Option Value → Hp → Prop} : Run 161 33 lo st h Q = Cnt 161 Q (xo_iald 34 lo st h) := run_s rfl
theorem rq_X10_kindOf_34 {lo : Lo} {st : List Value} {h : Hp} {Q : Option Value → Hp → Prop} : Run 161 34 lo st h Q = Cnt 161 Q (xo_aload 0 35 lo st h) := run_s rfl
theorem rq_X10_kindOf_35 {lo : Lo} {st : List Value} {h : Hp} {Q : Option Value → Hp → Prop} : Run 161 35 lo st h Q = Cnt 161 Q (xo_getf 10 8 38 lo st h) := run_s rfl
theorem rq_X10_kindOf_38 {lo : Lo} {st : List Value} {h : Hp} {Q : Option Value → Hp → Prop} : Run 161 38 lo st h Q = Cnt 161 Q (xo_iload 1 39 lo st h) := run_s rfl
theorem rq_X10_kindOf_39 {lo : Lo} {st : List Value} {h : Hp} {Q : Option Value → Hp → Prop} : Run 161 39 lo st h Q = Cnt 161 Q (xo_iald 40 lo st h) := run_s rfl
theorem rq_X10_kindOf_40 {lo : Lo} {st : List Value} {h : Hp} {Q : Option Value → Hp → Prop} : Run 161 40 lo st h Q = Cnt 161 Q (xo_aload 0 41 lo st h) := run_s rfl
theorem rq_X10_kindOf_41 {lo : Lo} {st : List Value} {h : Hp} {Q : Option Value → Hp → Prop} : Run 161 41 lo st h Q = Cnt 161 Q (xo_getf 10 13 44 lo st h) := run_s rfl
theorem rq_X10_kindOf_44 {lo : Lo} {st : List Value} {h : Hp} {Q : Option Value → Hp → Prop} : Run 161 44 lo st h Q = CCall 139 6 (some 10) st h (Knt 161 47 lo (st.drop 6) Q) := run_c rfl
theorem rq_X10_kindOf_47 {lo : Lo} {st : List Value} {h : Hp} {Q : Option Value → Hp → Prop} : Run 161 47 lo st h Q = Cnt 161 Q (xo_istore 6 49 lo st h) := run_s rfl
theorem rq_X10_kindOf_49 {lo : Lo} {st : List Value} {h : Hp} {Q : Option Value → Hp → Prop} : Run 161 49 lo st h Q = Cnt 161 Q (xo_iload 6 51 lo st h) := run_s rfl
theorem rq_X10_kindOf_51 {lo : Lo} {st : List Value} {h : Hp} {Q : Option Value → Hp → Prop} : Run 161 51 lo st h Q = Cnt 161 Q (xo_iload 3 52 lo st h) := run_s rfl
theorem rq_X10_kindOf_52 {lo : Lo} {st : List Value} {h : Hp} {Q : Option Value → Hp → Prop} : Run 161 52 lo st h Q = Cnt 161 Q (xo_if2 (fun x y => decide (x = y)) 70 55 lo st h) := run_s rfl
theorem rq_X10_kindOf_55 {lo : Lo} {st : List Value} {h : Hp} {Q : Option Value → Hp → Prop} : Run 161 55 lo st h Q = Cnt 161 Q (xo_const (.int 4) 56 lo st h) := run_s rfl
theorem rq_X10_kindOf_56 {lo : Lo} {st : List Value} {h : Hp} {Q : Option Value → Hp → Prop} : Run 161 56 lo st h Q = Cnt 161 Q (xo_iload 4 58 lo st h) := run_s rfl
theorem rq_X10_kindOf_58 {lo : Lo} {st : List Value} {h : Hp} {Q : Option Value → Hp → Prop} : Run 161 58 lo st h Q = Cnt 161 Q (xo_bin (fun x y => x * y) 59 lo st h) := run_s rfl
theorem rq_X10_kindOf_59 {lo : Lo} {st : List Value} {h : Hp} {Q : Option Value → Hp → Prop} : Run 161 59 lo st h Q = Cnt 161 Q (xo_iload 6 61 lo st h) := run_s rfl
theorem rq_X10_kindOf_61 {lo : Lo} {st : List Value} {h : Hp} {Q : Option Value → Hp → Prop} : Run 161 61 lo st h Q = Cnt 161 Q (xo_bin (fun x y => x + y) 62 lo st h) := run_s rfl
theorem rq_X10_kindOf_62 {lo : Lo} {st : List Value} {h : Hp} {Q : Option Value → Hp → Prop} : Run 161 62 lo st h Q = Cnt 161 Q (xo_istore 4 64 lo st h) := run_s rfl
theorem rq_X10_kindOf_64 {lo : Lo} {st : List Value} {h : Hp} {Q : Option Value → Hp → Prop} : Run 161 64 lo st h Q = Cnt 161 Q (xo_iinc 2 1 67 lo st h) := run_s rfl
theorem rq_X10_kindOf_67 {lo : Lo} {st : List Value} {h : Hp} {Q : Option Value → Hp → Prop} : Run 161 67 lo st h Q = Cnt 161 Q (xo_iload 6 69 lo st h) := run_s rfl
theorem rq_X10_kindOf_69 {lo : Lo} {st : List Value} {h : Hp} {Q : Option Value → Hp → Prop} : Run 161 69 lo st h Q = Cnt 161 Q (xo_istore 3 70 lo st h) := run_s rfl
theorem rq_X10_kindOf_70 {lo : Lo} {st : List Value} {h : Hp} {Q : Option Value → Hp → Prop} : Run 161 70 lo st h Q = Cnt 161 Q (xo_iinc 5 1 73 lo st h) := run_s rfl
theorem rq_X10_kindOf_73 {lo : Lo} {st : List Value} {h : Hp} {Q : Option Value → Hp → Prop} : Run 161 73 lo st h Q = Cnt 161 Q (xo_goto 11 lo st h) := run_s rfl
theorem rq_X10_kindOf_76 {lo : Lo} {st : List Value} {h : Hp} {Q : Option Value → Hp → Prop} : Run 161 76 lo st h Q = Cnt 161 Q (xo_const (.int 16384) 79 lo st h) := run_s rfl
theorem rq_X10_kindOf_79 {lo : Lo} {st : List Value} {h : Hp} {Q : Option Value → Hp → Prop} : Run 161 79 lo st h Q = Cnt 161 Q (xo_iload 2 80 lo st h) := run_s rfl
theorem rq_X10_kindOf_80 {lo : Lo} {st : List Value} {h : Hp} {Q : Option Value → Hp → Prop} : Run 161 80 lo st h Q = Cnt 161 Q (xo_bin (fun x y => x * y) 81 lo st h) := run_s rfl
theorem rq_X10_kindOf_81 {lo : Lo} {st : List Value} {h : Hp} {Q : Option Value → Hp → Prop} : Run 161 81 lo st h Q = Cnt 161 Q (xo_iload 4 83 lo st h) := run_s rfl
theorem rq_X10_kindOf_83 {lo : Lo} {st : List Value} {h : Hp} {Q : Option Value → Hp → Prop} : Run 161 83 lo st h Q = Cnt 161 Q (xo_bin (fun x y => x + y) 84 lo st h) := run_s rfl
theorem rq_X10_kindOf_84 {lo : Lo} {st : List Value} {h : Hp} {Q : Option Value → Hp → Prop} : Run 161 84 lo st h Q = Cnt 161 Q (xo_iret lo st h) := run_s rfl
theorem rq_X10_hasKind_0 {lo : Lo} {st : List Value} {h : Hp} {Q : Option Value → Hp → Prop} : Run 162 0 lo st h Q = Cnt 162 Q (xo_const (.int 0) 1 lo st h) := run_s rfl
theorem rq_X10_hasKind_1 {lo : Lo} {st : List Value} {h : Hp} {Q : Option Value → Hp → Prop} : Run 162 1 lo st h Q = Cnt 162 Q (xo_istore 2 2 lo st h) := run_s rfl
theorem rq_X10_hasKind_2 {lo : Lo} {st : List Value} {h : Hp} {Q : Option Value → Hp → Prop} : Run 162 2 lo st h Q = Cnt 162 Q (xo_iload 2 3 lo st h) := run_s rfl
theorem rq_X10_hasKind_3 {lo : Lo} {st : List Value} {h : Hp} {Q : Option Value → Hp → Prop} : Run 162 3 lo st h Q = Cnt 162 Q (xo_aload 0 4 lo st h) := run_s rfl
theorem rq_X10_hasKind_4 {lo : Lo} {st : List Value} {h : Hp} {Q : Option Value → Hp → Prop} : Run 162 4 lo st h Q = Cnt 162 Q (xo_getf 10 16 7 lo st h) := run_s rfl
theorem rq_X10_hasKind_7 {lo : Lo} {st : List Value} {h : Hp} {Q : Option Value → Hp → Prop} : Run 162 7 lo st h Q = Cnt 162 Q (xo_if2 (fun x y => decide (x ≥ y)) 28 10 lo st h) := run_s rfl
theorem rq_X10_hasKind_10 {lo : Lo} {st : List Value} {h : Hp} {Q : Option Value → Hp → Prop} : Run 162 10 lo st h Q = Cnt 162 Q (xo_aload 0 11 lo st h) := run_s rfl
theorem rq_X10_hasKind_11 {lo : Lo} {st : List Value} {h : Hp} {Q : Option Value → Hp → Prop} : Run 162 11 lo st h Q = Cnt 162 Q (xo_getf 10 17 14 lo st h) := run_s rfl
theorem rq_X10_hasKind_14 {lo : Lo} {st : List Value} {h : Hp} {Q : Option Value → Hp → Prop} : Run 162 14 lo st h Q = Cnt 162 Q (xo_iload 2 15 lo st h) := run_s rfl
theorem rq_X10_hasKind_15 {lo : Lo} {st : List Value} {h : Hp} {Q : Option Value → Hp → Prop} : Run 162 15 lo st h Q = Cnt 162 Q (xo_iald 16 lo st h) := run_s rfl
theorem rq_X10_hasKind_16 {lo : Lo} {st : List Value} {h : Hp} {Q : Option Value → Hp → Prop} : Run 162 16 lo st h Q = Cnt 162 Q (xo_iload 1 17 lo st h) := run_s rfl
theorem rq_X10_hasKind_17 {lo : Lo} {st : List Value} {h : Hp} {Q : Option Value → Hp → Prop} : Run 162 17 lo st h Q = Cnt 162 Q (xo_if2 (fun x y => decide (¬ x = y)) 22 20 lo st h) := run_s rfl
theorem rq_X10_hasKind_20 {lo : Lo} {st : List Value} {h : Hp} {Q : Option Value → Hp → Prop} : Run 162 20 lo st h Q = Cnt 162 Q (xo_const (.int 1) 21 lo st h) := run_s rfl
theorem rq_X10_hasKind_21 {lo : Lo} {st : List Value} {h : Hp} {Q : Option Value → Hp → Prop} : Run 162 21 lo st h Q = Cnt 162 Q (xo_zret lo st h) := run_s rfl
theorem rq_X10_hasKind_22 {lo : Lo} {st : List Value} {h : Hp} {Q : Option Value → Hp → Prop} : Run 162 22 lo st h Q = Cnt 162 Q (xo_iinc 2 1 25 lo st h) := run_s rfl
theorem rq_X10_hasKind_25 {lo : Lo} {st : List Value} {h : Hp} {Q : Option Value → Hp → Prop} : Run 162 25 lo st h Q = Cnt 162 Q (xo_goto 2 lo st h) := run_s rfl
theorem rq_X10_hasKind_28 {lo : Lo} {st : List Value} {h : Hp} {Q : Option Value → Hp → Prop} : Run 162 28 lo st h Q = Cnt 162 Q (xo_const (.int 0) 29 lo st h) := run_s rfl
theorem rq_X10_hasKind_29 {lo : Lo} {st : List Value} {h : Hp} {Q : Option Value → Hp → Prop} : Run 162 29 lo st h Q = Cnt 162 Q (xo_zret lo st h) := run_s rfl
theorem rq_X10_addKinds_0 {lo : Lo} {st : List Value} {h : Hp} {Q : Option Value → Hp → Prop} : Run 163 0 lo st h Q = Cnt 163 Q (xo_const (.int 0) 1 lo st h) := run_s rfl
theorem rq_X10_addKinds_1 {lo : Lo} {st : List Value} {h : Hp} {Q : Option Value → Hp → Prop} : Run 163 1 lo st h Q = Cnt 163 Q (xo_istore 2 2 lo st h) := run_s rfl
theorem rq_X10_addKinds_2 {lo : Lo} {st : List Value} {h : Hp} {Q : Option Value → Hp → Prop} : Run 163 2 lo st h Q = Cnt 163 Q (xo_iload 2 3 lo st h) := run_s rfl
theorem rq_X10_addKinds_3 {lo : Lo} {st : List Value} {h : Hp} {Q : Option Value → Hp → Prop} : Run 163 3 lo st h Q = Cnt 163 Q (xo_aload 0 4 lo st h) := run_s rfl
theorem rq_X10_addKinds_4 {lo : Lo} {st : List Value} {h : Hp} {Q : Option Value → Hp → Prop} : Run 163 4 lo st h Q = Cnt 163 Q (xo_getf 10 5 7 lo st h) := run_s rfl
theorem rq_X10_addKinds_7 {lo : Lo} {st : List Value} {h : Hp} {Q : Option Value → Hp → Prop} : Run 163 7 lo st h Q = Cnt 163 Q (xo_iload 1 8 lo st h) := run_s rfl
theorem rq_X10_addKinds_8 {lo : Lo} {st : List Value} {h : Hp} {Q : Option Value → Hp → Prop} : Run 163 8 lo st h Q = Cnt 163 Q (xo_iald 9 lo st h) := run_s rfl
theorem rq_X10_addKinds_9 {lo : Lo} {st : List Value} {h : Hp} {Q : Option Value → Hp → Prop} : Run 163 9 lo st h Q = Cnt 163 Q (xo_if2 (fun x y => decide (x ≥ y)) 57 12 lo st h) := run_s rfl
theorem rq_X10_addKinds_12 {lo : Lo} {st : List Value} {h : Hp} {Q : Option Value → Hp → Prop} : Run 163 12 lo st h Q = Cnt 163 Q (xo_aload 0 13 lo st h) := run_s rfl
theorem rq_X10_addKinds_13 {lo : Lo} {st : List Value} {h : Hp} {Q : Option Value → Hp → Prop} : Run 163 13 lo st h Q = Cnt 163 Q (xo_const (.int 6) 15 lo st h) := run_s rfl
theorem rq_X10_addKinds_15 {lo : Lo} {st : List Value} {h : Hp} {Q : Option Value → Hp → Prop} : Run 163 15 lo st h Q = Cnt 163 Q (xo_iload 1 16 lo st h) := run_s rfl
theorem rq_X10_addKinds_16 {lo : Lo} {st : List Value} {h : Hp} {Q : Option Value → Hp → Prop} : Run 163 16 lo st h Q = Cnt 163 Q (xo_bin (fun x y => x * y) 17 lo st h) := run_s rfl
theorem rq_X10_addKinds_17 {lo : Lo} {st : List Value} {h : Hp} {Q : Option Value → Hp → Prop} : Run 163 17 lo st h Q = Cnt 163 Q (xo_iload 2 18 lo st h) := run_s rfl
theorem rq_X10_addKinds_18 {lo : Lo} {st : List Value} {h : Hp} {Q : Option Value → Hp → Prop} : Run 163 18 lo st h Q = Cnt 163 Q (xo_bin (fun x y => x + y) 19 lo st h) := run_s rfl
theorem rq_X10_addKinds_19 {lo : Lo} {st : List Value} {h : Hp} {Q : Option Value → Hp → Prop} : Run 163 19 lo st h Q = CCall 161 2 (some 10) st h (Knt 163 22 lo (st.drop 2) Q) := run_c rfl
theorem rq_X10_addKinds_22 {lo : Lo} {st : List Value} {h : Hp} {Q : Option Value → Hp → Prop} : Run 163 22 lo st h Q = Cnt 163 Q (xo_istore 3 23 lo st h) := run_s rfl
theorem rq_X10_addKinds_23 {lo : Lo} {st : List Value} {h : Hp} {Q : Option Value → Hp → Prop} : Run 163 23 lo st h Q = Cnt 163 Q (xo_aload 0 24 lo st h) := run_s rfl
theorem rq_X10_addKinds_24 {lo : Lo} {st : List Value} {h : Hp} {Q : Option Value → Hp → Prop} : Run 163 24 lo st h Q = Cnt 163 Q (xo_iload 3 25 lo st h) := run_s rfl
theorem rq_X10_addKinds_25 {lo : Lo} {st : List Value} {h : Hp} {Q : Option Value → Hp → Prop} : Run 163 25 lo st h Q = CCall 162 2 (some 10) st h (Knt 163 28 lo (st.drop 2) Q) := run_c rfl
theorem rq_X10_addKinds_28 {lo : Lo} {st : List Value} {h : Hp} {Q : Option Value → Hp → Prop} : Run 163 28 lo st h Q = Cnt 163 Q (xo_if1 (fun x => decide (¬ x = 0)) 51 31 lo st h) := run_s rfl
theorem rq_X10_addKinds_31 {lo : Lo} {st : List Value} {h : Hp} {Q : Option Value → Hp → Prop} : Run 163 31 lo st h Q = Cnt 163 Q (xo_aload 0 32 lo st h) := run_s rfl
theorem rq_X10_addKinds_32 {lo : Lo} {st : List Value} {h : Hp} {Q : Option Value → Hp → Prop} : Run 163 32 lo st h Q = Cnt 163 Q (xo_getf 10 17 35 lo st h) := run_s rfl
theorem rq_X10_addKinds_35 {lo : Lo} {st : List Value} {h : Hp} {Q : Option Value → Hp → Prop} : Run 163 35 lo st h Q = Cnt 163 Q (xo_aload 0 36 lo st h) := run_s rfl
theorem rq_X10_addKinds_36 {lo : Lo} {st : List Value} {h : Hp} {Q : Option Value → Hp → Prop} : Run 163 36 lo st h Q = Cnt 163 Q (xo_getf 10 16 39 lo st h) := run_s rfl
theorem rq_X10_addKinds_39 {lo : Lo} {st : List Value} {h : Hp} {Q : Option Value → Hp → Prop} : Run 163 39 lo st h Q = Cnt 163 Q (xo_iload 3 40 lo st h) := run_s rfl
theorem rq_X10_addKinds_40 {lo : Lo} {st : List Value} {h : Hp} {Q : Option Value → Hp → Prop} : Run 163 40 lo st h Q = Cnt 163 Q (xo_iast 41 lo st h) := run_s rfl
theorem rq_X10_addKinds_41 {lo : Lo} {st : List Value} {h : Hp} {Q : Option Value → Hp → Prop} : Run 163 41 lo st h Q = Cnt 163 Q (xo_aload 0 42 lo st h) := run_s rfl
theorem rq_X10_addKinds_42 {lo : Lo} {st : List Value} {h : Hp} {Q : Option Value → Hp → Prop} : Run 163 42 lo st h Q = Cnt 163 Q (xo_dup 43 lo st h) := run_s rfl
theorem rq_X10_addKinds_43 {lo : Lo} {st : List Value} {h : Hp} {Q : Option Value → Hp → Prop} : Run 163 43 lo st h Q = Cnt 163 Q (xo_getf 10 16 46 lo st h) := run_s rfl
theorem rq_X10_addKinds_46 {lo : Lo} {st : List Value} {h : Hp} {Q : Option Value → Hp → Prop} : Run 163 46 lo st h Q = Cnt 163 Q (xo_const (.int 1) 47 lo st h) := run_s rfl
theorem rq_X10_addKinds_47 {lo : Lo} {st : List Value} {h : Hp} {Q : Option Value → Hp → Prop} : Run 163 47 lo st h Q = Cnt 163 Q (xo_bin (fun x y => x + y) 48 lo st h) := run_s rfl
theorem rq_X10_addKinds_48 {lo : Lo} {st : List Value} {h : Hp} {Q : Option Value → Hp → Prop} : Run 163 48 lo st h Q = Cnt 163 Q (xo_putf 10 16 true 51 lo st h) := run_s rfl
theorem rq_X10_addKinds_51 {lo : Lo} {st : List Value} {h : Hp} {Q : Option Value → Hp → Prop} : Run 163 51 lo st h Q = Cnt 163 Q (xo_iinc 2 1 54 lo st h) := run_s rfl
theorem rq_X10_addKinds_54 {lo : Lo} {st : List Value} {h : Hp} {Q : Option Value → Hp → Prop} : Run 163 54 lo st h Q = Cnt 163 Q (xo_goto 2 lo st h) := run_s rfl
theorem rq_X10_addKinds_57 {lo : Lo} {st : List Value} {h : Hp} {Q : Option Value → Hp → Prop} : Run 163 57 lo st h Q = Cnt 163 Q (xo_vret lo st h) := run_s rfl
theorem rq_X10_findKinds_0 {lo : Lo} {st : List Value} {h : Hp} {Q : Option Value → Hp → Prop} : Run 164 0 lo st h Q = Cnt 164 Q (xo_aload 0 1 lo st h) := run_s rfl
theorem rq_X10_findKinds_1 {lo : Lo} {st : List Value} {h : Hp} {Q : Option Value → Hp → Prop} : Run 164 1 lo st h Q = Cnt 164 Q (xo_const (.int 0) 2 lo st h) := run_s rfl
theorem rq_X10_findKinds_2 {lo : Lo} {st : List Value} {h : Hp} {Q : Option Value → Hp → Prop} : Run 164 2 lo st h Q = Cnt 164 Q (xo_putf 10 16 true 5 lo st h) := run_s rfl
theorem rq_X10_findKinds_5 {lo : Lo} {st : List Value} {h : Hp} {Q : Option Value → Hp → Prop} : Run 164 5 lo st h Q = Cnt 164 Q (xo_const (.int 0) 6 lo st h) := run_s rfl
theorem rq_X10_findKinds_6 {lo : Lo} {st : List Value} {h : Hp} {Q : Option Value → Hp → Prop} : Run 164 6 lo st h Q = Cnt 164 Q (xo_istore 1 7 lo st h) := run_s rfl
theorem rq_X10_findKinds_7 {lo : Lo} {st : List Value} {h : Hp} {Q : Option Value → Hp → Prop} : Run 164 7 lo st h Q = Cnt 164 Q (xo_iload 1 8 lo st h) := run_s rfl
theorem rq_X10_findKinds_8 {lo : Lo} {st : List Value} {h : Hp} {Q : Option Value → Hp → Prop} : Run 164 8 lo st h Q = Cnt 164 Q (xo_const (.int 26) 10 lo st h) := run_s rfl
theorem rq_X10_findKinds_10 {lo : Lo} {st : List Value} {h : Hp} {Q : Option Value → Hp → Prop} : Run 164 10 lo st h Q = Cnt 164 Q (xo_if2 (fun x y => decide (x > y)) 24 13 lo st h) := run_s rfl
theorem rq_X10_findKinds_13 {lo : Lo} {st : List Value} {h : Hp} {Q : Option Value → Hp → Prop} : Run 164 13 lo st h Q = Cnt 164 Q (xo_aload 0 14 lo st h) := run_s rfl
theorem rq_X10_findKinds_14 {lo : Lo} {st : List Value} {h : Hp} {Q : Option Value → Hp → Prop} : Run 164 14 lo st h Q = Cnt 164 Q (xo_iload 1 15 lo st h) := run_s rfl
theorem rq_X10_findKinds_15 {lo : Lo} {st : List Value} {h : Hp} {Q : Option Value → Hp → Prop} : Run 164 15 lo st h Q = CCall 163 2 (some 10) st h (Knt 164 18 lo (st.drop 2) Q) := run_c rfl
theorem rq_X10_findKinds_18 {lo : Lo} {st : List Value} {h : Hp} {Q : Option Value → Hp → Prop} : Run 164 18 lo st h Q = Cnt 164 Q (xo_iinc 1 1 21 lo st h) := run_s rfl
theorem rq_X10_findKinds_21 {lo : Lo} {st : List Value} {h : Hp} {Q : Option Value → Hp → Prop} : Run 164 21 lo st h Q = Cnt 164 Q (xo_goto 7 lo st h) := run_s rfl
theorem rq_X10_findKinds_24 {lo : Lo} {st : List Value} {h : Hp} {Q : Option Value → Hp → Prop} : Run 164 24 lo st h Q = Cnt 164 Q (xo_vret lo st h) := run_s rfl
theorem rq_X10_leastX_0 {lo : Lo} {st : List Value} {h : Hp} {Q : Option Value → Hp → Prop} : Run 165 0 lo st h Q = Cnt 165 Q (xo_const (.int 0) 1 lo st h) := run_s rfl
theorem rq_X10_leastX_1 {lo : Lo} {st : List Value} {h : Hp} {Q : Option Value → Hp → Prop} : Run 165 1 lo st h Q = Cnt 165 Q (xo_istore 1 2 lo st h) := run_s rfl
theorem rq_X10_leastX_2 {lo : Lo} {st : List Value} {h : Hp} {Q : Option Value → Hp → Prop} : Run 165 2 lo st h Q = Cnt 165 Q (xo_iload 1 3 lo st h) := run_s rfl
theorem rq_X10_leastX_3 {lo : Lo} {st : List Value} {h : Hp} {Q : Option Value → Hp → Prop} : Run 165 3 lo st h Q = Cnt 165 Q (xo_const (.int 32) 5 lo st h) := run_s rfl
theorem rq_X10_leastX_5 {lo : Lo} {st : List Value} {h : Hp} {Q : Option Value → Hp → Prop} : Run 165 5 lo st h Q = Cnt 165 Q (xo_if2 (fun x y => decide (x ≥ y)) 44 8 lo st h) := run_s rfl
theorem rq_X10_leastX_8 {lo : Lo} {st : List Value} {h : Hp} {Q : Option Value → Hp → Prop} : Run 165 8 lo st h Q = Cnt 165 Q (xo_const (.int 0) 9 lo st h) := run_s rfl
theorem rq_X10_leastX_9 {lo : Lo} {st : List Value} {h : Hp} {Q : Option Value → Hp → Prop} : Run 165 9 lo st h Q = Cnt 165 Q (xo_istore 2 10 lo st h) := run_s rfl
theorem rq_X10_leastX_10 {lo : Lo} {st : List Value} {h : Hp} {Q : Option Value → Hp → Prop} : Run 165 10 lo st h Q = Cnt 165 Q (xo_iload 2 11 lo st h) := run_s rfl
theorem rq_X10_leastX_11 {lo : Lo} {st : List Value} {h : Hp} {Q : Option Value → Hp → Prop} : Run 165 11 lo st h Q = Cnt 165 Q (xo_const (.int 32) 13 lo st h) := run_s rfl
theorem rq_X10_leastX_13 {lo : Lo} {st : List Value} {h : Hp} {Q : Option Value → Hp → Prop} : Run 165 13 lo st h Q = Cnt 165 Q (xo_if2 (fun x y => decide (x ≥ y)) 38 16 lo st h) := run_s rfl
theorem rq_X10_leastX_16 {lo : Lo} {st : List Value} {h : Hp} {Q : Option Value → Hp → Prop} : Run 165 16 lo st h Q = Cnt 165 Q (xo_aload 0 17 lo st h) := run_s rfl
theorem rq_X10_leastX_17 {lo : Lo} {st : List Value} {h : Hp} {Q : Option Value → Hp → Prop} : Run 165 17 lo st h Q = Cnt 165 Q (xo_getf 10 11 20 lo st h) := run_s rfl
theorem rq_X10_leastX_20 {lo : Lo} {st : List Value} {h : Hp} {Q : Option Value → Hp → Prop} : Run 165 20 lo st h Q = Cnt 165 Q (xo_iload 2 21 lo st h) := run_s rfl
theorem rq_X10_leastX_21 {lo : Lo} {st : List Value} {h : Hp} {Q : Option Value → Hp → Prop} : Run 165 21 lo st h Q = Cnt 165 Q (xo_iald 22 lo st h) := run_s rfl
theorem rq_X10_leastX_22 {lo : Lo} {st : List Value} {h : Hp} {Q : Option Value → Hp → Prop} : Run 165 22 lo st h Q = Cnt 165 Q (xo_iload 1 23 lo st h) := run_s rfl
theorem rq_X10_leastX_23 {lo : Lo} {st : List Value} {h : Hp} {Q : Option Value → Hp → Prop} : Run 165 23 lo st h Q = Cnt 165 Q (xo_bin (fun x y => x >>> (y &&& 31)) 24 lo st h) := run_s rfl
theorem rq_X10_leastX_24 {lo : Lo} {st : List Value} {h : Hp} {Q : Option Value → Hp → Prop} : Run 165 24 lo st h Q = Cnt 165 Q (xo_const (.int 1) 25 lo st h) := run_s rfl
theorem rq_X10_leastX_25 {lo : Lo} {st : List Value} {h : Hp} {Q : Option Value → Hp → Prop} : Run 165 25 lo st h Q = Cnt 165 Q (xo_bin (fun x y => x &&& y) 26 lo st h) := run_s rfl
theorem rq_X10_leastX_26 {lo : Lo} {st : List Value} {h : Hp} {Q : Option Value → Hp → Prop} : Run 165 26 lo st h Q = Cnt 165 Q (xo_const (.int 1) 27 lo st h) := run_s rfl
theorem rq_X10_leastX_27 {lo : Lo} {st : List Value} {h : Hp} {Q : Option Value → Hp → Prop} : Run 165 27 lo st h Q = Cnt 165 Q (xo_if2 (fun x y => decide (¬ x = y)) 32 30 lo st h) := run_s rfl
theorem rq_X10_leastX_30 {lo : Lo} {st : List Value} {h : Hp} {Q : Option Value → Hp → Prop} : Run 165 30 lo st h Q = Cnt 165 Q (xo_iload 1 31 lo st h) := run_s rfl
theorem rq_X10_leastX_31 {lo : Lo} {st : List Value} {h : Hp} {Q : Option Value → Hp → Prop} : Run 165 31 lo st h Q = Cnt 165 Q (xo_iret lo st h) := run_s rfl
theorem rq_X10_leastX_32 {lo : Lo} {st : List Value} {h : Hp} {Q : Option Value → Hp → Prop} : Run 165 32 lo st h Q = Cnt 165 Q (xo_iinc 2 1 35 lo st h) := run_s rfl
theorem rq_X10_leastX_35 {lo : Lo} {st : List Value} {h : Hp} {Q : Option Value → Hp → Prop} : Run 165 35 lo st h Q = Cnt 165 Q (xo_goto 10 lo st h) := run_s rfl
theorem rq_X10_leastX_38 {lo : Lo} {st : List Value} {h : Hp} {Q : Option Value → Hp → Prop} : Run 165 38 lo st h Q = Cnt 165 Q (xo_iinc 1 1 41 lo st h) := run_s rfl
theorem rq_X10_leastX_41 {lo : Lo} {st : List Value} {h : Hp} {Q : Option Value → Hp → Prop} : Run 165 41 lo st h Q = Cnt 165 Q (xo_goto 2 lo st h) := run_s rfl
theorem rq_X10_leastX_44 {lo : Lo} {st : List Value} {h : Hp} {Q : Option Value → Hp → Prop} : Run 165 44 lo st h Q = Cnt 165 Q (xo_const (.int (-9)) 46 lo st h) := run_s rfl
theorem rq_X10_leastX_46 {lo : Lo} {st : List Value} {h : Hp} {Q : Option Value → Hp → Prop} : Run 165 46 lo st h Q = Cnt 165 Q (xo_iret lo st h) := run_s rfl
theorem rq_X10_greatestX_0 {lo : Lo} {st : List Value} {h : Hp} {Q : Option Value → Hp → Prop} : Run 166 0 lo st h Q = Cnt 166 Q (xo_const (.int 31) 2 lo st h) := run_s rfl
theorem rq_X10_greatestX_2 {lo : Lo} {st : List Value} {h : Hp} {Q : Option Value → Hp → Prop} : Run 166 2 lo st h Q = Cnt 166 Q (xo_istore 1 3 lo st h) := run_s rfl
theorem rq_X10_greatestX_3 {lo : Lo} {st : List Value} {h : Hp} {Q : Option Value → Hp → Prop} : Run 166 3 lo st h Q = Cnt 166 Q (xo_iload 1 4 lo st h) := run_s rfl
theorem rq_X10_greatestX_4 {lo : Lo} {st : List Value} {h : Hp} {Q : Option Value → Hp → Prop} : Run 166 4 lo st h Q = Cnt 166 Q (xo_if1 (fun x => decide (x < 0)) 43 7 lo st h) := run_s rfl
theorem rq_X10_greatestX_7 {lo : Lo} {st : List Value} {h : Hp} {Q : Option Value → Hp → Prop} : Run 166 7 lo st h Q = Cnt 166 Q (xo_const (.int 0) 8 lo st h) := run_s rfl
theorem rq_X10_greatestX_8 {lo : Lo} {st : List Value} {h : Hp} {Q : Option Value → Hp → Prop} : Run 166 8 lo st h Q = Cnt 166 Q (xo_istore 2 9 lo st h) := run_s rfl
theorem rq_X10_greatestX_9 {lo : Lo} {st : List Value} {h : Hp} {Q : Option Value → Hp → Prop} : Run 166 9 lo st h Q = Cnt 166 Q (xo_iload 2 10 lo st h) := run_s rfl
theorem rq_X10_greatestX_10 {lo : Lo} {st : List Value} {h : Hp} {Q : Option Value → Hp → Prop} : Run 166 10 lo st h Q = Cnt 166 Q (xo_const (.int 32) 12 lo st h) := run_s rfl
theorem rq_X10_greatestX_12 {lo : Lo} {st : List Value} {h : Hp} {Q : Option Value → Hp → Prop} : Run 166 12 lo st h Q = Cnt 166 Q (xo_if2 (fun x y => decide (x ≥ y)) 37 15 lo st h) := run_s rfl
theorem rq_X10_greatestX_15 {lo : Lo} {st : List Value} {h : Hp} {Q : Option Value → Hp → Prop} : Run 166 15 lo st h Q = Cnt 166 Q (xo_aload 0 16 lo st h) := run_s rfl
theorem rq_X10_greatestX_16 {lo : Lo} {st : List Value} {h : Hp} {Q : Option Value → Hp → Prop} : Run 166 16 lo st h Q = Cnt 166 Q (xo_getf 10 11 19 lo st h) := run_s rfl
theorem rq_X10_greatestX_19 {lo : Lo} {st : List Value} {h : Hp} {Q : Option Value → Hp → Prop} : Run 166 19 lo st h Q = Cnt 166 Q (xo_iload 2 20 lo st h) := run_s rfl
theorem rq_X10_greatestX_20 {lo : Lo} {st : List Value} {h : Hp} {Q : Option Value → Hp → Prop} : Run 166 20 lo st h Q = Cnt 166 Q (xo_iald 21 lo st h) := run_s rfl
theorem rq_X10_greatestX_21 {lo : Lo} {st : List Value} {h : Hp} {Q : Option Value → Hp → Prop} : Run 166 21 lo st h Q = Cnt 166 Q (xo_iload 1 22 lo st h) := run_s rfl
theorem rq_X10_greatestX_22 {lo : Lo} {st : List Value} {h : Hp} {Q : Option Value → Hp → Prop} : Run 166 22 lo st h Q = Cnt 166 Q (xo_bin (fun x y => x >>> (y &&& 31)) 23 lo st h) := run_s rfl
theorem rq_X10_greatestX_23 {lo : Lo} {st : List Value} {h : Hp} {Q : Option Value → Hp → Prop} : Run 166 23 lo st h Q = Cnt 166 Q (xo_const (.int 1) 24 lo st h) := run_s rfl
theorem rq_X10_greatestX_24 {lo : Lo} {st : List Value} {h : Hp} {Q : Option Value → Hp → Prop} : Run 166 24 lo st h Q = Cnt 166 Q (xo_bin (fun x y => x &&& y) 25 lo st h) := run_s rfl
theorem rq_X10_greatestX_25 {lo : Lo} {st : List Value} {h : Hp} {Q : Option Value → Hp → Prop} : Run 166 25 lo st h Q = Cnt 166 Q (xo_const (.int 1) 26 lo st h) := run_s rfl
theorem rq_X10_greatestX_26 {lo : Lo} {st : List Value} {h : Hp} {Q : Option Value → Hp → Prop} : Run 166 26 lo st h Q = Cnt 166 Q (xo_if2 (fun x y => decide (¬ x = y)) 31 29 lo st h) := run_s rfl
theorem rq_X10_greatestX_29 {lo : Lo} {st : List Value} {h : Hp} {Q : Option Value → Hp → Prop} : Run 166 29 lo st h Q = Cnt 166 Q (xo_iload 1 30 lo st h) := run_s rfl
theorem rq_X10_greatestX_30 {lo : Lo} {st : List Value} {h : Hp} {Q : Option Value → Hp → Prop} : Run 166 30 lo st h Q = Cnt 166 Q (xo_iret lo st h) := run_s rfl
theorem rq_X10_greatestX_31 {lo : Lo} {st : List Value} {h : Hp} {Q : Option Value → Hp → Prop} : Run 166 31 lo st h Q = Cnt 166 Q (xo_iinc 2 1 34 lo st h) := run_s rfl
theorem rq_X10_greatestX_34 {lo : Lo} {st : List Value} {h : Hp} {Q : Option Value → Hp → Prop} : Run 166 34 lo st h Q = Cnt 166 Q (xo_goto 9 lo st h) := run_s rfl
theorem rq_X10_greatestX_37 {lo : Lo} {st : List Value} {h : Hp} {Q : Option Value → Hp → Prop} : Run 166 37 lo st h Q = Cnt 166 Q (xo_iinc 1 (-1) 40 lo st h) := run_s rfl
theorem rq_X10_greatestX_40 {lo : Lo} {st : List Value} {h : Hp} {Q : Option Value → Hp → Prop} : Run 166 40 lo st h Q = Cnt 166 Q (xo_goto 3 lo st h) := run_s rfl
theorem rq_X10_greatestX_43 {lo : Lo} {st : List Value} {h : Hp} {Q : Option Value → Hp → Prop} : Run 166 43 lo st h Q = Cnt 166 Q (xo_const (.int (-9)) 45 lo st h) := run_s rfl
theorem rq_X10_greatestX_45 {lo : Lo} {st : List Value} {h : Hp} {Q : Option Value → Hp → Prop} : Run 166 45 lo st h Q = Cnt 166 Q (xo_iret lo st h) := run_s rfl
theorem rq_X10_ofLetter_0 {lo : Lo} {st : List Value} {h : Hp} {Q : Option Value → Hp → Prop} : Run 167 0 lo st h Q = Cnt 167 Q (xo_aload 0 1 lo st h) := run_s rfl
theorem rq_X10_ofLetter_1 {lo : Lo} {st : List Value} {h : Hp} {Q : Option Value → Hp → Prop} : Run 167 1 lo st h Q = Cnt 167 Q (xo_iload 1 2 lo st h) := run_s rfl
theorem rq_X10_ofLetter_2 {lo : Lo} {st : List Value} {h : Hp} {Q : Option Value → Hp → Prop} : Run 167 2 lo st h Q = CCall 154 2 (some 10) st h (Knt 167 5 lo (st.drop 2) Q) := run_c rfl
theorem rq_X10_ofLetter_5 {lo : Lo} {st : List Value} {h : Hp} {Q : Option Value → Hp → Prop} : Run 167 5 lo st h Q = Cnt 167 Q (xo_if1 (fun x => decide (¬ x = 0)) 10 8 lo st h) := run_s rfl
theorem rq_X10_ofLetter_8 {lo : Lo} {st : List Value} {h : Hp} {Q : Option Value → Hp → Prop} : Run 167 8 lo st h Q = Cnt 167 Q (xo_const (.int (-1)) 9 lo st h) := run_s rfl
theorem rq_X10_ofLetter_9 {lo : Lo} {st : List Value} {h : Hp} {Q : Option Value → Hp → Prop} : Run 167 9 lo st h Q = Cnt 167 Q (xo_iret lo st h) := run_s rfl
theorem rq_X10_ofLetter_10 {lo : Lo} {st : List Value} {h : Hp} {Q : Option Value → Hp → Prop} : Run 167 10 lo st h Q = Cnt 167 Q (xo_aload 0 11 lo st h) := run_s rfl
theorem rq_X10_ofLetter_11 {lo : Lo} {st : List Value} {h : Hp} {Q : Option Value → Hp → Prop} : Run 167 11 lo st h Q = Cnt 167 Q (xo_iload 1 12 lo st h) := run_s rfl
theorem rq_X10_ofLetter_12 {lo : Lo} {st : List Value} {h : Hp} {Q : Option Value → Hp → Prop} : Run 167 12 lo st h Q = CCall 127 2 (some 10) st h (Knt 167 15 lo (st.drop 2) Q) := run_c rfl
theorem rq_X10_ofLetter_15 {lo : Lo} {st : List Value} {h : Hp} {Q : Option Value → Hp → Prop} : Run 167 15 lo st h Q = Cnt 167 Q (xo_iload 2 16 lo st h) := run_s rfl
theorem rq_X10_ofLetter_16 {lo : Lo} {st : List Value} {h : Hp} {Q : Option Value → Hp → Prop} : Run 167 16 lo st h Q = Cnt 167 Q (xo_sw (xtab 16 96 0 6 #[44, 51, 56, 56, 71, 86, 91]) lo st h) := run_s rfl
theorem rq_X10_ofLetter_60 {lo : Lo} {st : List Value} {h : Hp} {Q : Option Value → Hp → Prop} : Run 167 60 lo st h Q = Cnt 167 Q (xo_aload 0 61 lo st h) := run_s rfl
theorem rq_X10_ofLetter_61 {lo : Lo} {st : List Value} {h : Hp} {Q : Option Value → Hp → Prop} : Run 167 61 lo st h Q = Cnt 167 Q (xo_getf 10 5 64 lo st h) := run_s rfl
theorem rq_X10_ofLetter_64 {lo : Lo} {st : List Value} {h : Hp} {Q : Option Value → Hp → Prop} : Run 167 64 lo st h Q = Cnt 167 Q (xo_iload 1 65 lo st h) := run_s rfl
theorem rq_X10_ofLetter_65 {lo : Lo} {st : List Value} {h : Hp} {Q : Option Value → Hp → Prop} : Run 167 65 lo st h Q = Cnt 167 Q (xo_iald 66 lo st h) := run_s rfl
theorem rq_X10_ofLetter_66 {lo : Lo} {st : List Value} {h : Hp} {Q : Option Value → Hp → Prop} : Run 167 66 lo st h Q = Cnt 167 Q (xo_iret lo st h) := run_s rfl
theorem rq_X10_ofLetter_67 {lo : Lo} {st : List Value} {h : Hp} {Q : Option Value → Hp → Prop} : Run 167 67 lo st h Q = Cnt 167 Q (xo_aload 0 68 lo st h) := run_s rfl
theorem rq_X10_ofLetter_68 {lo : Lo} {st : List Value} {h : Hp} {Q : Option Value → Hp → Prop} : Run 167 68 lo st h Q = CCall 130 1 (some 10) st h (Knt 167 71 lo (st.drop 1) Q) := run_c rfl
theorem rq_X10_ofLetter_71 {lo : Lo} {st : List Value} {h : Hp} {Q : Option Value → Hp → Prop} : Run 167 71 lo st h Q = Cnt 167 Q (xo_iret lo st h) := run_s rfl
theorem rq_X10_ofLetter_72 {lo : Lo} {st : List Value} {h : Hp} {Q : Option Value → Hp → Prop} : Run 167 72 lo st h Q = Cnt 167 Q (xo_aload 0 73 lo st h) := run_s rfl
theorem rq_X10_ofLetter_73 {lo : Lo} {st : List Value} {h : Hp} {Q : Option Value → Hp → Prop} : Run 167 73 lo st h Q = Cnt 167 Q (xo_iload 2 74 lo st h) := run_s rfl
theorem rq_X10_ofLetter_74 {lo : Lo} {st : List Value} {h : Hp} {Q : Option Value → Hp → Prop} : Run 167 74 lo st h Q = Cnt 167 Q (xo_const (.int 2) 75 lo st h) := run_s rfl
theorem rq_X10_ofLetter_75 {lo : Lo} {st : List Value} {h : Hp} {Q : Option Value → Hp → Prop} : Run 167 75 lo st h Q = Cnt 167 Q (xo_if2 (fun x y => decide (¬ x = y)) 82 78 lo st h) := run_s rfl
theorem rq_X10_ofLetter_78 {lo : Lo} {st : List Value} {h : Hp} {Q : Option Value → Hp → Prop} : Run 167 78 lo st h Q = Cnt 167 Q (xo_const (.int 1) 79 lo st h) := run_s rfl
theorem rq_X10_ofLetter_79 {lo : Lo} {st : List Value} {h : Hp} {Q : Option Value → Hp → Prop} : Run 167 79 lo st h Q = Cnt 167 Q (xo_goto 83 lo st h) := run_s rfl
theorem rq_X10_ofLetter_82 {lo : Lo} {st : List Value} {h : Hp} {Q : Option Value → Hp → Prop} : Run 167 82 lo st h Q = Cnt 167 Q (xo_const (.int 0) 83 lo st h) := run_s rfl
theorem rq_X10_ofLetter_83 {lo : Lo} {st : List Value} {h : Hp} {Q : Option Value → Hp → Prop} : Run 167 83 lo st h Q = CCall 152 2 (some 10) st h (Knt 167 86 lo (st.drop 2) Q) := run_c rfl
theorem rq_X10_ofLetter_86 {lo : Lo} {st : List Value} {h : Hp} {Q : Option Value → Hp → Prop} : Run 167 86 lo st h Q = Cnt 167 Q (xo_iret lo st h) := run_s rfl
theorem rq_X10_ofLetter_87 {lo : Lo} {st : List Value} {h : Hp} {Q : Option Value → Hp → Prop} : Run 167 87 lo st h Q = Cnt 167 Q (xo_aload 0 88 lo st h) := run_s rfl
theorem rq_X10_ofLetter_88 {lo : Lo} {st : List Value} {h : Hp} {Q : Option Value → Hp → Prop} : Run 167 88 lo st h Q = Cnt 167 Q (xo_const (.int 0) 89 lo st h) := run_s rfl
theorem rq_X10_ofLetter_89 {lo : Lo} {st : List Value} {h : Hp} {Q : Option Value → Hp → Prop} : Run 167 89 lo st h Q = Cnt 167 Q (xo_putf 10 16 true 92 lo st h) := run_s rfl
theorem rq_X10_ofLetter_92 {lo : Lo} {st : List Value} {h : Hp} {Q : Option Value → Hp → Prop} : Run 167 92 lo st h Q = Cnt 167 Q (xo_aload 0 93 lo st h) := run_s rfl
theorem rq_X10_ofLetter_93 {lo : Lo} {st : List Value} {h : Hp} {Q : Option Value → Hp → Prop} : Run 167 93 lo st h Q = Cnt 167 Q (xo_iload 1 94 lo st h) := run_s rfl
theorem rq_X10_ofLetter_94 {lo : Lo} {st : List Value} {h : Hp} {Q : Option Value → Hp → Prop} : Run 167 94 lo st h Q = CCall 163 2 (some 10) st h (Knt 167 97 lo (st.drop 2) Q) := run_c rfl
theorem rq_X10_ofLetter_97 {lo : Lo} {st : List Value} {h : Hp} {Q : Option Value → Hp → Prop} : Run 167 97 lo st h Q = Cnt 167 Q (xo_aload 0 98 lo st h) := run_s rfl
theorem rq_X10_ofLetter_98 {lo : Lo} {st : List Value} {h : Hp} {Q : Option Value → Hp → Prop} : Run 167 98 lo st h Q = Cnt 167 Q (xo_getf 10 16 101 lo st h) := run_s rfl
theorem rq_X10_ofLetter_101 {lo : Lo} {st : List Value} {h : Hp} {Q : Option Value → Hp → Prop} : Run 167 101 lo st h Q = Cnt 167 Q (xo_iret lo st h) := run_s rfl
theorem rq_X10_ofLetter_102 {lo : Lo} {st : List Value} {h : Hp} {Q : Option Value → Hp → Prop} : Run 167 102 lo st h Q = Cnt 167 Q (xo_aload 0 103 lo st h) := run_s rfl
theorem rq_X10_ofLetter_103 {lo : Lo} {st : List Value} {h : Hp} {Q : Option Value → Hp → Prop} : Run 167 103 lo st h Q = CCall 165 1 (some 10) st h (Knt 167 106 lo (st.drop 1) Q) := run_c rfl
theorem rq_X10_ofLetter_106 {lo : Lo} {st : List Value} {h : Hp} {Q : Option Value → Hp → Prop} : Run 167 106 lo st h Q = Cnt 167 Q (xo_iret lo st h) := run_s rfl
theorem rq_X10_ofLetter_107 {lo : Lo} {st : List Value} {h : Hp} {Q : Option Value → Hp → Prop} : Run 167 107 lo st h Q = Cnt 167 Q (xo_aload 0 108 lo st h) := run_s rfl
theorem rq_X10_ofLetter_108 {lo : Lo} {st : List Value} {h : Hp} {Q : Option Value → Hp → Prop} : Run 167 108 lo st h Q = CCall 166 1 (some 10) st h (Knt 167 111 lo (st.drop 1) Q) := run_c rfl
theorem rq_X10_ofLetter_111 {lo : Lo} {st : List Value} {h : Hp} {Q : Option Value → Hp → Prop} : Run 167 111 lo st h Q = Cnt 167 Q (xo_iret lo st h) := run_s rfl
theorem rq_X10_ofLetter_112 {lo : Lo} {st : List Value} {h : Hp} {Q : Option Value → Hp → Prop} : Run 167 112 lo st h Q = Cnt 167 Q (xo_const (.int (-2)) 114 lo st h) := run_s rfl
theorem rq_X10_ofLetter_114 {lo : Lo} {st : List Value} {h : Hp} {Q : Option Value → Hp → Prop} : Run 167 114 lo st h Q = Cnt 167 Q (xo_iret lo st h) := run_s rfl
theorem rq_X10_kind_0 {lo : Lo} {st : List Value} {h : Hp} {Q : Option Value → Hp → Prop} : Run 168 0 lo st h Q = Cnt 168 Q (xo_aload 0 1 lo st h) := run_s rfl
theorem rq_X10_kind_1 {lo : Lo} {st : List Value} {h : Hp} {Q : Option Value → Hp → Prop} : Run 168 1 lo st h Q = Cnt 168 Q (xo_iload 1 2 lo st h) := run_s rfl
theorem rq_X10_kind_2 {lo : Lo} {st : List Value} {h : Hp} {Q : Option Value → Hp → Prop} : Run 168 2 lo st h Q = CCall 118 2 (some 10) st h (Knt 168 5 lo (st.drop 2) Q) := run_c rfl
theorem rq_X10_kind_5 {lo : Lo} {st : List Value} {h : Hp} {Q : Option Value → Hp → Prop} : Run 168 5 lo st h Q = Cnt 168 Q (xo_if1 (fun x => decide (¬ x = 0)) 10 8 lo st h) := run_s rfl
theorem rq_X10_kind_8 {lo : Lo} {st : List Value} {h : Hp} {Q : Option Value → Hp → Prop} : Run 168 8 lo st h Q = Cnt 168 Q (xo_const (.int (-1)) 9 lo st h) := run_s rfl
theorem rq_X10_kind_9 {lo : Lo} {st : List Value} {h : Hp} {Q : Option Value → Hp → Prop} : Run 168 9 lo st h Q = Cnt 168 Q (xo_iret lo st h) := run_s rfl
theorem rq_X10_kind_10 {lo : Lo} {st : List Value} {h : Hp} {Q : Option Value → Hp → Prop} : Run 168 10 lo st h Q = Cnt 168 Q (xo_aload 0 11 lo st h) := run_s rfl
theorem rq_X10_kind_11 {lo : Lo} {st : List Value} {h : Hp} {Q : Option Value → Hp → Prop} : Run 168 11 lo st h Q = Cnt 168 Q (xo_const (.int 156) 14 lo st h) := run_s rfl
theorem rq_X10_kind_14 {lo : Lo} {st : List Value} {h : Hp} {Q : Option Value → Hp → Prop} : Run 168 14 lo st h Q = Cnt 168 Q (xo_iload 1 15 lo st h) := run_s rfl
theorem rq_X10_kind_15 {lo : Lo} {st : List Value} {h : Hp} {Q : Option Value → Hp → Prop} : Run 168 15 lo st h Q = Cnt 168 Q (xo_bin (fun x y => x + y) 16 lo st h) := run_s rfl
theorem rq_X10_kind_16 {lo : Lo} {st : List Value} {h : Hp} {Q : Option Value → Hp → Prop} : Run 168 16 lo st h Q = CCall 161 2 (some 10) st h (Knt 168 19 lo (st.drop 2) Q) := run_c rfl
theorem rq_X10_kind_19 {lo : Lo} {st : List Value} {h : Hp} {Q : Option Value → Hp → Prop} : Run 168 19 lo st h Q = Cnt 168 Q (xo_istore 2 20 lo st h) := run_s rfl
theorem rq_X10_kind_20 {lo : Lo} {st : List Value} {h : Hp} {Q : Option Value → Hp → Prop} : Run 168 20 lo st h Q = Cnt 168 Q (xo_aload 0 21 lo st h) := run_s rfl
theorem rq_X10_kind_21 {lo : Lo} {st : List Value} {h : Hp} {Q : Option Value → Hp → Prop} : Run 168 21 lo st h Q = CCall 164 1 (some 10) st h (Knt 168 24 lo (st.drop 1) Q) := run_c rfl
theorem rq_X10_kind_24 {lo : Lo} {st : List Value} {h : Hp} {Q : Option Value → Hp → Prop} : Run 168 24 lo st h Q = Cnt 168 Q (xo_const (.int 0) 25 lo st h) := run_s rfl
theorem rq_X10_kind_25 {lo : Lo} {st : List Value} {h : Hp} {Q : Option Value → Hp → Prop} : Run 168 25 lo st h Q = Cnt 168 Q (xo_istore 3 26 lo st h) := run_s rfl
theorem rq_X10_kind_26 {lo : Lo} {st : List Value} {h : Hp} {Q : Option Value → Hp → Prop} : Run 168 26 lo st h Q = Cnt 168 Q (xo_const (.int 0) 27 lo st h) := run_s rfl
theorem rq_X10_kind_27 {lo : Lo} {st : List Value} {h : Hp} {Q : Option Value → Hp → Prop} : Run 168 27 lo st h Q = Cnt 168 Q (xo_istore 4 29 lo st h) := run_s rfl
theorem rq_X10_kind_29 {lo : Lo} {st : List Value} {h : Hp} {Q : Option Value → Hp → Prop} : Run 168 29 lo st h Q = Cnt 168 Q (xo_iload 4 31 lo st h) := run_s rfl
theorem rq_X10_kind_31 {lo : Lo} {st : List Value} {h : Hp} {Q : Option Value → Hp → Prop} : Run 168 31 lo st h Q = Cnt 168 Q (xo_aload 0 32 lo st h) := run_s rfl
theorem rq_X10_kind_32 {lo : Lo} {st : List Value} {h : Hp} {Q : Option Value → Hp → Prop} : Run 168 32 lo st h Q = Cnt 168 Q (xo_getf 10 16 35 lo st h) := run_s rfl
theorem rq_X10_kind_35 {lo : Lo} {st : List Value} {h : Hp} {Q : Option Value → Hp → Prop} : Run 168 35 lo st h Q = Cnt 168 Q (xo_if2 (fun x y => decide (x ≥ y)) 63 38 lo st h) := run_s rfl
theorem rq_X10_kind_38 {lo : Lo} {st : List Value} {h : Hp} {Q : Option Value → Hp → Prop} : Run 168 38 lo st h Q = Cnt 168 Q (xo_iload 3 39 lo st h) := run_s rfl
theorem rq_X10_kind_39 {lo : Lo} {st : List Value} {h : Hp} {Q : Option Value → Hp → Prop} : Run 168 39 lo st h Q = Cnt 168 Q (xo_aload 0 40 lo st h) := run_s rfl
theorem rq_X10_kind_40 {lo : Lo} {st : List Value} {h : Hp} {Q : Option Value → Hp → Prop} : Run 168 40 lo st h Q = Cnt 168 Q (xo_getf 10 17 43 lo st h) := run_s rfl
theorem rq_X10_kind_43 {lo : Lo} {st : List Value} {h : Hp} {Q : Option Value → Hp → Prop} : Run 168 43 lo st h Q = Cnt 168 Q (xo_iload 4 45 lo st h) := run_s rfl
theorem rq_X10_kind_45 {lo : Lo} {st : List Value} {h : Hp} {Q : Option Value → Hp → Prop} : Run 168 45 lo st h Q = Cnt 168 Q (xo_iald 46 lo st h) := run_s rfl
theorem rq_X10_kind_46 {lo : Lo} {st : List Value} {h : Hp} {Q : Option Value → Hp → Prop} : Run 168 46 lo st h Q = Cnt 168 Q (xo_iload 2 47 lo st h) := run_s rfl
theorem rq_X10_kind_47 {lo : Lo} {st : List Value} {h : Hp} {Q : Option Value → Hp → Prop} : Run 168 47 lo st h Q = Cnt 168 Q (xo_if2 (fun x y => decide (x ≥ y)) 54 50 lo st h) := run_s rfl
theorem rq_X10_kind_50 {lo : Lo} {st : List Value} {h : Hp} {Q : Option Value → Hp → Prop} : Run 168 50 lo st h Q = Cnt 168 Q (xo_const (.int 1) 51 lo st h) := run_s rfl
theorem rq_X10_kind_51 {lo : Lo} {st : List Value} {h : Hp} {Q : Option Value → Hp → Prop} : Run 168 51 lo st h Q = Cnt 168 Q (xo_goto 55 lo st h) := run_s rfl
theorem rq_X10_kind_54 {lo : Lo} {st : List Value} {h : Hp} {Q : Option Value → Hp → Prop} : Run 168 54 lo st h Q = Cnt 168 Q (xo_const (.int 0) 55 lo st h) := run_s rfl
theorem rq_X10_kind_55 {lo : Lo} {st : List Value} {h : Hp} {Q : Option Value → Hp → Prop} : Run 168 55 lo st h Q = Cnt 168 Q (xo_bin (fun x y => x + y) 56 lo st h) := run_s rfl
theorem rq_X10_kind_56 {lo : Lo} {st : List Value} {h : Hp} {Q : Option Value → Hp → Prop} : Run 168 56 lo st h Q = Cnt 168 Q (xo_istore 3 57 lo st h) := run_s rfl
theorem rq_X10_kind_57 {lo : Lo} {st : List Value} {h : Hp} {Q : Option Value → Hp → Prop} : Run 168 57 lo st h Q = Cnt 168 Q (xo_iinc 4 1 60 lo st h) := run_s rfl
theorem rq_X10_kind_60 {lo : Lo} {st : List Value} {h : Hp} {Q : Option Value → Hp → Prop} : Run 168 60 lo st h Q = Cnt 168 Q (xo_goto 29 lo st h) := run_s rfl
theorem rq_X10_kind_63 {lo : Lo} {st : List Value} {h : Hp} {Q : Option Value → Hp → Prop} : Run 168 63 lo st h Q = Cnt 168 Q (xo_iload 3 64 lo st h) := run_s rfl
theorem rq_X10_kind_64 {lo : Lo} {st : List Value} {h : Hp} {Q : Option Value → Hp → Prop} : Run 168 64 lo st h Q = Cnt 168 Q (xo_iret lo st h) := run_s rfl
theorem rq_X10_moved_0 {lo : Lo} {st : List Value} {h : Hp} {Q : Option Value → Hp → Prop} : Run 169 0 lo st h Q = Cnt 169 Q (xo_iload 1 1 lo st h) := run_s rfl
theorem rq_X10_moved_1 {lo : Lo} {st : List Value} {h : Hp} {Q : Option Value → Hp → Prop} : Run 169 1 lo st h Q = Cnt 169 Q (xo_if1 (fun x => decide (x ≥ 0)) 11 4 lo st h) := run_s rfl
theorem rq_X10_moved_4 {lo : Lo} {st : List Value} {h : Hp} {Q : Option Value → Hp → Prop} : Run 169 4 lo st h Q = Cnt 169 Q (xo_iload 0 5 lo st h) := run_s rfl
theorem rq_X10_moved_5 {lo : Lo} {st : List Value} {h : Hp} {Q : Option Value → Hp → Prop} : Run 169 5 lo st h Q = Cnt 169 Q (xo_iload 1 6 lo st h) := run_s rfl
theorem rq_X10_moved_6 {lo : Lo} {st : List Value} {h : Hp} {Q : Option Value → Hp → Prop} : Run 169 6 lo st h Q = Cnt 169 Q (xo_un (fun x => -x) 7 lo st h) := run_s rfl
theorem rq_X10_moved_7 {lo : Lo} {st : List Value} {h : Hp} {Q : Option Value → Hp → Prop} : Run 169 7 lo st h Q = Cnt 169 Q (xo_bin (fun x y => (x.toUInt32 >>> (y.toUInt32 &&& Int32.toUInt32 31)).toInt32) 8 lo st h) := run_s rfl
theorem rq_X10_moved_8 {lo : Lo} {st : List Value} {h : Hp} {Q : Option Value → Hp → Prop} : Run 169 8 lo st h Q = Cnt 169 Q (xo_goto 14 lo st h) := run_s rfl
theorem rq_X10_moved_11 {lo : Lo} {st : List Value} {h : Hp} {Q : Option Value → Hp → Prop} : Run 169 11 lo st h Q = Cnt 169 Q (xo_iload 0 12 lo st h) := run_s rfl
theorem rq_X10_moved_12 {lo : Lo} {st : List Value} {h : Hp} {Q : Option Value → Hp → Prop} : Run 169 12 lo st h Q = Cnt 169 Q (xo_iload 1 13 lo st h) := run_s rfl
theorem rq_X10_moved_13 {lo : Lo} {st : List Value} {h : Hp} {Q : Option Value → Hp → Prop} : Run 169 13 lo st h Q = Cnt 169 Q (xo_bin (fun x y => x <<< (y &&& 31)) 14 lo st h) := run_s rfl
theorem rq_X10_moved_14 {lo : Lo} {st : List Value} {h : Hp} {Q : Option Value → Hp → Prop} : Run 169 14 lo st h Q = Cnt 169 Q (xo_iret lo st h) := run_s rfl
theorem rq_X10_apartBy_0 {lo : Lo} {st : List Value} {h : Hp} {Q : Option Value → Hp → Prop} : Run 170 0 lo st h Q = Cnt 170 Q (xo_const (.int 0) 1 lo st h) := run_s rfl
theorem rq_X10_apartBy_1 {lo : Lo} {st : List Value} {h : Hp} {Q : Option Value → Hp → Prop} : Run 170 1 lo st h Q = Cnt 170 Q (xo_istore 3 2 lo st h) := run_s rfl
theorem rq_X10_apartBy_2 {lo : Lo} {st : List Value} {h : Hp} {Q : Option Value → Hp → Prop} : Run 170 2 lo st h Q = Cnt 170 Q (xo_const (.int 0) 3 lo st h) := run_s rfl
theorem rq_X10_apartBy_3 {lo : Lo} {st : List Value} {h : Hp} {Q : Option Value → Hp → Prop} : Run 170 3 lo st h Q = Cnt 170 Q (xo_istore 4 5 lo st h) := run_s rfl
theorem rq_X10_apartBy_5 {lo : Lo} {st : List Value} {h : Hp} {Q : Option Value → Hp → Prop} : Run 170 5 lo st h Q = Cnt 170 Q (xo_iload 4 7 lo st h) := run_s rfl
theorem rq_X10_apartBy_7 {lo : Lo} {st : List Value} {h : Hp} {Q : Option Value → Hp → Prop} : Run 170 7 lo st h Q = Cnt 170 Q (xo_const (.int 32) 9 lo st h) := run_s rfl
theorem rq_X10_apartBy_9 {lo : Lo} {st : List Value} {h : Hp} {Q : Option Value → Hp → Prop} : Run 170 9 lo st h Q = Cnt 170 Q (xo_if2 (fun x y => decide (x ≥ y)) 66 12 lo st h) := run_s rfl
theorem rq_X10_apartBy_12 {lo : Lo} {st : List Value} {h : Hp} {Q : Option Value → Hp → Prop} : Run 170 12 lo st h Q = Cnt 170 Q (xo_iload 4 14 lo st h) := run_s rfl
theorem rq_X10_apartBy_14 {lo : Lo} {st : List Value} {h : Hp} {Q : Option Value → Hp → Prop} : Run 170 14 lo st h Q = Cnt 170 Q (xo_iload 2 15 lo st h) := run_s rfl
theorem rq_X10_apartBy_15 {lo : Lo} {st : List Value} {h : Hp} {Q : Option Value → Hp → Prop} : Run 170 15 lo st h Q = Cnt 170 Q (xo_bin (fun x y => x - y) 16 lo st h) := run_s rfl
theorem rq_X10_apartBy_16 {lo : Lo} {st : List Value} {h : Hp} {Q : Option Value → Hp → Prop} : Run 170 16 lo st h Q = Cnt 170 Q (xo_const (.int 0) 17 lo st h) := run_s rfl
theorem rq_X10_apartBy_17 {lo : Lo} {st : List Value} {h : Hp} {Q : Option Value → Hp → Prop} : Run 170 17 lo st h Q = Cnt 170 Q (xo_const (.int 31) 19 lo st h) := run_s rfl
theorem rq_X10_apartBy_19 {lo : Lo} {st : List Value} {h : Hp} {Q : Option Value → Hp → Prop} : Run 170 19 lo st h Q = CCall 111 3 none st h (Knt 170 22 lo (st.drop 3) Q) := run_c rfl
theorem rq_X10_apartBy_22 {lo : Lo} {st : List Value} {h : Hp} {Q : Option Value → Hp → Prop} : Run 170 22 lo st h Q = Cnt 170 Q (xo_if1 (fun x => decide (x = 0)) 41 25 lo st h) := run_s rfl
theorem rq_X10_apartBy_25 {lo : Lo} {st : List Value} {h : Hp} {Q : Option Value → Hp → Prop} : Run 170 25 lo st h Q = Cnt 170 Q (xo_aload 0 26 lo st h) := run_s rfl
theorem rq_X10_apartBy_26 {lo : Lo} {st : List Value} {h : Hp} {Q : Option Value → Hp → Prop} : Run 170 26 lo st h Q = Cnt 170 Q (xo_getf 10 11 29 lo st h) := run_s rfl
theorem rq_X10_apartBy_29 {lo : Lo} {st : List Value} {h : Hp} {Q : Option Value → Hp → Prop} : Run 170 29 lo st h Q = Cnt 170 Q (xo_iload 4 31 lo st h) := run_s rfl
theorem rq_X10_apartBy_31 {lo : Lo} {st : List Value} {h : Hp} {Q : Option Value → Hp → Prop} : Run 170 31 lo st h Q = Cnt 170 Q (xo_iload 2 32 lo st h) := run_s rfl
theorem rq_X10_apartBy_32 {lo : Lo} {st : List Value} {h : Hp} {Q : Option Value → Hp → Prop} : Run 170 32 lo st h Q = Cnt 170 Q (xo_bin (fun x y => x - y) 33 lo st h) := run_s rfl
theorem rq_X10_apartBy_33 {lo : Lo} {st : List Value} {h : Hp} {Q : Option Value → Hp → Prop} : Run 170 33 lo st h Q = Cnt 170 Q (xo_iald 34 lo st h) := run_s rfl
theorem rq_X10_apartBy_34 {lo : Lo} {st : List Value} {h : Hp} {Q : Option Value → Hp → Prop} : Run 170 34 lo st h Q = Cnt 170 Q (xo_iload 1 35 lo st h) := run_s rfl
theorem rq_X10_apartBy_35 {lo : Lo} {st : List Value} {h : Hp} {Q : Option Value → Hp → Prop} : Run 170 35 lo st h Q = CCall 169 2 none st h (Knt 170 38 lo (st.drop 2) Q) := run_c rfl
theorem rq_X10_apartBy_38 {lo : Lo} {st : List Value} {h : Hp} {Q : Option Value → Hp → Prop} : Run 170 38 lo st h Q = Cnt 170 Q (xo_goto 42 lo st h) := run_s rfl
theorem rq_X10_apartBy_41 {lo : Lo} {st : List Value} {h : Hp} {Q : Option Value → Hp → Prop} : Run 170 41 lo st h Q = Cnt 170 Q (xo_const (.int 0) 42 lo st h) := run_s rfl
theorem rq_X10_apartBy_42 {lo : Lo} {st : List Value} {h : Hp} {Q : Option Value → Hp → Prop} : Run 170 42 lo st h Q = Cnt 170 Q (xo_istore 5 44 lo st h) := run_s rfl
theorem rq_X10_apartBy_44 {lo : Lo} {st : List Value} {h : Hp} {Q : Option Value → Hp → Prop} : Run 170 44 lo st h Q = Cnt 170 Q (xo_iload 3 45 lo st h) := run_s rfl
theorem rq_X10_apartBy_45 {lo : Lo} {st : List Value} {h : Hp} {Q : Option Value → Hp → Prop} : Run 170 45 lo st h Q = Cnt 170 Q (xo_iload 5 47 lo st h) := run_s rfl
theorem rq_X10_apartBy_47 {lo : Lo} {st : List Value} {h : Hp} {Q : Option Value → Hp → Prop} : Run 170 47 lo st h Q = Cnt 170 Q (xo_aload 0 48 lo st h) := run_s rfl
theorem rq_X10_apartBy_48 {lo : Lo} {st : List Value} {h : Hp} {Q : Option Value → Hp → Prop} : Run 170 48 lo st h Q = Cnt 170 Q (xo_getf 10 12 51 lo st h) := run_s rfl
theorem rq_X10_apartBy_51 {lo : Lo} {st : List Value} {h : Hp} {Q : Option Value → Hp → Prop} : Run 170 51 lo st h Q = Cnt 170 Q (xo_iload 4 53 lo st h) := run_s rfl
theorem rq_X10_apartBy_53 {lo : Lo} {st : List Value} {h : Hp} {Q : Option Value → Hp → Prop} : Run 170 53 lo st h Q = Cnt 170 Q (xo_iald 54 lo st h) := run_s rfl
theorem rq_X10_apartBy_54 {lo : Lo} {st : List Value} {h : Hp} {Q : Option Value → Hp → Prop} : Run 170 54 lo st h Q = Cnt 170 Q (xo_bin (fun x y => x ^^^ y) 55 lo st h) := run_s rfl
theorem rq_X10_apartBy_55 {lo : Lo} {st : List Value} {h : Hp} {Q : Option Value → Hp → Prop} : Run 170 55 lo st h Q = CCall 129 1 none st h (Knt 170 58 lo (st.drop 1) Q) := run_c rfl
theorem rq_X10_apartBy_58 {lo : Lo} {st : List Value} {h : Hp} {Q : Option Value → Hp → Prop} : Run 170 58 lo st h Q = Cnt 170 Q (xo_bin (fun x y => x + y) 59 lo st h) := run_s rfl
theorem rq_X10_apartBy_59 {lo : Lo} {st : List Value} {h : Hp} {Q : Option Value → Hp → Prop} : Run 170 59 lo st h Q = Cnt 170 Q (xo_istore 3 60 lo st h) := run_s rfl
theorem rq_X10_apartBy_60 {lo : Lo} {st : List Value} {h : Hp} {Q : Option Value → Hp → Prop} : Run 170 60 lo st h Q = Cnt 170 Q (xo_iinc 4 1 63 lo st h) := run_s rfl
theorem rq_X10_apartBy_63 {lo : Lo} {st : List Value} {h : Hp} {Q : Option Value → Hp → Prop} : Run 170 63 lo st h Q = Cnt 170 Q (xo_goto 5 lo st h) := run_s rfl
theorem rq_X10_apartBy_66 {lo : Lo} {st : List Value} {h : Hp} {Q : Option Value → Hp → Prop} : Run 170 66 lo st h Q = Cnt 170 Q (xo_iload 3 67 lo st h) := run_s rfl
theorem rq_X10_apartBy_67 {lo : Lo} {st : List Value} {h : Hp} {Q : Option Value → Hp → Prop} : Run 170 67 lo st h Q = Cnt 170 Q (xo_iret lo st h) := run_s rfl
theorem rq_X10_layBoth_0 {lo : Lo} {st : List Value} {h : Hp} {Q : Option Value → Hp → Prop} : Run 171 0 lo st h Q = Cnt 171 Q (xo_aload 0 1 lo st h) := run_s rfl
theorem rq_X10_layBoth_1 {lo : Lo} {st : List Value} {h : Hp} {Q : Option Value → Hp → Prop} : Run 171 1 lo st h Q = Cnt 171 Q (xo_iload 1 2 lo st h) := run_s rfl
theorem rq_X10_layBoth_2 {lo : Lo} {st : List Value} {h : Hp} {Q : Option Value → Hp → Prop} : Run 171 2 lo st h Q = CCall 127 2 (some 10) st h (Knt 171 5 lo (st.drop 2) Q) := run_c rfl
theorem rq_X10_layBoth_5 {lo : Lo} {st : List Value} {h : Hp} {Q : Option Value → Hp → Prop} : Run 171 5 lo st h Q = Cnt 171 Q (xo_const (.int 0) 6 lo st h) := run_s rfl
theorem rq_X10_layBoth_6 {lo : Lo} {st : List Value} {h : Hp} {Q : Option Value → Hp → Prop} : Run 171 6 lo st h Q = Cnt 171 Q (xo_istore 2 7 lo st h) := run_s rfl
theorem rq_X10_layBoth_7 {lo : Lo} {st : List Value} {h : Hp} {Q : Option Value → Hp → Prop} : Run 171 7 lo st h Q = Cnt 171 Q (xo_iload 2 8 lo st h) := run_s rfl
theorem rq_X10_layBoth_8 {lo : Lo} {st : List Value} {h : Hp} {Q : Option Value → Hp → Prop} : Run 171 8 lo st h Q = Cnt 171 Q (xo_const (.int 32) 10 lo st h) := run_s rfl
theorem rq_X10_layBoth_10 {lo : Lo} {st : List Value} {h : Hp} {Q : Option Value → Hp → Prop} : Run 171 10 lo st h Q = Cnt 171 Q (xo_if2 (fun x y => decide (x ≥ y)) 31 13 lo st h) := run_s rfl
theorem rq_X10_layBoth_13 {lo : Lo} {st : List Value} {h : Hp} {Q : Option Value → Hp → Prop} : Run 171 13 lo st h Q = Cnt 171 Q (xo_aload 0 14 lo st h) := run_s rfl
theorem rq_X10_layBoth_14 {lo : Lo} {st : List Value} {h : Hp} {Q : Option Value → Hp → Prop} : Run 171 14 lo st h Q = Cnt 171 Q (xo_getf 10 12 17 lo st h) := run_s rfl
theorem rq_X10_layBoth_17 {lo : Lo} {st : List Value} {h : Hp} {Q : Option Value → Hp → Prop} : Run 171 17 lo st h Q = Cnt 171 Q (xo_iload 2 18 lo st h) := run_s rfl
theorem rq_X10_layBoth_18 {lo : Lo} {st : List Value} {h : Hp} {Q : Option Value → Hp → Prop} : Run 171 18 lo st h Q = Cnt 171 Q (xo_aload 0 19 lo st h) := run_s rfl
theorem rq_X10_layBoth_19 {lo : Lo} {st : List Value} {h : Hp} {Q : Option Value → Hp → Prop} : Run 171 19 lo st h Q = Cnt 171 Q (xo_getf 10 11 22 lo st h) := run_s rfl
theorem rq_X10_layBoth_22 {lo : Lo} {st : List Value} {h : Hp} {Q : Option Value → Hp → Prop} : Run 171 22 lo st h Q = Cnt 171 Q (xo_iload 2 23 lo st h) := run_s rfl
theorem rq_X10_layBoth_23 {lo : Lo} {st : List Value} {h : Hp} {Q : Option Value → Hp → Prop} : Run 171 23 lo st h Q = Cnt 171 Q (xo_iald 24 lo st h) := run_s rfl
theorem rq_X10_layBoth_24 {lo : Lo} {st : List Value} {h : Hp} {Q : Option Value → Hp → Prop} : Run 171 24 lo st h Q = Cnt 171 Q (xo_iast 25 lo st h) := run_s rfl
theorem rq_X10_layBoth_25 {lo : Lo} {st : List Value} {h : Hp} {Q : Option Value → Hp → Prop} : Run 171 25 lo st h Q = Cnt 171 Q (xo_iinc 2 1 28 lo st h) := run_s rfl
theorem rq_X10_layBoth_28 {lo : Lo} {st : List Value} {h : Hp} {Q : Option Value → Hp → Prop} : Run 171 28 lo st h Q = Cnt 171 Q (xo_goto 7 lo st h) := run_s rfl
theorem rq_X10_layBoth_31 {lo : Lo} {st : List Value} {h : Hp} {Q : Option Value → Hp → Prop} : Run 171 31 lo st h Q = Cnt 171 Q (xo_aload 0 32 lo st h) := run_s rfl
theorem rq_X10_layBoth_32 {lo : Lo} {st : List Value} {h : Hp} {Q : Option Value → Hp → Prop} : Run 171 32 lo st h Q = Cnt 171 Q (xo_const (.int 26) 34 lo st h) := run_s rfl
theorem rq_X10_layBoth_34 {lo : Lo} {st : List Value} {h : Hp} {Q : Option Value → Hp → Prop} : Run 171 34 lo st h Q = CCall 127 2 (some 10) st h (Knt 171 37 lo (st.drop 2) Q) := run_c rfl
theorem rq_X10_layBoth_37 {lo : Lo} {st : List Value} {h : Hp} {Q : Option Value → Hp → Prop} : Run 171 37 lo st h Q = Cnt 171 Q (xo_vret lo st h) := run_s rfl
theorem rq_X10_apart_0 {lo : Lo} {st : List Value} {h : Hp} {Q : Option Value → Hp → Prop} : Run 172 0 lo st h Q = Cnt 172 Q (xo_aload 0 1 lo st h) := run_s rfl
theorem rq_X10_apart_1 {lo : Lo} {st : List Value} {h : Hp} {Q : Option Value → Hp → Prop} : Run 172 1 lo st h Q = Cnt 172 Q (xo_iload 1 2 lo st h) := run_s rfl
theorem rq_X10_apart_2 {lo : Lo} {st : List Value} {h : Hp} {Q : Option Value → Hp → Prop} : Run 172 2 lo st h Q = CCall 154 2 (some 10) st h (Knt 172 5 lo (st.drop 2) Q) := run_c rfl
theorem rq_X10_apart_5 {lo : Lo} {st : List Value} {h : Hp} {Q : Option Value → Hp → Prop} : Run 172 5 lo st h Q = Cnt 172 Q (xo_if1 (fun x => decide (¬ x = 0)) 10 8 lo st h) := run_s rfl
theorem rq_X10_apart_8 {lo : Lo} {st : List Value} {h : Hp} {Q : Option Value → Hp → Prop} : Run 172 8 lo st h Q = Cnt 172 Q (xo_const (.int (-1)) 9 lo st h) := run_s rfl
theorem rq_X10_apart_9 {lo : Lo} {st : List Value} {h : Hp} {Q : Option Value → Hp → Prop} : Run 172 9 lo st h Q = Cnt 172 Q (xo_iret lo st h) := run_s rfl
theorem rq_X10_apart_10 {lo : Lo} {st : List Value} {h : Hp} {Q : Option Value → Hp → Prop} : Run 172 10 lo st h Q = Cnt 172 Q (xo_iload 2 11 lo st h) := run_s rfl
theorem rq_X10_apart_11 {lo : Lo} {st : List Value} {h : Hp} {Q : Option Value → Hp → Prop} : Run 172 11 lo st h Q = Cnt 172 Q (xo_const (.int (-31)) 13 lo st h) := run_s rfl
theorem rq_X10_apart_13 {lo : Lo} {st : List Value} {h : Hp} {Q : Option Value → Hp → Prop} : Run 172 13 lo st h Q = Cnt 172 Q (xo_const (.int 31) 15 lo st h) := run_s rfl
theorem rq_X10_apart_15 {lo : Lo} {st : List Value} {h : Hp} {Q : Option Value → Hp → Prop} : Run 172 15 lo st h Q = CCall 111 3 none st h (Knt 172 18 lo (st.drop 3) Q) := run_c rfl
theorem rq_X10_apart_18 {lo : Lo} {st : List Value} {h : Hp} {Q : Option Value → Hp → Prop} : Run 172 18 lo st h Q = Cnt 172 Q (xo_if1 (fun x => decide (x = 0)) 32 21 lo st h) := run_s rfl
theorem rq_X10_apart_21 {lo : Lo} {st : List Value} {h : Hp} {Q : Option Value → Hp → Prop} : Run 172 21 lo st h Q = Cnt 172 Q (xo_iload 3 22 lo st h) := run_s rfl
theorem rq_X10_apart_22 {lo : Lo} {st : List Value} {h : Hp} {Q : Option Value → Hp → Prop} : Run 172 22 lo st h Q = Cnt 172 Q (xo_const (.int (-31)) 24 lo st h) := run_s rfl
theorem rq_X10_apart_24 {lo : Lo} {st : List Value} {h : Hp} {Q : Option Value → Hp → Prop} : Run 172 24 lo st h Q = Cnt 172 Q (xo_const (.int 31) 26 lo st h) := run_s rfl
theorem rq_X10_apart_26 {lo : Lo} {st : List Value} {h : Hp} {Q : Option Value → Hp → Prop} : Run 172 26 lo st h Q = CCall 111 3 none st h (Knt 172 29 lo (st.drop 3) Q) := run_c rfl
theorem rq_X10_apart_29 {lo : Lo} {st : List Value} {h : Hp} {Q : Option Value → Hp → Prop} : Run 172 29 lo st h Q = Cnt 172 Q (xo_if1 (fun x => decide (¬ x = 0)) 35 32 lo st h) := run_s rfl
theorem rq_X10_apart_32 {lo : Lo} {st : List Value} {h : Hp} {Q : Option Value → Hp → Prop} : Run 172 32 lo st h Q = Cnt 172 Q (xo_const (.int (-2)) 34 lo st h) := run_s rfl
theorem rq_X10_apart_34 {lo : Lo} {st : List Value} {h : Hp} {Q : Option Value → Hp → Prop} : Run 172 34 lo st h Q = Cnt 172 Q (xo_iret lo st h) := run_s rfl
theorem rq_X10_apart_35 {lo : Lo} {st : List Value} {h : Hp} {Q : Option Value → Hp → Prop} : Run 172 35 lo st h Q = Cnt 172 Q (xo_aload 0 36 lo st h) := run_s rfl
theorem rq_X10_apart_36 {lo : Lo} {st : List Value} {h : Hp} {Q : Option Value → Hp → Prop} : Run 172 36 lo st h Q = Cnt 172 Q (xo_iload 1 37 lo st h) := run_s rfl
theorem rq_X10_apart_37 {lo : Lo} {st : List Value} {h : Hp} {Q : Option Value → Hp → Prop} : Run 172 37 lo st h Q = CCall 171 2 (some 10) st h (Knt 172 40 lo (st.drop 2) Q) := run_c rfl
theorem rq_X10_apart_40 {lo : Lo} {st : List Value} {h : Hp} {Q : Option Value → Hp → Prop} : Run 172 40 lo st h Q = Cnt 172 Q (xo_aload 0 41 lo st h) := run_s rfl
theorem rq_X10_apart_41 {lo : Lo} {st : List Value} {h : Hp} {Q : Option Value → Hp → Prop} : Run 172 41 lo st h Q = Cnt 172 Q (xo_iload 2 42 lo st h) := run_s rfl
theorem rq_X10_apart_42 {lo : Lo} {st : List Value} {h : Hp} {Q : Option Value → Hp → Prop} : Run 172 42 lo st h Q = Cnt 172 Q (xo_iload 3 43 lo st h) := run_s rfl
theorem rq_X10_apart_43 {lo : Lo} {st : List Value} {h : Hp} {Q : Option Value → Hp → Prop} : Run 172 43 lo st h Q = CCall 170 3 (some 10) st h (Knt 172 46 lo (st.drop 3) Q) := run_c rfl
theorem rq_X10_apart_46 {lo : Lo} {st : List Value} {h : Hp} {Q : Option Value → Hp → Prop} : Run 172 46 lo st h Q = Cnt 172 Q (xo_iret lo st h) := run_s rfl
theorem rq_X10_findFit_0 {lo : Lo} {st : List Value} {h : Hp} {Q : Option Value → Hp → Prop} : Run 173 0 lo st h Q = Cnt 173 Q (xo_aload 0 1 lo st h) := run_s rfl
theorem rq_X10_findFit_1 {lo : Lo} {st : List Value} {h : Hp} {Q : Option Value → Hp → Prop} : Run 173 1 lo st h Q = Cnt 173 Q (xo_iload 1 2 lo st h) := run_s rfl
theorem rq_X10_findFit_2 {lo : Lo} {st : List Value} {h : Hp} {Q : Option Value → Hp → Prop} : Run 173 2 lo st h Q = CCall 171 2 (some 10) st h (Knt 173 5 lo (st.drop 2) Q) := run_c rfl
theorem rq_X10_findFit_5 {lo : Lo} {st : List Value} {h : Hp} {Q : Option Value → Hp → Prop} : Run 173 5 lo st h Q = Cnt 173 Q (xo_aload 0 6 lo st h) := run_s rfl
theorem rq_X10_findFit_6 {lo : Lo} {st : List Value} {h : Hp} {Q : Option Value → Hp → Prop} : Run 173 6 lo st h Q = Cnt 173 Q (xo_const (.int (-9)) 8 lo st h) := run_s rfl
theorem rq_X10_findFit_8 {lo : Lo} {st : List Value} {h : Hp} {Q : Option Value → Hp → Prop} : Run 173 8 lo st h Q = Cnt 173 Q (xo_putf 10 18 true 11 lo st h) := run_s rfl
theorem rq_X10_findFit_11 {lo : Lo} {st : List Value} {h : Hp} {Q : Option Value → Hp → Prop} : Run 173 11 lo st h Q = Cnt 173 Q (xo_const (.int (-3)) 13 lo st h) := run_s rfl
theorem rq_X10_findFit_13 {lo : Lo} {st : List Value} {h : Hp} {Q : Option Value → Hp → Prop} : Run 173 13 lo st h Q = Cnt 173 Q (xo_istore 2 14 lo st h) := run_s rfl
theorem rq_X10_findFit_14 {lo : Lo} {st : List Value} {h : Hp} {Q : Option Value → Hp → Prop} : Run 173 14 lo st h Q = Cnt 173 Q (xo_iload 2 15 lo st h) := run_s rfl
theorem rq_X10_findFit_15 {lo : Lo} {st : List Value} {h : Hp} {Q : Option Value → Hp → Prop} : Run 173 15 lo st h Q = Cnt 173 Q (xo_const (.int 3) 16 lo st h) := run_s rfl
theorem rq_X10_findFit_16 {lo : Lo} {st : List Value} {h : Hp} {Q : Option Value → Hp → Prop} : Run 173 16 lo st h Q = Cnt 173 Q (xo_if2 (fun x y => decide (x > y)) 81 19 lo st h) := run_s rfl
theorem rq_X10_findFit_19 {lo : Lo} {st : List Value} {h : Hp} {Q : Option Value → Hp → Prop} : Run 173 19 lo st h Q = Cnt 173 Q (xo_const (.int (-3)) 21 lo st h) := run_s rfl
theorem rq_X10_findFit_21 {lo : Lo} {st : List Value} {h : Hp} {Q : Option Value → Hp → Prop} : Run 173 21 lo st h Q = Cnt 173 Q (xo_istore 3 22 lo st h) := run_s rfl
theorem rq_X10_findFit_22 {lo : Lo} {st : List Value} {h : Hp} {Q : Option Value → Hp → Prop} : Run 173 22 lo st h Q = Cnt 173 Q (xo_iload 3 23 lo st h) := run_s rfl
theorem rq_X10_findFit_23 {lo : Lo} {st : List Value} {h : Hp} {Q : Option Value → Hp → Prop} : Run 173 23 lo st h Q = Cnt 173 Q (xo_const (.int 3) 24 lo st h) := run_s rfl
theorem rq_X10_findFit_24 {lo : Lo} {st : List Value} {h : Hp} {Q : Option Value → Hp → Prop} : Run 173 24 lo st h Q = Cnt 173 Q (xo_if2 (fun x y => decide (x > y)) 75 27 lo st h) := run_s rfl
theorem rq_X10_findFit_27 {lo : Lo} {st : List Value} {h : Hp} {Q : Option Value → Hp → Prop} : Run 173 27 lo st h Q = Cnt 173 Q (xo_aload 0 28 lo st h) := run_s rfl
theorem rq_X10_findFit_28 {lo : Lo} {st : List Value} {h : Hp} {Q : Option Value → Hp → Prop} : Run 173 28 lo st h Q = Cnt 173 Q (xo_iload 2 29 lo st h) := run_s rfl
theorem rq_X10_findFit_29 {lo : Lo} {st : List Value} {h : Hp} {Q : Option Value → Hp → Prop} : Run 173 29 lo st h Q = Cnt 173 Q (xo_iload 3 30 lo st h) := run_s rfl
theorem rq_X10_findFit_30 {lo : Lo} {st : List Value} {h : Hp} {Q : Option Value → Hp → Prop} : Run 173 30 lo st h Q = CCall 170 3 (some 10) st h (Knt 173 33 lo (st.drop 3) Q) := run_c rfl
theorem rq_X10_findFit_33 {lo : Lo} {st : List Value} {h : Hp} {Q : Option Value → Hp → Prop} : Run 173 33 lo st h Q = Cnt 173 Q (xo_istore 4 35 lo st h) := run_s rfl
theorem rq_X10_findFit_35 {lo : Lo} {st : List Value} {h : Hp} {Q : Option Value → Hp → Prop} : Run 173 35 lo st h Q = Cnt 173 Q (xo_aload 0 36 lo st h) := run_s rfl
theorem rq_X10_findFit_36 {lo : Lo} {st : List Value} {h : Hp} {Q : Option Value → Hp → Prop} : Run 173 36 lo st h Q = Cnt 173 Q (xo_getf 10 18 39 lo st h) := run_s rfl
theorem rq_X10_findFit_39 {lo : Lo} {st : List Value} {h : Hp} {Q : Option Value → Hp → Prop} : Run 173 39 lo st h Q = Cnt 173 Q (xo_const (.int (-9)) 41 lo st h) := run_s rfl
theorem rq_X10_findFit_41 {lo : Lo} {st : List Value} {h : Hp} {Q : Option Value → Hp → Prop} : Run 173 41 lo st h Q = Cnt 173 Q (xo_if2 (fun x y => decide (x = y)) 53 44 lo st h) := run_s rfl
theorem rq_X10_findFit_44 {lo : Lo} {st : List Value} {h : Hp} {Q : Option Value → Hp → Prop} : Run 173 44 lo st h Q = Cnt 173 Q (xo_iload 4 46 lo st h) := run_s rfl
theorem rq_X10_findFit_46 {lo : Lo} {st : List Value} {h : Hp} {Q : Option Value → Hp → Prop} : Run 173 46 lo st h Q = Cnt 173 Q (xo_aload 0 47 lo st h) := run_s rfl
theorem rq_X10_findFit_47 {lo : Lo} {st : List Value} {h : Hp} {Q : Option Value → Hp → Prop} : Run 173 47 lo st h Q = Cnt 173 Q (xo_getf 10 18 50 lo st h) := run_s rfl
theorem rq_X10_findFit_50 {lo : Lo} {st : List Value} {h : Hp} {Q : Option Value → Hp → Prop} : Run 173 50 lo st h Q = Cnt 173 Q (xo_if2 (fun x y => decide (x ≥ y)) 69 53 lo st h) := run_s rfl
theorem rq_X10_findFit_53 {lo : Lo} {st : List Value} {h : Hp} {Q : Option Value → Hp → Prop} : Run 173 53 lo st h Q = Cnt 173 Q (xo_aload 0 54 lo st h) := run_s rfl
theorem rq_X10_findFit_54 {lo : Lo} {st : List Value} {h : Hp} {Q : Option Value → Hp → Prop} : Run 173 54 lo st h Q = Cnt 173 Q (xo_iload 4 56 lo st h) := run_s rfl
theorem rq_X10_findFit_56 {lo : Lo} {st : List Value} {h : Hp} {Q : Option Value → Hp → Prop} : Run 173 56 lo st h Q = Cnt 173 Q (xo_putf 10 18 true 59 lo st h) := run_s rfl
theorem rq_X10_findFit_59 {lo : Lo} {st : List Value} {h : Hp} {Q : Option Value → Hp → Prop} : Run 173 59 lo st h Q = Cnt 173 Q (xo_aload 0 60 lo st h) := run_s rfl
theorem rq_X10_findFit_60 {lo : Lo} {st : List Value} {h : Hp} {Q : Option Value → Hp → Prop} : Run 173 60 lo st h Q = Cnt 173 Q (xo_iload 2 61 lo st h) := run_s rfl
theorem rq_X10_findFit_61 {lo : Lo} {st : List Value} {h : Hp} {Q : Option Value → Hp → Prop} : Run 173 61 lo st h Q = Cnt 173 Q (xo_putf 10 19 true 64 lo st h) := run_s rfl
theorem rq_X10_findFit_64 {lo : Lo} {st : List Value} {h : Hp} {Q : Option Value → Hp → Prop} : Run 173 64 lo st h Q = Cnt 173 Q (xo_aload 0 65 lo st h) := run_s rfl
theorem rq_X10_findFit_65 {lo : Lo} {st : List Value} {h : Hp} {Q : Option Value → Hp → Prop} : Run 173 65 lo st h Q = Cnt 173 Q (xo_iload 3 66 lo st h) := run_s rfl
theorem rq_X10_findFit_66 {lo : Lo} {st : List Value} {h : Hp} {Q : Option Value → Hp → Prop} : Run 173 66 lo st h Q = Cnt 173 Q (xo_putf 10 20 true 69 lo st h) := run_s rfl
theorem rq_X10_findFit_69 {lo : Lo} {st : List Value} {h : Hp} {Q : Option Value → Hp → Prop} : Run 173 69 lo st h Q = Cnt 173 Q (xo_iinc 3 1 72 lo st h) := run_s rfl
theorem rq_X10_findFit_72 {lo : Lo} {st : List Value} {h : Hp} {Q : Option Value → Hp → Prop} : Run 173 72 lo st h Q = Cnt 173 Q (xo_goto 22 lo st h) := run_s rfl
theorem rq_X10_findFit_75 {lo : Lo} {st : List Value} {h : Hp} {Q : Option Value → Hp → Prop} : Run 173 75 lo st h Q = Cnt 173 Q (xo_iinc 2 1 78 lo st h) := run_s rfl
theorem rq_X10_findFit_78 {lo : Lo} {st : List Value} {h : Hp} {Q : Option Value → Hp → Prop} : Run 173 78 lo st h Q = Cnt 173 Q (xo_goto 14 lo st h) := run_s rfl
theorem rq_X10_findFit_81 {lo : Lo} {st : List Value} {h : Hp} {Q : Option Value → Hp → Prop} : Run 173 81 lo st h Q = Cnt 173 Q (xo_vret lo st h) := run_s rfl
theorem rq_X10_fit_0 {lo : Lo} {st : List Value} {h : Hp} {Q : Option Value → Hp → Prop} : Run 174 0 lo st h Q = Cnt 174 Q (xo_aload 0 1 lo st h) := run_s rfl
theorem rq_X10_fit_1 {lo : Lo} {st : List Value} {h : Hp} {Q : Option Value → Hp → Prop} : Run 174 1 lo st h Q = Cnt 174 Q (xo_iload 1 2 lo st h) := run_s rfl
theorem rq_X10_fit_2 {lo : Lo} {st : List Value} {h : Hp} {Q : Option Value → Hp → Prop} : Run 174 2 lo st h Q = CCall 154 2 (some 10) st h (Knt 174 5 lo (st.drop 2) Q) := run_c rfl
theorem rq_X10_fit_5 {lo : Lo} {st : List Value} {h : Hp} {Q : Option Value → Hp → Prop} : Run 174 5 lo st h Q = Cnt 174 Q (xo_if1 (fun x => decide (¬ x = 0)) 10 8 lo st h) := run_s rfl
theorem rq_X10_fit_8 {lo : Lo} {st : List Value} {h : Hp} {Q : Option Value → Hp → Prop} : Run 174 8 lo st h Q = Cnt 174 Q (xo_const (.int (-1)) 9 lo st h) := run_s rfl
theorem rq_X10_fit_9 {lo : Lo} {st : List Value} {h : Hp} {Q : Option Value → Hp → Prop} : Run 174 9 lo st h Q = Cnt 174 Q (xo_iret lo st h) := run_s rfl
theorem rq_X10_fit_10 {lo : Lo} {st : List Value} {h : Hp} {Q : Option Value → Hp → Prop} : Run 174 10 lo st h Q = Cnt 174 Q (xo_iload 2 11 lo st h) := run_s rfl
theorem rq_X10_fit_11 {lo : Lo} {st : List Value} {h : Hp} {Q : Option Value → Hp → Prop} : Run 174 11 lo st h Q = Cnt 174 Q (xo_const (.int 0) 12 lo st h) := run_s rfl
theorem rq_X10_fit_12 {lo : Lo} {st : List Value} {h : Hp} {Q : Option Value → Hp → Prop} : Run 174 12 lo st h Q = Cnt 174 Q (xo_const (.int 2) 13 lo st h) := run_s rfl
theorem rq_X10_fit_13 {lo : Lo} {st : List Value} {h : Hp} {Q : Option Value → Hp → Prop} : Run 174 13 lo st h Q = CCall 111 3 none st h (Knt 174 16 lo (st.drop 3) Q) := run_c rfl
theorem rq_X10_fit_16 {lo : Lo} {st : List Value} {h : Hp} {Q : Option Value → Hp → Prop} : Run 174 16 lo st h Q = Cnt 174 Q (xo_if1 (fun x => decide (¬ x = 0)) 22 19 lo st h) := run_s rfl
theorem rq_X10_fit_19 {lo : Lo} {st : List Value} {h : Hp} {Q : Option Value → Hp → Prop} : Run 174 19 lo st h Q = Cnt 174 Q (xo_const (.int (-2)) 21 lo st h) := run_s rfl
theorem rq_X10_fit_21 {lo : Lo} {st : List Value} {h : Hp} {Q : Option Value → Hp → Prop} : Run 174 21 lo st h Q = Cnt 174 Q (xo_iret lo st h) := run_s rfl
theorem rq_X10_fit_22 {lo : Lo} {st : List Value} {h : Hp} {Q : Option Value → Hp → Prop} : Run 174 22 lo st h Q = Cnt 174 Q (xo_aload 0 23 lo st h) := run_s rfl
theorem rq_X10_fit_23 {lo : Lo} {st : List Value} {h : Hp} {Q : Option Value → Hp → Prop} : Run 174 23 lo st h Q = Cnt 174 Q (xo_iload 1 24 lo st h) := run_s rfl
theorem rq_X10_fit_24 {lo : Lo} {st : List Value} {h : Hp} {Q : Option Value → Hp → Prop} : Run 174 24 lo st h Q = CCall 173 2 (some 10) st h (Knt 174 27 lo (st.drop 2) Q) := run_c rfl
theorem rq_X10_fit_27 {lo : Lo} {st : List Value} {h : Hp} {Q : Option Value → Hp → Prop} : Run 174 27 lo st h Q = Cnt 174 Q (xo_iload 2 28 lo st h) := run_s rfl
theorem rq_X10_fit_28 {lo : Lo} {st : List Value} {h : Hp} {Q : Option Value → Hp → Prop} : Run 174 28 lo st h Q = Cnt 174 Q (xo_if1 (fun x => decide (¬ x = 0)) 38 31 lo st h) := run_s rfl
theorem rq_X10_fit_31 {lo : Lo} {st : List Value} {h : Hp} {Q : Option Value → Hp → Prop} : Run 174 31 lo st h Q = Cnt 174 Q (xo_aload 0 32 lo st h) := run_s rfl
theorem rq_X10_fit_32 {lo : Lo} {st : List Value} {h : Hp} {Q : Option Value → Hp → Prop} : Run 174 32 lo st h Q = Cnt 174 Q (xo_getf 10 18 35 lo st h) := run_s rfl
theorem rq_X10_fit_35 {lo : Lo} {st : List Value} {h : Hp} {Q : Option Value → Hp → Prop} : Run 174 35 lo st h Q = Cnt 174 Q (xo_goto 54 lo st h) := run_s rfl
theorem rq_X10_fit_38 {lo : Lo} {st : List Value} {h : Hp} {Q : Option Value → Hp → Prop} : Run 174 38 lo st h Q = Cnt 174 Q (xo_iload 2 39 lo st h) := run_s rfl
theorem rq_X10_fit_39 {lo : Lo} {st : List Value} {h : Hp} {Q : Option Value → Hp → Prop} : Run 174 39 lo st h Q = Cnt 174 Q (xo_const (.int 1) 40 lo st h) := run_s rfl
theorem rq_X10_fit_40 {lo : Lo} {st : List Value} {h : Hp} {Q : Option Value → Hp → Prop} : Run 174 40 lo st h Q = Cnt 174 Q (xo_if2 (fun x y => decide (¬ x = y)) 50 43 lo st h) := run_s rfl
theorem rq_X10_fit_43 {lo : Lo} {st : List Value} {h : Hp} {Q : Option Value → Hp → Prop} : Run 174 43 lo st h Q = Cnt 174 Q (xo_aload 0 44 lo st h) := run_s rfl
theorem rq_X10_fit_44 {lo : Lo} {st : List Value} {h : Hp} {Q : Option Value → Hp → Prop} : Run 174 44 lo st h Q = Cnt 174 Q (xo_getf 10 19 47 lo st h) := run_s rfl
theorem rq_X10_fit_47 {lo : Lo} {st : List Value} {h : Hp} {Q : Option Value → Hp → Prop} : Run 174 47 lo st h Q = Cnt 174 Q (xo_goto 54 lo st h) := run_s rfl
theorem rq_X10_fit_50 {lo : Lo} {st : List Value} {h : Hp} {Q : Option Value → Hp → Prop} : Run 174 50 lo st h Q = Cnt 174 Q (xo_aload 0 51 lo st h) := run_s rfl
theorem rq_X10_fit_51 {lo : Lo} {st : List Value} {h : Hp} {Q : Option Value → Hp → Prop} : Run 174 51 lo st h Q = Cnt 174 Q (xo_getf 10 20 54 lo st h) := run_s rfl
theorem rq_X10_fit_54 {lo : Lo} {st : List Value} {h : Hp} {Q : Option Value → Hp → Prop} : Run 174 54 lo st h Q = Cnt 174 Q (xo_iret lo st h) := run_s rfl
theorem rq_X10_likest_0 {lo : Lo} {st : List Value} {h : Hp} {Q : Option Value → Hp → Prop} : Run 175 0 lo st h Q = Cnt 175 Q (xo_iload 1 1 lo st h) := run_s rfl
theorem rq_X10_likest_1 {lo : Lo} {st : List Value} {h : Hp} {Q : Option Value → Hp → Prop} : Run 175 1 lo st h Q = Cnt 175 Q (xo_const (.int 0) 2 lo st h) := run_s rfl
theorem rq_X10_likest_2 {lo : Lo} {st : List Value} {h : Hp} {Q : Option Value → Hp → Prop} : Run 175 2 lo st h Q = Cnt 175 Q (xo_const (.int 1) 3 lo st h) := run_s rfl
theorem rq_X10_likest_3 {lo : Lo} {st : List Value} {h : Hp} {Q : Option Value → Hp → Prop} : Run 175 3 lo st h Q = CCall 111 3 none st h (Knt 175 6 lo (st.drop 3) Q) := run_c rfl
theorem rq_X10_likest_6 {lo : Lo} {st : List Value} {h : Hp} {Q : Option Value → Hp → Prop} : Run 175 6 lo st h Q = Cnt 175 Q (xo_if1 (fun x => decide (¬ x = 0)) 12 9 lo st h) := run_s rfl
theorem rq_X10_likest_9 {lo : Lo} {st : List Value} {h : Hp} {Q : Option Value → Hp → Prop} : Run 175 9 lo st h Q = Cnt 175 Q (xo_const (.int (-2)) 11 lo st h) := run_s rfl
theorem rq_X10_likest_11 {lo : Lo} {st : List Value} {h : Hp} {Q : Option Value → Hp → Prop} : Run 175 11 lo st h Q = Cnt 175 Q (xo_iret lo st h) := run_s rfl
theorem rq_X10_likest_12 {lo : Lo} {st : List Value} {h : Hp} {Q : Option Value → Hp → Prop} : Run 175 12 lo st h Q = Cnt 175 Q (xo_const (.int (-9)) 14 lo st h) := run_s rfl
theorem rq_X10_likest_14 {lo : Lo} {st : List Value} {h : Hp} {Q : Option Value → Hp → Prop} : Run 175 14 lo st h Q = Cnt 175 Q (xo_istore 2 15 lo st h) := run_s rfl
theorem rq_X10_likest_15 {lo : Lo} {st : List Value} {h : Hp} {Q : Option Value → Hp → Prop} : Run 175 15 lo st h Q = Cnt 175 Q (xo_const (.int (-9)) 17 lo st h) := run_s rfl
theorem rq_X10_likest_17 {lo : Lo} {st : List Value} {h : Hp} {Q : Option Value → Hp → Prop} : Run 175 17 lo st h Q = Cnt 175 Q (xo_istore 3 18 lo st h) := run_s rfl
theorem rq_X10_likest_18 {lo : Lo} {st : List Value} {h : Hp} {Q : Option Value → Hp → Prop} : Run 175 18 lo st h Q = Cnt 175 Q (xo_const (.int 0) 19 lo st h) := run_s rfl
theorem rq_X10_likest_19 {lo : Lo} {st : List Value} {h : Hp} {Q : Option Value → Hp → Prop} : Run 175 19 lo st h Q = Cnt 175 Q (xo_istore 4 21 lo st h) := run_s rfl
theorem rq_X10_likest_21 {lo : Lo} {st : List Value} {h : Hp} {Q : Option Value → Hp → Prop} : Run 175 21 lo st h Q = Cnt 175 Q (xo_iload 4 23 lo st h) := run_s rfl
theorem rq_X10_likest_23 {lo : Lo} {st : List Value} {h : Hp} {Q : Option Value → Hp → Prop} : Run 175 23 lo st h Q = Cnt 175 Q (xo_const (.int 26) 25 lo st h) := run_s rfl
theorem rq_X10_likest_25 {lo : Lo} {st : List Value} {h : Hp} {Q : Option Value → Hp → Prop} : Run 175 25 lo st h Q = Cnt 175 Q (xo_if2 (fun x y => decide (x ≥ y)) 71 28 lo st h) := run_s rfl
theorem rq_X10_likest_28 {lo : Lo} {st : List Value} {h : Hp} {Q : Option Value → Hp → Prop} : Run 175 28 lo st h Q = Cnt 175 Q (xo_aload 0 29 lo st h) := run_s rfl
theorem rq_X10_likest_29 {lo : Lo} {st : List Value} {h : Hp} {Q : Option Value → Hp → Prop} : Run 175 29 lo st h Q = Cnt 175 Q (xo_iload 4 31 lo st h) := run_s rfl
theorem rq_X10_likest_31 {lo : Lo} {st : List Value} {h : Hp} {Q : Option Value → Hp → Prop} : Run 175 31 lo st h Q = CCall 154 2 (some 10) st h (Knt 175 34 lo (st.drop 2) Q) := run_c rfl
theorem rq_X10_likest_34 {lo : Lo} {st : List Value} {h : Hp} {Q : Option Value → Hp → Prop} : Run 175 34 lo st h Q = Cnt 175 Q (xo_if1 (fun x => decide (x = 0)) 65 37 lo st h) := run_s rfl
theorem rq_X10_likest_37 {lo : Lo} {st : List Value} {h : Hp} {Q : Option Value → Hp → Prop} : Run 175 37 lo st h Q = Cnt 175 Q (xo_aload 0 38 lo st h) := run_s rfl
theorem rq_X10_likest_38 {lo : Lo} {st : List Value} {h : Hp} {Q : Option Value → Hp → Prop} : Run 175 38 lo st h Q = Cnt 175 Q (xo_iload 4 40 lo st h) := run_s rfl
theorem rq_X10_likest_40 {lo : Lo} {st : List Value} {h : Hp} {Q : Option Value → Hp → Prop} : Run 175 40 lo st h Q = CCall 173 2 (some 10) st h (Knt 175 43 lo (st.drop 2) Q) := run_c rfl
theorem rq_X10_likest_43 {lo : Lo} {st : List Value} {h : Hp} {Q : Option Value → Hp → Prop} : Run 175 43 lo st h Q = Cnt 175 Q (xo_iload 2 44 lo st h) := run_s rfl
theorem rq_X10_likest_44 {lo : Lo} {st : List Value} {h : Hp} {Q : Option Value → Hp → Prop} : Run 175 44 lo st h Q = Cnt 175 Q (xo_const (.int (-9)) 46 lo st h) := run_s rfl
theorem rq_X10_likest_46 {lo : Lo} {st : List Value} {h : Hp} {Q : Option Value → Hp → Prop} : Run 175 46 lo st h Q = Cnt 175 Q (xo_if2 (fun x y => decide (x = y)) 57 49 lo st h) := run_s rfl
theorem rq_X10_likest_49 {lo : Lo} {st : List Value} {h : Hp} {Q : Option Value → Hp → Prop} : Run 175 49 lo st h Q = Cnt 175 Q (xo_aload 0 50 lo st h) := run_s rfl
theorem rq_X10_likest_50 {lo : Lo} {st : List Value} {h : Hp} {Q : Option Value → Hp → Prop} : Run 175 50 lo st h Q = Cnt 175 Q (xo_getf 10 18 53 lo st h) := run_s rfl
theorem rq_X10_likest_53 {lo : Lo} {st : List Value} {h : Hp} {Q : Option Value → Hp → Prop} : Run 175 53 lo st h Q = Cnt 175 Q (xo_iload 3 54 lo st h) := run_s rfl
theorem rq_X10_likest_54 {lo : Lo} {st : List Value} {h : Hp} {Q : Option Value → Hp → Prop} : Run 175 54 lo st h Q = Cnt 175 Q (xo_if2 (fun x y => decide (x ≥ y)) 65 57 lo st h) := run_s rfl
theorem rq_X10_likest_57 {lo : Lo} {st : List Value} {h : Hp} {Q : Option Value → Hp → Prop} : Run 175 57 lo st h Q = Cnt 175 Q (xo_iload 4 59 lo st h) := run_s rfl
theorem rq_X10_likest_59 {lo : Lo} {st : List Value} {h : Hp} {Q : Option Value → Hp → Prop} : Run 175 59 lo st h Q = Cnt 175 Q (xo_istore 2 60 lo st h) := run_s rfl
theorem rq_X10_likest_60 {lo : Lo} {st : List Value} {h : Hp} {Q : Option Value → Hp → Prop} : Run 175 60 lo st h Q = Cnt 175 Q (xo_aload 0 61 lo st h) := run_s rfl
theorem rq_X10_likest_61 {lo : Lo} {st : List Value} {h : Hp} {Q : Option Value → Hp → Prop} : Run 175 61 lo st h Q = Cnt 175 Q (xo_getf 10 18 64 lo st h) := run_s rfl
theorem rq_X10_likest_64 {lo : Lo} {st : List Value} {h : Hp} {Q : Option Value → Hp → Prop} : Run 175 64 lo st h Q = Cnt 175 Q (xo_istore 3 65 lo st h) := run_s rfl
theorem rq_X10_likest_65 {lo : Lo} {st : List Value} {h : Hp} {Q : Option Value → Hp → Prop} : Run 175 65 lo st h Q = Cnt 175 Q (xo_iinc 4 1 68 lo st h) := run_s rfl
theorem rq_X10_likest_68 {lo : Lo} {st : List Value} {h : Hp} {Q : Option Value → Hp → Prop} : Run 175 68 lo st h Q = Cnt 175 Q (xo_goto 21 lo st h) := run_s rfl
theorem rq_X10_likest_71 {lo : Lo} {st : List Value} {h : Hp} {Q : Option Value → Hp → Prop} : Run 175 71 lo st h Q = Cnt 175 Q (xo_iload 1 72 lo st h) := run_s rfl
theorem rq_X10_likest_72 {lo : Lo} {st : List Value} {h : Hp} {Q : Option Value → Hp → Prop} : Run 175 72 lo st h Q = Cnt 175 Q (xo_if1 (fun x => decide (¬ x = 0)) 79 75 lo st h) := run_s rfl
theorem rq_X10_likest_75 {lo : Lo} {st : List Value} {h : Hp} {Q : Option Value → Hp → Prop} : Run 175 75 lo st h Q = Cnt 175 Q (xo_iload 2 76 lo st h) := run_s rfl
theorem rq_X10_likest_76 {lo : Lo} {st : List Value} {h : Hp} {Q : Option Value → Hp → Prop} : Run 175 76 lo st h Q = Cnt 175 Q (xo_goto 80 lo st h) := run_s rfl
theorem rq_X10_likest_79 {lo : Lo} {st : List Value} {h : Hp} {Q : Option Value → Hp → Prop} : Run 175 79 lo st h Q = Cnt 175 Q (xo_iload 3 80 lo st h) := run_s rfl
theorem rq_X10_likest_80 {lo : Lo} {st : List Value} {h : Hp} {Q : Option Value → Hp → Prop} : Run 175 80 lo st h Q = Cnt 175 Q (xo_iret lo st h) := run_s rfl
theorem rq_X10_newKinds_0 {lo : Lo} {st : List Value} {h : Hp} {Q : Option Value → Hp → Prop} : Run 176 0 lo st h Q = Cnt 176 Q (xo_aload 0 1 lo st h) := run_s rfl
theorem rq_X10_newKinds_1 {lo : Lo} {st : List Value} {h : Hp} {Q : Option Value → Hp → Prop} : Run 176 1 lo st h Q = Cnt 176 Q (xo_getf 10 16 4 lo st h) := run_s rfl
theorem rq_X10_newKinds_4 {lo : Lo} {st : List Value} {h : Hp} {Q : Option Value → Hp → Prop} : Run 176 4 lo st h Q = Cnt 176 Q (xo_istore 2 5 lo st h) := run_s rfl
theorem rq_X10_newKinds_5 {lo : Lo} {st : List Value} {h : Hp} {Q : Option Value → Hp → Prop} : Run 176 5 lo st h Q = Cnt 176 Q (xo_aload 0 6 lo st h) := run_s rfl
theorem rq_X10_newKinds_6 {lo : Lo} {st : List Value} {h : Hp} {Q : Option Value → Hp → Prop} : Run 176 6 lo st h Q = Cnt 176 Q (xo_iload 1 7 lo st h) := run_s rfl
theorem rq_X10_newKinds_7 {lo : Lo} {st : List Value} {h : Hp} {Q : Option Value → Hp → Prop} : Run 176 7 lo st h Q = CCall 163 2 (some 10) st h (Knt 176 10 lo (st.drop 2) Q) := run_c rfl
theorem rq_X10_newKinds_10 {lo : Lo} {st : List Value} {h : Hp} {Q : Option Value → Hp → Prop} : Run 176 10 lo st h Q = Cnt 176 Q (xo_aload 0 11 lo st h) := run_s rfl
theorem rq_X10_newKinds_11 {lo : Lo} {st : List Value} {h : Hp} {Q : Option Value → Hp → Prop} : Run 176 11 lo st h Q = Cnt 176 Q (xo_getf 10 16 14 lo st h) := run_s rfl
theorem rq_X10_newKinds_14 {lo : Lo} {st : List Value} {h : Hp} {Q : Option Value → Hp → Prop} : Run 176 14 lo st h Q = Cnt 176 Q (xo_iload 2 15 lo st h) := run_s rfl
theorem rq_X10_newKinds_15 {lo : Lo} {st : List Value} {h : Hp} {Q : Option Value → Hp → Prop} : Run 176 15 lo st h Q = Cnt 176 Q (xo_bin (fun x y => x - y) 16 lo st h) := run_s rfl
theorem rq_X10_newKinds_16 {lo : Lo} {st : List Value} {h : Hp} {Q : Option Value → Hp → Prop} : Run 176 16 lo st h Q = Cnt 176 Q (xo_istore 3 17 lo st h) := run_s rfl
theorem rq_X10_newKinds_17 {lo : Lo} {st : List Value} {h : Hp} {Q : Option Value → Hp → Prop} : Run 176 17 lo st h Q = Cnt 176 Q (xo_aload 0 18 lo st h) := run_s rfl
theorem rq_X10_newKinds_18 {lo : Lo} {st : List Value} {h : Hp} {Q : Option Value → Hp → Prop} : Run 176 18 lo st h Q = Cnt 176 Q (xo_iload 2 19 lo st h) := run_s rfl
theorem rq_X10_newKinds_19 {lo : Lo} {st : List Value} {h : Hp} {Q : Option Value → Hp → Prop} : Run 176 19 lo st h Q = Cnt 176 Q (xo_putf 10 16 true 22 lo st h) := run_s rfl
theorem rq_X10_newKinds_22 {lo : Lo} {st : List Value} {h : Hp} {Q : Option Value → Hp → Prop} : Run 176 22 lo st h Q = Cnt 176 Q (xo_iload 3 23 lo st h) := run_s rfl
theorem rq_X10_newKinds_23 {lo : Lo} {st : List Value} {h : Hp} {Q : Option Value → Hp → Prop} : Run 176 23 lo st h Q = Cnt 176 Q (xo_iret lo st h) := run_s rfl
theorem rq_X10_nextTaught_0 {lo : Lo} {st : List Value} {h : Hp} {Q : Option Value → Hp → Prop} : Run 177 0 lo st h Q = Cnt 177 Q (xo_const (.int (-9)) 2 lo st h) := run_s rfl
theorem rq_X10_nextTaught_2 {lo : Lo} {st : List Value} {h : Hp} {Q : Option Value → Hp → Prop} : Run 177 2 lo st h Q = Cnt 177 Q (xo_istore 1 3 lo st h) := run_s rfl
theorem rq_X10_nextTaught_3 {lo : Lo} {st : List Value} {h : Hp} {Q : Option Value → Hp → Prop} : Run 177 3 lo st h Q = Cnt 177 Q (xo_const (.int (-9)) 5 lo st h) := run_s rfl
theorem rq_X10_nextTaught_5 {lo : Lo} {st : List Value} {h : Hp} {Q : Option Value → Hp → Prop} : Run 177 5 lo st h Q = Cnt 177 Q (xo_istore 2 6 lo st h) := run_s rfl
theorem rq_X10_nextTaught_6 {lo : Lo} {st : List Value} {h : Hp} {Q : Option Value → Hp → Prop} : Run 177 6 lo st h Q = Cnt 177 Q (xo_const (.int 0) 7 lo st h) := run_s rfl
theorem rq_X10_nextTaught_7 {lo : Lo} {st : List Value} {h : Hp} {Q : Option Value → Hp → Prop} : Run 177 7 lo st h Q = Cnt 177 Q (xo_istore 3 8 lo st h) := run_s rfl
theorem rq_X10_nextTaught_8 {lo : Lo} {st : List Value} {h : Hp} {Q : Option Value → Hp → Prop} : Run 177 8 lo st h Q = Cnt 177 Q (xo_iload 3 9 lo st h) := run_s rfl
theorem rq_X10_nextTaught_9 {lo : Lo} {st : List Value} {h : Hp} {Q : Option Value → Hp → Prop} : Run 177 9 lo st h Q = Cnt 177 Q (xo_const (.int 26) 11 lo st h) := run_s rfl
theorem rq_X10_nextTaught_11 {lo : Lo} {st : List Value} {h : Hp} {Q : Option Value → Hp → Prop} : Run 177 11 lo st h Q = Cnt 177 Q (xo_if2 (fun x y => decide (x ≥ y)) 61 14 lo st h) := run_s rfl
theorem rq_X10_nextTaught_14 {lo : Lo} {st : List Value} {h : Hp} {Q : Option Value → Hp → Prop} : Run 177 14 lo st h Q = Cnt 177 Q (xo_aload 0 15 lo st h) := run_s rfl
theorem rq_X10_nextTaught_15 {lo : Lo} {st : List Value} {h : Hp} {Q : Option Value → Hp → Prop} : Run 177 15 lo st h Q = Cnt 177 Q (xo_iload 3 16 lo st h) := run_s rfl
theorem rq_X10_nextTaught_16 {lo : Lo} {st : List Value} {h : Hp} {Q : Option Value → Hp → Prop} : Run 177 16 lo st h Q = CCall 154 2 (some 10) st h (Knt 177 19 lo (st.drop 2) Q) := run_c rfl
theorem rq_X10_nextTaught_19 {lo : Lo} {st : List Value} {h : Hp} {Q : Option Value → Hp → Prop} : Run 177 19 lo st h Q = Cnt 177 Q (xo_if1 (fun x => decide (x = 0)) 55 22 lo st h) := run_s rfl
theorem rq_X10_nextTaught_22 {lo : Lo} {st : List Value} {h : Hp} {Q : Option Value → Hp → Prop} : Run 177 22 lo st h Q = Cnt 177 Q (xo_aload 0 23 lo st h) := run_s rfl
theorem rq_X10_nextTaught_23 {lo : Lo} {st : List Value} {h : Hp} {Q : Option Value → Hp → Prop} : Run 177 23 lo st h Q = Cnt 177 Q (xo_getf 10 21 26 lo st h) := run_s rfl
theorem rq_X10_nextTaught_26 {lo : Lo} {st : List Value} {h : Hp} {Q : Option Value → Hp → Prop} : Run 177 26 lo st h Q = Cnt 177 Q (xo_iload 3 27 lo st h) := run_s rfl
theorem rq_X10_nextTaught_27 {lo : Lo} {st : List Value} {h : Hp} {Q : Option Value → Hp → Prop} : Run 177 27 lo st h Q = Cnt 177 Q (xo_zald 28 lo st h) := run_s rfl
theorem rq_X10_nextTaught_28 {lo : Lo} {st : List Value} {h : Hp} {Q : Option Value → Hp → Prop} : Run 177 28 lo st h Q = Cnt 177 Q (xo_if1 (fun x => decide (¬ x = 0)) 55 31 lo st h) := run_s rfl
theorem rq_X10_nextTaught_31 {lo : Lo} {st : List Value} {h : Hp} {Q : Option Value → Hp → Prop} : Run 177 31 lo st h Q = Cnt 177 Q (xo_aload 0 32 lo st h) := run_s rfl
theorem rq_X10_nextTaught_32 {lo : Lo} {st : List Value} {h : Hp} {Q : Option Value → Hp → Prop} : Run 177 32 lo st h Q = Cnt 177 Q (xo_iload 3 33 lo st h) := run_s rfl
theorem rq_X10_nextTaught_33 {lo : Lo} {st : List Value} {h : Hp} {Q : Option Value → Hp → Prop} : Run 177 33 lo st h Q = CCall 176 2 (some 10) st h (Knt 177 36 lo (st.drop 2) Q) := run_c rfl
theorem rq_X10_nextTaught_36 {lo : Lo} {st : List Value} {h : Hp} {Q : Option Value → Hp → Prop} : Run 177 36 lo st h Q = Cnt 177 Q (xo_istore 4 38 lo st h) := run_s rfl
theorem rq_X10_nextTaught_38 {lo : Lo} {st : List Value} {h : Hp} {Q : Option Value → Hp → Prop} : Run 177 38 lo st h Q = Cnt 177 Q (xo_iload 1 39 lo st h) := run_s rfl
theorem rq_X10_nextTaught_39 {lo : Lo} {st : List Value} {h : Hp} {Q : Option Value → Hp → Prop} : Run 177 39 lo st h Q = Cnt 177 Q (xo_const (.int (-9)) 41 lo st h) := run_s rfl
theorem rq_X10_nextTaught_41 {lo : Lo} {st : List Value} {h : Hp} {Q : Option Value → Hp → Prop} : Run 177 41 lo st h Q = Cnt 177 Q (xo_if2 (fun x y => decide (x = y)) 50 44 lo st h) := run_s rfl
theorem rq_X10_nextTaught_44 {lo : Lo} {st : List Value} {h : Hp} {Q : Option Value → Hp → Prop} : Run 177 44 lo st h Q = Cnt 177 Q (xo_iload 4 46 lo st h) := run_s rfl
theorem rq_X10_nextTaught_46 {lo : Lo} {st : List Value} {h : Hp} {Q : Option Value → Hp → Prop} : Run 177 46 lo st h Q = Cnt 177 Q (xo_iload 2 47 lo st h) := run_s rfl
theorem rq_X10_nextTaught_47 {lo : Lo} {st : List Value} {h : Hp} {Q : Option Value → Hp → Prop} : Run 177 47 lo st h Q = Cnt 177 Q (xo_if2 (fun x y => decide (x ≥ y)) 55 50 lo st h) := run_s rfl
theorem rq_X10_nextTaught_50 {lo : Lo} {st : List Value} {h : Hp} {Q : Option Value → Hp → Prop} : Run 177 50 lo st h Q = Cnt 177 Q (xo_iload 3 51 lo st h) := run_s rfl
theorem rq_X10_nextTaught_51 {lo : Lo} {st : List Value} {h : Hp} {Q : Option Value → Hp → Prop} : Run 177 51 lo st h Q = Cnt 177 Q (xo_istore 1 52 lo st h) := run_s rfl
theorem rq_X10_nextTaught_52 {lo : Lo} {st : List Value} {h : Hp} {Q : Option Value → Hp → Prop} : Run 177 52 lo st h Q = Cnt 177 Q (xo_iload 4 54 lo st h) := run_s rfl
theorem rq_X10_nextTaught_54 {lo : Lo} {st : List Value} {h : Hp} {Q : Option Value → Hp → Prop} : Run 177 54 lo st h Q = Cnt 177 Q (xo_istore 2 55 lo st h) := run_s rfl
theorem rq_X10_nextTaught_55 {lo : Lo} {st : List Value} {h : Hp} {Q : Option Value → Hp → Prop} : Run 177 55 lo st h Q = Cnt 177 Q (xo_iinc 3 1 58 lo st h) := run_s rfl
theorem rq_X10_nextTaught_58 {lo : Lo} {st : List Value} {h : Hp} {Q : Option Value → Hp → Prop} : Run 177 58 lo st h Q = Cnt 177 Q (xo_goto 8 lo st h) := run_s rfl
theorem rq_X10_nextTaught_61 {lo : Lo} {st : List Value} {h : Hp} {Q : Option Value → Hp → Prop} : Run 177 61 lo st h Q = Cnt 177 Q (xo_iload 1 62 lo st h) := run_s rfl
theorem rq_X10_nextTaught_62 {lo : Lo} {st : List Value} {h : Hp} {Q : Option Value → Hp → Prop} : Run 177 62 lo st h Q = Cnt 177 Q (xo_iret lo st h) := run_s rfl
theorem rq_X10_lesson_0 {lo : Lo} {st : List Value} {h : Hp} {Q : Option Value → Hp → Prop} : Run 178 0 lo st h Q = Cnt 178 Q (xo_iload 1 1 lo st h) := run_s rfl
theorem rq_X10_lesson_1 {lo : Lo} {st : List Value} {h : Hp} {Q : Option Value → Hp → Prop} : Run 178 1 lo st h Q = Cnt 178 Q (xo_const (.int 0) 2 lo st h) := run_s rfl
theorem rq_X10_lesson_2 {lo : Lo} {st : List Value} {h : Hp} {Q : Option Value → Hp → Prop} : Run 178 2 lo st h Q = Cnt 178 Q (xo_const (.int 9) 4 lo st h) := run_s rfl
theorem rq_X10_lesson_4 {lo : Lo} {st : List Value} {h : Hp} {Q : Option Value → Hp → Prop} : Run 178 4 lo st h Q = CCall 111 3 none st h (Knt 178 7 lo (st.drop 3) Q) := run_c rfl
theorem rq_X10_lesson_7 {lo : Lo} {st : List Value} {h : Hp} {Q : Option Value → Hp → Prop} : Run 178 7 lo st h Q = Cnt 178 Q (xo_if1 (fun x => decide (x = 0)) 19 10 lo st h) := run_s rfl
theorem rq_X10_lesson_10 {lo : Lo} {st : List Value} {h : Hp} {Q : Option Value → Hp → Prop} : Run 178 10 lo st h Q = Cnt 178 Q (xo_iload 2 11 lo st h) := run_s rfl
theorem rq_X10_lesson_11 {lo : Lo} {st : List Value} {h : Hp} {Q : Option Value → Hp → Prop} : Run 178 11 lo st h Q = Cnt 178 Q (xo_const (.int 0) 12 lo st h) := run_s rfl
theorem rq_X10_lesson_12 {lo : Lo} {st : List Value} {h : Hp} {Q : Option Value → Hp → Prop} : Run 178 12 lo st h Q = Cnt 178 Q (xo_const (.int 1) 13 lo st h) := run_s rfl
theorem rq_X10_lesson_13 {lo : Lo} {st : List Value} {h : Hp} {Q : Option Value → Hp → Prop} : Run 178 13 lo st h Q = CCall 111 3 none st h (Knt 178 16 lo (st.drop 3) Q) := run_c rfl
theorem rq_X10_lesson_16 {lo : Lo} {st : List Value} {h : Hp} {Q : Option Value → Hp → Prop} : Run 178 16 lo st h Q = Cnt 178 Q (xo_if1 (fun x => decide (¬ x = 0)) 22 19 lo st h) := run_s rfl
theorem rq_X10_lesson_19 {lo : Lo} {st : List Value} {h : Hp} {Q : Option Value → Hp → Prop} : Run 178 19 lo st h Q = Cnt 178 Q (xo_const (.int (-2)) 21 lo st h) := run_s rfl
theorem rq_X10_lesson_21 {lo : Lo} {st : List Value} {h : Hp} {Q : Option Value → Hp → Prop} : Run 178 21 lo st h Q = Cnt 178 Q (xo_iret lo st h) := run_s rfl
theorem rq_X10_lesson_22 {lo : Lo} {st : List Value} {h : Hp} {Q : Option Value → Hp → Prop} : Run 178 22 lo st h Q = Cnt 178 Q (xo_iload 1 23 lo st h) := run_s rfl
theorem rq_X10_lesson_23 {lo : Lo} {st : List Value} {h : Hp} {Q : Option Value → Hp → Prop} : Run 178 23 lo st h Q = Cnt 178 Q (xo_aload 0 24 lo st h) := run_s rfl
theorem rq_X10_lesson_24 {lo : Lo} {st : List Value} {h : Hp} {Q : Option Value → Hp → Prop} : Run 178 24 lo st h Q = CCall 155 1 (some 10) st h (Knt 178 27 lo (st.drop 1) Q) := run_c rfl
theorem rq_X10_lesson_27 {lo : Lo} {st : List Value} {h : Hp} {Q : Option Value → Hp → Prop} : Run 178 27 lo st h Q = Cnt 178 Q (xo_if2 (fun x y => decide (x < y)) 33 30 lo st h) := run_s rfl
theorem rq_X10_lesson_30 {lo : Lo} {st : List Value} {h : Hp} {Q : Option Value → Hp → Prop} : Run 178 30 lo st h Q = Cnt 178 Q (xo_const (.int (-9)) 32 lo st h) := run_s rfl
theorem rq_X10_lesson_32 {lo : Lo} {st : List Value} {h : Hp} {Q : Option Value → Hp → Prop} : Run 178 32 lo st h Q = Cnt 178 Q (xo_iret lo st h) := run_s rfl
theorem rq_X10_lesson_33 {lo : Lo} {st : List Value} {h : Hp} {Q : Option Value → Hp → Prop} : Run 178 33 lo st h Q = Cnt 178 Q (xo_aload 0 34 lo st h) := run_s rfl
theorem rq_X10_lesson_34 {lo : Lo} {st : List Value} {h : Hp} {Q : Option Value → Hp → Prop} : Run 178 34 lo st h Q = Cnt 178 Q (xo_const (.int 0) 35 lo st h) := run_s rfl
theorem rq_X10_lesson_35 {lo : Lo} {st : List Value} {h : Hp} {Q : Option Value → Hp → Prop} : Run 178 35 lo st h Q = Cnt 178 Q (xo_putf 10 16 true 38 lo st h) := run_s rfl
theorem rq_X10_lesson_38 {lo : Lo} {st : List Value} {h : Hp} {Q : Option Value → Hp → Prop} : Run 178 38 lo st h Q = Cnt 178 Q (xo_const (.int 0) 39 lo st h) := run_s rfl
theorem rq_X10_lesson_39 {lo : Lo} {st : List Value} {h : Hp} {Q : Option Value → Hp → Prop} : Run 178 39 lo st h Q = Cnt 178 Q (xo_istore 3 40 lo st h) := run_s rfl
theorem rq_X10_lesson_40 {lo : Lo} {st : List Value} {h : Hp} {Q : Option Value → Hp → Prop} : Run 178 40 lo st h Q = Cnt 178 Q (xo_iload 3 41 lo st h) := run_s rfl
theorem rq_X10_lesson_41 {lo : Lo} {st : List Value} {h : Hp} {Q : Option Value → Hp → Prop} : Run 178 41 lo st h Q = Cnt 178 Q (xo_const (.int 26) 43 lo st h) := run_s rfl
theorem rq_X10_lesson_43 {lo : Lo} {st : List Value} {h : Hp} {Q : Option Value → Hp → Prop} : Run 178 43 lo st h Q = Cnt 178 Q (xo_if2 (fun x y => decide (x ≥ y)) 59 46 lo st h) := run_s rfl
theorem rq_X10_lesson_46 {lo : Lo} {st : List Value} {h : Hp} {Q : Option Value → Hp → Prop} : Run 178 46 lo st h Q = Cnt 178 Q (xo_aload 0 47 lo st h) := run_s rfl
theorem rq_X10_lesson_47 {lo : Lo} {st : List Value} {h : Hp} {Q : Option Value → Hp → Prop} : Run 178 47 lo st h Q = Cnt 178 Q (xo_getf 10 21 50 lo st h) := run_s rfl
theorem rq_X10_lesson_50 {lo : Lo} {st : List Value} {h : Hp} {Q : Option Value → Hp → Prop} : Run 178 50 lo st h Q = Cnt 178 Q (xo_iload 3 51 lo st h) := run_s rfl
theorem rq_X10_lesson_51 {lo : Lo} {st : List Value} {h : Hp} {Q : Option Value → Hp → Prop} : Run 178 51 lo st h Q = Cnt 178 Q (xo_const (.int 0) 52 lo st h) := run_s rfl
theorem rq_X10_lesson_52 {lo : Lo} {st : List Value} {h : Hp} {Q : Option Value → Hp → Prop} : Run 178 52 lo st h Q = Cnt 178 Q (xo_zast 53 lo st h) := run_s rfl
theorem rq_X10_lesson_53 {lo : Lo} {st : List Value} {h : Hp} {Q : Option Value → Hp → Prop} : Run 178 53 lo st h Q = Cnt 178 Q (xo_iinc 3 1 56 lo st h) := run_s rfl
theorem rq_X10_lesson_56 {lo : Lo} {st : List Value} {h : Hp} {Q : Option Value → Hp → Prop} : Run 178 56 lo st h Q = Cnt 178 Q (xo_goto 40 lo st h) := run_s rfl
theorem rq_X10_lesson_59 {lo : Lo} {st : List Value} {h : Hp} {Q : Option Value → Hp → Prop} : Run 178 59 lo st h Q = Cnt 178 Q (xo_const (.int (-9)) 61 lo st h) := run_s rfl
theorem rq_X10_lesson_61 {lo : Lo} {st : List Value} {h : Hp} {Q : Option Value → Hp → Prop} : Run 178 61 lo st h Q = Cnt 178 Q (xo_istore 3 62 lo st h) := run_s rfl
theorem rq_X10_lesson_62 {lo : Lo} {st : List Value} {h : Hp} {Q : Option Value → Hp → Prop} : Run 178 62 lo st h Q = Cnt 178 Q (xo_const (.int 0) 63 lo st h) := run_s rfl
theorem rq_X10_lesson_63 {lo : Lo} {st : List Value} {h : Hp} {Q : Option Value → Hp → Prop} : Run 178 63 lo st h Q = Cnt 178 Q (xo_istore 4 65 lo st h) := run_s rfl
theorem rq_X10_lesson_65 {lo : Lo} {st : List Value} {h : Hp} {Q : Option Value → Hp → Prop} : Run 178 65 lo st h Q = Cnt 178 Q (xo_const (.int 0) 66 lo st h) := run_s rfl
theorem rq_X10_lesson_66 {lo : Lo} {st : List Value} {h : Hp} {Q : Option Value → Hp → Prop} : Run 178 66 lo st h Q = Cnt 178 Q (xo_istore 5 68 lo st h) := run_s rfl
theorem rq_X10_lesson_68 {lo : Lo} {st : List Value} {h : Hp} {Q : Option Value → Hp → Prop} : Run 178 68 lo st h Q = Cnt 178 Q (xo_iload 5 70 lo st h) := run_s rfl
theorem rq_X10_lesson_70 {lo : Lo} {st : List Value} {h : Hp} {Q : Option Value → Hp → Prop} : Run 178 70 lo st h Q = Cnt 178 Q (xo_iload 1 71 lo st h) := run_s rfl
theorem rq_X10_lesson_71 {lo : Lo} {st : List Value} {h : Hp} {Q : Option Value → Hp → Prop} : Run 178 71 lo st h Q = Cnt 178 Q (xo_if2 (fun x y => decide (x > y)) 104 74 lo st h) := run_s rfl
theorem rq_X10_lesson_74 {lo : Lo} {st : List Value} {h : Hp} {Q : Option Value → Hp → Prop} : Run 178 74 lo st h Q = Cnt 178 Q (xo_aload 0 75 lo st h) := run_s rfl
theorem rq_X10_lesson_75 {lo : Lo} {st : List Value} {h : Hp} {Q : Option Value → Hp → Prop} : Run 178 75 lo st h Q = CCall 177 1 (some 10) st h (Knt 178 78 lo (st.drop 1) Q) := run_c rfl
theorem rq_X10_lesson_78 {lo : Lo} {st : List Value} {h : Hp} {Q : Option Value → Hp → Prop} : Run 178 78 lo st h Q = Cnt 178 Q (xo_istore 3 79 lo st h) := run_s rfl
theorem rq_X10_lesson_79 {lo : Lo} {st : List Value} {h : Hp} {Q : Option Value → Hp → Prop} : Run 178 79 lo st h Q = Cnt 178 Q (xo_aload 0 80 lo st h) := run_s rfl
theorem rq_X10_lesson_80 {lo : Lo} {st : List Value} {h : Hp} {Q : Option Value → Hp → Prop} : Run 178 80 lo st h Q = Cnt 178 Q (xo_iload 3 81 lo st h) := run_s rfl
theorem rq_X10_lesson_81 {lo : Lo} {st : List Value} {h : Hp} {Q : Option Value → Hp → Prop} : Run 178 81 lo st h Q = CCall 176 2 (some 10) st h (Knt 178 84 lo (st.drop 2) Q) := run_c rfl
theorem rq_X10_lesson_84 {lo : Lo} {st : List Value} {h : Hp} {Q : Option Value → Hp → Prop} : Run 178 84 lo st h Q = Cnt 178 Q (xo_istore 4 86 lo st h) := run_s rfl
theorem rq_X10_lesson_86 {lo : Lo} {st : List Value} {h : Hp} {Q : Option Value → Hp → Prop} : Run 178 86 lo st h Q = Cnt 178 Q (xo_aload 0 87 lo st h) := run_s rfl
theorem rq_X10_lesson_87 {lo : Lo} {st : List Value} {h : Hp} {Q : Option Value → Hp → Prop} : Run 178 87 lo st h Q = Cnt 178 Q (xo_iload 3 88 lo st h) := run_s rfl
theorem rq_X10_lesson_88 {lo : Lo} {st : List Value} {h : Hp} {Q : Option Value → Hp → Prop} : Run 178 88 lo st h Q = CCall 163 2 (some 10) st h (Knt 178 91 lo (st.drop 2) Q) := run_c rfl
theorem rq_X10_lesson_91 {lo : Lo} {st : List Value} {h : Hp} {Q : Option Value → Hp → Prop} : Run 178 91 lo st h Q = Cnt 178 Q (xo_aload 0 92 lo st h) := run_s rfl
theorem rq_X10_lesson_92 {lo : Lo} {st : List Value} {h : Hp} {Q : Option Value → Hp → Prop} : Run 178 92 lo st h Q = Cnt 178 Q (xo_getf 10 21 95 lo st h) := run_s rfl
theorem rq_X10_lesson_95 {lo : Lo} {st : List Value} {h : Hp} {Q : Option Value → Hp → Prop} : Run 178 95 lo st h Q = Cnt 178 Q (xo_iload 3 96 lo st h) := run_s rfl
theorem rq_X10_lesson_96 {lo : Lo} {st : List Value} {h : Hp} {Q : Option Value → Hp → Prop} : Run 178 96 lo st h Q = Cnt 178 Q (xo_const (.int 1) 97 lo st h) := run_s rfl
theorem rq_X10_lesson_97 {lo : Lo} {st : List Value} {h : Hp} {Q : Option Value → Hp → Prop} : Run 178 97 lo st h Q = Cnt 178 Q (xo_zast 98 lo st h) := run_s rfl
theorem rq_X10_lesson_98 {lo : Lo} {st : List Value} {h : Hp} {Q : Option Value → Hp → Prop} : Run 178 98 lo st h Q = Cnt 178 Q (xo_iinc 5 1 101 lo st h) := run_s rfl
theorem rq_X10_lesson_101 {lo : Lo} {st : List Value} {h : Hp} {Q : Option Value → Hp → Prop} : Run 178 101 lo st h Q = Cnt 178 Q (xo_goto 68 lo st h) := run_s rfl
theorem rq_X10_lesson_104 {lo : Lo} {st : List Value} {h : Hp} {Q : Option Value → Hp → Prop} : Run 178 104 lo st h Q = Cnt 178 Q (xo_iload 2 105 lo st h) := run_s rfl
theorem rq_X10_lesson_105 {lo : Lo} {st : List Value} {h : Hp} {Q : Option Value → Hp → Prop} : Run 178 105 lo st h Q = Cnt 178 Q (xo_if1 (fun x => decide (¬ x = 0)) 112 108 lo st h) := run_s rfl
theorem rq_X10_lesson_108 {lo : Lo} {st : List Value} {h : Hp} {Q : Option Value → Hp → Prop} : Run 178 108 lo st h Q = Cnt 178 Q (xo_iload 3 109 lo st h) := run_s rfl
theorem rq_X10_lesson_109 {lo : Lo} {st : List Value} {h : Hp} {Q : Option Value → Hp → Prop} : Run 178 109 lo st h Q = Cnt 178 Q (xo_goto 114 lo st h) := run_s rfl
theorem rq_X10_lesson_112 {lo : Lo} {st : List Value} {h : Hp} {Q : Option Value → Hp → Prop} : Run 178 112 lo st h Q = Cnt 178 Q (xo_iload 4 114 lo st h) := run_s rfl
theorem rq_X10_lesson_114 {lo : Lo} {st : List Value} {h : Hp} {Q : Option Value → Hp → Prop} : Run 178 114 lo st h Q = Cnt 178 Q (xo_iret lo st h) := run_s rfl
theorem rq_X10_wrongByNib_0 {lo : Lo} {st : List Value} {h : Hp} {Q : Option Value → Hp → Prop} : Run 179 0 lo st h Q = Cnt 179 Q (xo_const (.int 0) 1 lo st h) := run_s rfl
theorem rq_X10_wrongByNib_1 {lo : Lo} {st : List Value} {h : Hp} {Q : Option Value → Hp → Prop} : Run 179 1 lo st h Q = Cnt 179 Q (xo_istore 3 2 lo st h) := run_s rfl
theorem rq_X10_wrongByNib_2 {lo : Lo} {st : List Value} {h : Hp} {Q : Option Value → Hp → Prop} : Run 179 2 lo st h Q = Cnt 179 Q (xo_const (.int 0) 3 lo st h) := run_s rfl
theorem rq_X10_wrongByNib_3 {lo : Lo} {st : List Value} {h : Hp} {Q : Option Value → Hp → Prop} : Run 179 3 lo st h Q = Cnt 179 Q (xo_istore 4 5 lo st h) := run_s rfl
theorem rq_X10_wrongByNib_5 {lo : Lo} {st : List Value} {h : Hp} {Q : Option Value → Hp → Prop} : Run 179 5 lo st h Q = Cnt 179 Q (xo_iload 4 7 lo st h) := run_s rfl
theorem rq_X10_wrongByNib_7 {lo : Lo} {st : List Value} {h : Hp} {Q : Option Value → Hp → Prop} : Run 179 7 lo st h Q = Cnt 179 Q (xo_aload 0 8 lo st h) := run_s rfl
theorem rq_X10_wrongByNib_8 {lo : Lo} {st : List Value} {h : Hp} {Q : Option Value → Hp → Prop} : Run 179 8 lo st h Q = Cnt 179 Q (xo_getf 10 5 11 lo st h) := run_s rfl
theorem rq_X10_wrongByNib_11 {lo : Lo} {st : List Value} {h : Hp} {Q : Option Value → Hp → Prop} : Run 179 11 lo st h Q = Cnt 179 Q (xo_const (.int 26) 13 lo st h) := run_s rfl
theorem rq_X10_wrongByNib_13 {lo : Lo} {st : List Value} {h : Hp} {Q : Option Value → Hp → Prop} : Run 179 13 lo st h Q = Cnt 179 Q (xo_iald 14 lo st h) := run_s rfl
theorem rq_X10_wrongByNib_14 {lo : Lo} {st : List Value} {h : Hp} {Q : Option Value → Hp → Prop} : Run 179 14 lo st h Q = Cnt 179 Q (xo_if2 (fun x y => decide (x ≥ y)) 42 17 lo st h) := run_s rfl
theorem rq_X10_wrongByNib_17 {lo : Lo} {st : List Value} {h : Hp} {Q : Option Value → Hp → Prop} : Run 179 17 lo st h Q = Cnt 179 Q (xo_iload 3 18 lo st h) := run_s rfl
theorem rq_X10_wrongByNib_18 {lo : Lo} {st : List Value} {h : Hp} {Q : Option Value → Hp → Prop} : Run 179 18 lo st h Q = Cnt 179 Q (xo_aload 0 19 lo st h) := run_s rfl
theorem rq_X10_wrongByNib_19 {lo : Lo} {st : List Value} {h : Hp} {Q : Option Value → Hp → Prop} : Run 179 19 lo st h Q = Cnt 179 Q (xo_const (.int 156) 22 lo st h) := run_s rfl
theorem rq_X10_wrongByNib_22 {lo : Lo} {st : List Value} {h : Hp} {Q : Option Value → Hp → Prop} : Run 179 22 lo st h Q = Cnt 179 Q (xo_iload 4 24 lo st h) := run_s rfl
theorem rq_X10_wrongByNib_24 {lo : Lo} {st : List Value} {h : Hp} {Q : Option Value → Hp → Prop} : Run 179 24 lo st h Q = Cnt 179 Q (xo_bin (fun x y => x + y) 25 lo st h) := run_s rfl
theorem rq_X10_wrongByNib_25 {lo : Lo} {st : List Value} {h : Hp} {Q : Option Value → Hp → Prop} : Run 179 25 lo st h Q = Cnt 179 Q (xo_iload 1 26 lo st h) := run_s rfl
theorem rq_X10_wrongByNib_26 {lo : Lo} {st : List Value} {h : Hp} {Q : Option Value → Hp → Prop} : Run 179 26 lo st h Q = Cnt 179 Q (xo_iload 2 27 lo st h) := run_s rfl
theorem rq_X10_wrongByNib_27 {lo : Lo} {st : List Value} {h : Hp} {Q : Option Value → Hp → Prop} : Run 179 27 lo st h Q = Cnt 179 Q (xo_aload 0 28 lo st h) := run_s rfl
theorem rq_X10_wrongByNib_28 {lo : Lo} {st : List Value} {h : Hp} {Q : Option Value → Hp → Prop} : Run 179 28 lo st h Q = Cnt 179 Q (xo_getf 10 13 31 lo st h) := run_s rfl
theorem rq_X10_wrongByNib_31 {lo : Lo} {st : List Value} {h : Hp} {Q : Option Value → Hp → Prop} : Run 179 31 lo st h Q = CCall 141 5 (some 10) st h (Knt 179 34 lo (st.drop 5) Q) := run_c rfl
theorem rq_X10_wrongByNib_34 {lo : Lo} {st : List Value} {h : Hp} {Q : Option Value → Hp → Prop} : Run 179 34 lo st h Q = Cnt 179 Q (xo_bin (fun x y => x + y) 35 lo st h) := run_s rfl
theorem rq_X10_wrongByNib_35 {lo : Lo} {st : List Value} {h : Hp} {Q : Option Value → Hp → Prop} : Run 179 35 lo st h Q = Cnt 179 Q (xo_istore 3 36 lo st h) := run_s rfl
theorem rq_X10_wrongByNib_36 {lo : Lo} {st : List Value} {h : Hp} {Q : Option Value → Hp → Prop} : Run 179 36 lo st h Q = Cnt 179 Q (xo_iinc 4 1 39 lo st h) := run_s rfl
theorem rq_X10_wrongByNib_39 {lo : Lo} {st : List Value} {h : Hp} {Q : Option Value → Hp → Prop} : Run 179 39 lo st h Q = Cnt 179 Q (xo_goto 5 lo st h) := run_s rfl
theorem rq_X10_wrongByNib_42 {lo : Lo} {st : List Value} {h : Hp} {Q : Option Value → Hp → Prop} : Run 179 42 lo st h Q = Cnt 179 Q (xo_iload 3 43 lo st h) := run_s rfl
theorem rq_X10_wrongByNib_43 {lo : Lo} {st : List Value} {h : Hp} {Q : Option Value → Hp → Prop} : Run 179 43 lo st h Q = Cnt 179 Q (xo_iret lo st h) := run_s rfl
theorem rq_X10_bestNib_0 {lo : Lo} {st : List Value} {h : Hp} {Q : Option Value → Hp → Prop} : Run 180 0 lo st h Q = Cnt 180 Q (xo_iload 1 1 lo st h) := run_s rfl
theorem rq_X10_bestNib_1 {lo : Lo} {st : List Value} {h : Hp} {Q : Option Value → Hp → Prop} : Run 180 1 lo st h Q = Cnt 180 Q (xo_const (.int 0) 2 lo st h) := run_s rfl
theorem rq_X10_bestNib_2 {lo : Lo} {st : List Value} {h : Hp} {Q : Option Value → Hp → Prop} : Run 180 2 lo st h Q = Cnt 180 Q (xo_const (.int 2) 3 lo st h) := run_s rfl
theorem rq_X10_bestNib_3 {lo : Lo} {st : List Value} {h : Hp} {Q : Option Value → Hp → Prop} : Run 180 3 lo st h Q = CCall 111 3 none st h (Knt 180 6 lo (st.drop 3) Q) := run_c rfl
theorem rq_X10_bestNib_6 {lo : Lo} {st : List Value} {h : Hp} {Q : Option Value → Hp → Prop} : Run 180 6 lo st h Q = Cnt 180 Q (xo_if1 (fun x => decide (¬ x = 0)) 12 9 lo st h) := run_s rfl
theorem rq_X10_bestNib_9 {lo : Lo} {st : List Value} {h : Hp} {Q : Option Value → Hp → Prop} : Run 180 9 lo st h Q = Cnt 180 Q (xo_const (.int (-2)) 11 lo st h) := run_s rfl
theorem rq_X10_bestNib_11 {lo : Lo} {st : List Value} {h : Hp} {Q : Option Value → Hp → Prop} : Run 180 11 lo st h Q = Cnt 180 Q (xo_iret lo st h) := run_s rfl
theorem rq_X10_bestNib_12 {lo : Lo} {st : List Value} {h : Hp} {Q : Option Value → Hp → Prop} : Run 180 12 lo st h Q = Cnt 180 Q (xo_const (.int 0) 13 lo st h) := run_s rfl
theorem rq_X10_bestNib_13 {lo : Lo} {st : List Value} {h : Hp} {Q : Option Value → Hp → Prop} : Run 180 13 lo st h Q = Cnt 180 Q (xo_istore 2 14 lo st h) := run_s rfl
theorem rq_X10_bestNib_14 {lo : Lo} {st : List Value} {h : Hp} {Q : Option Value → Hp → Prop} : Run 180 14 lo st h Q = Cnt 180 Q (xo_const (.int 0) 15 lo st h) := run_s rfl
theorem rq_X10_bestNib_15 {lo : Lo} {st : List Value} {h : Hp} {Q : Option Value → Hp → Prop} : Run 180 15 lo st h Q = Cnt 180 Q (xo_istore 3 16 lo st h) := run_s rfl
theorem rq_X10_bestNib_16 {lo : Lo} {st : List Value} {h : Hp} {Q : Option Value → Hp → Prop} : Run 180 16 lo st h Q = Cnt 180 Q (xo_const (.int (-9)) 18 lo st h) := run_s rfl
theorem rq_X10_bestNib_18 {lo : Lo} {st : List Value} {h : Hp} {Q : Option Value → Hp → Prop} : Run 180 18 lo st h Q = Cnt 180 Q (xo_istore 4 20 lo st h) := run_s rfl
theorem rq_X10_bestNib_20 {lo : Lo} {st : List Value} {h : Hp} {Q : Option Value → Hp → Prop} : Run 180 20 lo st h Q = Cnt 180 Q (xo_const (.int 0) 21 lo st h) := run_s rfl
theorem rq_X10_bestNib_21 {lo : Lo} {st : List Value} {h : Hp} {Q : Option Value → Hp → Prop} : Run 180 21 lo st h Q = Cnt 180 Q (xo_istore 5 23 lo st h) := run_s rfl
theorem rq_X10_bestNib_23 {lo : Lo} {st : List Value} {h : Hp} {Q : Option Value → Hp → Prop} : Run 180 23 lo st h Q = Cnt 180 Q (xo_iload 5 25 lo st h) := run_s rfl
theorem rq_X10_bestNib_25 {lo : Lo} {st : List Value} {h : Hp} {Q : Option Value → Hp → Prop} : Run 180 25 lo st h Q = Cnt 180 Q (xo_const (.int 6) 27 lo st h) := run_s rfl
theorem rq_X10_bestNib_27 {lo : Lo} {st : List Value} {h : Hp} {Q : Option Value → Hp → Prop} : Run 180 27 lo st h Q = Cnt 180 Q (xo_if2 (fun x y => decide (x > y)) 109 30 lo st h) := run_s rfl
theorem rq_X10_bestNib_30 {lo : Lo} {st : List Value} {h : Hp} {Q : Option Value → Hp → Prop} : Run 180 30 lo st h Q = Cnt 180 Q (xo_const (.int (-6)) 32 lo st h) := run_s rfl
theorem rq_X10_bestNib_32 {lo : Lo} {st : List Value} {h : Hp} {Q : Option Value → Hp → Prop} : Run 180 32 lo st h Q = Cnt 180 Q (xo_istore 6 34 lo st h) := run_s rfl
theorem rq_X10_bestNib_34 {lo : Lo} {st : List Value} {h : Hp} {Q : Option Value → Hp → Prop} : Run 180 34 lo st h Q = Cnt 180 Q (xo_iload 6 36 lo st h) := run_s rfl
theorem rq_X10_bestNib_36 {lo : Lo} {st : List Value} {h : Hp} {Q : Option Value → Hp → Prop} : Run 180 36 lo st h Q = Cnt 180 Q (xo_const (.int 6) 38 lo st h) := run_s rfl
theorem rq_X10_bestNib_38 {lo : Lo} {st : List Value} {h : Hp} {Q : Option Value → Hp → Prop} : Run 180 38 lo st h Q = Cnt 180 Q (xo_if2 (fun x y => decide (x > y)) 103 41 lo st h) := run_s rfl
theorem rq_X10_bestNib_41 {lo : Lo} {st : List Value} {h : Hp} {Q : Option Value → Hp → Prop} : Run 180 41 lo st h Q = Cnt 180 Q (xo_iload 5 43 lo st h) := run_s rfl
theorem rq_X10_bestNib_43 {lo : Lo} {st : List Value} {h : Hp} {Q : Option Value → Hp → Prop} : Run 180 43 lo st h Q = Cnt 180 Q (xo_if1 (fun x => decide (¬ x = 0)) 56 46 lo st h) := run_s rfl
theorem rq_X10_bestNib_46 {lo : Lo} {st : List Value} {h : Hp} {Q : Option Value → Hp → Prop} : Run 180 46 lo st h Q = Cnt 180 Q (xo_iload 6 48 lo st h) := run_s rfl
theorem rq_X10_bestNib_48 {lo : Lo} {st : List Value} {h : Hp} {Q : Option Value → Hp → Prop} : Run 180 48 lo st h Q = Cnt 180 Q (xo_if1 (fun x => decide (¬ x = 0)) 56 51 lo st h) := run_s rfl
theorem rq_X10_bestNib_51 {lo : Lo} {st : List Value} {h : Hp} {Q : Option Value → Hp → Prop} : Run 180 51 lo st h Q = Cnt 180 Q (xo_const (.int (-9)) 53 lo st h) := run_s rfl
theorem rq_X10_bestNib_53 {lo : Lo} {st : List Value} {h : Hp} {Q : Option Value → Hp → Prop} : Run 180 53 lo st h Q = Cnt 180 Q (xo_goto 64 lo st h) := run_s rfl
theorem rq_X10_bestNib_56 {lo : Lo} {st : List Value} {h : Hp} {Q : Option Value → Hp → Prop} : Run 180 56 lo st h Q = Cnt 180 Q (xo_aload 0 57 lo st h) := run_s rfl
theorem rq_X10_bestNib_57 {lo : Lo} {st : List Value} {h : Hp} {Q : Option Value → Hp → Prop} : Run 180 57 lo st h Q = Cnt 180 Q (xo_iload 5 59 lo st h) := run_s rfl
theorem rq_X10_bestNib_59 {lo : Lo} {st : List Value} {h : Hp} {Q : Option Value → Hp → Prop} : Run 180 59 lo st h Q = Cnt 180 Q (xo_iload 6 61 lo st h) := run_s rfl
theorem rq_X10_bestNib_61 {lo : Lo} {st : List Value} {h : Hp} {Q : Option Value → Hp → Prop} : Run 180 61 lo st h Q = CCall 179 3 (some 10) st h (Knt 180 64 lo (st.drop 3) Q) := run_c rfl
theorem rq_X10_bestNib_64 {lo : Lo} {st : List Value} {h : Hp} {Q : Option Value → Hp → Prop} : Run 180 64 lo st h Q = Cnt 180 Q (xo_istore 7 66 lo st h) := run_s rfl
theorem rq_X10_bestNib_66 {lo : Lo} {st : List Value} {h : Hp} {Q : Option Value → Hp → Prop} : Run 180 66 lo st h Q = Cnt 180 Q (xo_iload 7 68 lo st h) := run_s rfl
theorem rq_X10_bestNib_68 {lo : Lo} {st : List Value} {h : Hp} {Q : Option Value → Hp → Prop} : Run 180 68 lo st h Q = Cnt 180 Q (xo_const (.int (-9)) 70 lo st h) := run_s rfl
theorem rq_X10_bestNib_70 {lo : Lo} {st : List Value} {h : Hp} {Q : Option Value → Hp → Prop} : Run 180 70 lo st h Q = Cnt 180 Q (xo_if2 (fun x y => decide (x = y)) 97 73 lo st h) := run_s rfl
theorem rq_X10_bestNib_73 {lo : Lo} {st : List Value} {h : Hp} {Q : Option Value → Hp → Prop} : Run 180 73 lo st h Q = Cnt 180 Q (xo_iload 4 75 lo st h) := run_s rfl
theorem rq_X10_bestNib_75 {lo : Lo} {st : List Value} {h : Hp} {Q : Option Value → Hp → Prop} : Run 180 75 lo st h Q = Cnt 180 Q (xo_const (.int (-9)) 77 lo st h) := run_s rfl
theorem rq_X10_bestNib_77 {lo : Lo} {st : List Value} {h : Hp} {Q : Option Value → Hp → Prop} : Run 180 77 lo st h Q = Cnt 180 Q (xo_if2 (fun x y => decide (x = y)) 87 80 lo st h) := run_s rfl
theorem rq_X10_bestNib_80 {lo : Lo} {st : List Value} {h : Hp} {Q : Option Value → Hp → Prop} : Run 180 80 lo st h Q = Cnt 180 Q (xo_iload 7 82 lo st h) := run_s rfl
theorem rq_X10_bestNib_82 {lo : Lo} {st : List Value} {h : Hp} {Q : Option Value → Hp → Prop} : Run 180 82 lo st h Q = Cnt 180 Q (xo_iload 4 84 lo st h) := run_s rfl
theorem rq_X10_bestNib_84 {lo : Lo} {st : List Value} {h : Hp} {Q : Option Value → Hp → Prop} : Run 180 84 lo st h Q = Cnt 180 Q (xo_if2 (fun x y => decide (x ≥ y)) 97 87 lo st h) := run_s rfl
theorem rq_X10_bestNib_87 {lo : Lo} {st : List Value} {h : Hp} {Q : Option Value → Hp → Prop} : Run 180 87 lo st h Q = Cnt 180 Q (xo_iload 7 89 lo st h) := run_s rfl
theorem rq_X10_bestNib_89 {lo : Lo} {st : List Value} {h : Hp} {Q : Option Value → Hp → Prop} : Run 180 89 lo st h Q = Cnt 180 Q (xo_istore 4 91 lo st h) := run_s rfl
theorem rq_X10_bestNib_91 {lo : Lo} {st : List Value} {h : Hp} {Q : Option Value → Hp → Prop} : Run 180 91 lo st h Q = Cnt 180 Q (xo_iload 5 93 lo st h) := run_s rfl
theorem rq_X10_bestNib_93 {lo : Lo} {st : List Value} {h : Hp} {Q : Option Value → Hp → Prop} : Run 180 93 lo st h Q = Cnt 180 Q (xo_istore 2 94 lo st h) := run_s rfl
theorem rq_X10_bestNib_94 {lo : Lo} {st : List Value} {h : Hp} {Q : Option Value → Hp → Prop} : Run 180 94 lo st h Q = Cnt 180 Q (xo_iload 6 96 lo st h) := run_s rfl
theorem rq_X10_bestNib_96 {lo : Lo} {st : List Value} {h : Hp} {Q : Option Value → Hp → Prop} : Run 180 96 lo st h Q = Cnt 180 Q (xo_istore 3 97 lo st h) := run_s rfl
theorem rq_X10_bestNib_97 {lo : Lo} {st : List Value} {h : Hp} {Q : Option Value → Hp → Prop} : Run 180 97 lo st h Q = Cnt 180 Q (xo_iinc 6 1 100 lo st h) := run_s rfl
theorem rq_X10_bestNib_100 {lo : Lo} {st : List Value} {h : Hp} {Q : Option Value → Hp → Prop} : Run 180 100 lo st h Q = Cnt 180 Q (xo_goto 34 lo st h) := run_s rfl
theorem rq_X10_bestNib_103 {lo : Lo} {st : List Value} {h : Hp} {Q : Option Value → Hp → Prop} : Run 180 103 lo st h Q = Cnt 180 Q (xo_iinc 5 1 106 lo st h) := run_s rfl
theorem rq_X10_bestNib_106 {lo : Lo} {st : List Value} {h : Hp} {Q : Option Value → Hp → Prop} : Run 180 106 lo st h Q = Cnt 180 Q (xo_goto 23 lo st h) := run_s rfl
theorem rq_X10_bestNib_109 {lo : Lo} {st : List Value} {h : Hp} {Q : Option Value → Hp → Prop} : Run 180 109 lo st h Q = Cnt 180 Q (xo_iload 1 110 lo st h) := run_s rfl
theorem rq_X10_bestNib_110 {lo : Lo} {st : List Value} {h : Hp} {Q : Option Value → Hp → Prop} : Run 180 110 lo st h Q = Cnt 180 Q (xo_if1 (fun x => decide (¬ x = 0)) 117 113 lo st h) := run_s rfl
theorem rq_X10_bestNib_113 {lo : Lo} {st : List Value} {h : Hp} {Q : Option Value → Hp → Prop} : Run 180 113 lo st h Q = Cnt 180 Q (xo_iload 2 114 lo st h) := run_s rfl
theorem rq_X10_bestNib_114 {lo : Lo} {st : List Value} {h : Hp} {Q : Option Value → Hp → Prop} : Run 180 114 lo st h Q = Cnt 180 Q (xo_goto 128 lo st h) := run_s rfl
theorem rq_X10_bestNib_117 {lo : Lo} {st : List Value} {h : Hp} {Q : Option Value → Hp → Prop} : Run 180 117 lo st h Q = Cnt 180 Q (xo_iload 1 118 lo st h) := run_s rfl
theorem rq_X10_bestNib_118 {lo : Lo} {st : List Value} {h : Hp} {Q : Option Value → Hp → Prop} : Run 180 118 lo st h Q = Cnt 180 Q (xo_const (.int 1) 119 lo st h) := run_s rfl
theorem rq_X10_bestNib_119 {lo : Lo} {st : List Value} {h : Hp} {Q : Option Value → Hp → Prop} : Run 180 119 lo st h Q = Cnt 180 Q (xo_if2 (fun x y => decide (¬ x = y)) 126 122 lo st h) := run_s rfl
theorem rq_X10_bestNib_122 {lo : Lo} {st : List Value} {h : Hp} {Q : Option Value → Hp → Prop} : Run 180 122 lo st h Q = Cnt 180 Q (xo_iload 3 123 lo st h) := run_s rfl
theorem rq_X10_bestNib_123 {lo : Lo} {st : List Value} {h : Hp} {Q : Option Value → Hp → Prop} : Run 180 123 lo st h Q = Cnt 180 Q (xo_goto 128 lo st h) := run_s rfl
theorem rq_X10_bestNib_126 {lo : Lo} {st : List Value} {h : Hp} {Q : Option Value → Hp → Prop} : Run 180 126 lo st h Q = Cnt 180 Q (xo_iload 4 128 lo st h) := run_s rfl
theorem rq_X10_bestNib_128 {lo : Lo} {st : List Value} {h : Hp} {Q : Option Value → Hp → Prop} : Run 180 128 lo st h Q = Cnt 180 Q (xo_iret lo st h) := run_s rfl
theorem rq_X10_bestLimit_0 {lo : Lo} {st : List Value} {h : Hp} {Q : Option Value → Hp → Prop} : Run 181 0 lo st h Q = Cnt 181 Q (xo_iload 1 1 lo st h) := run_s rfl
theorem rq_X10_bestLimit_1 {lo : Lo} {st : List Value} {h : Hp} {Q : Option Value → Hp → Prop} : Run 181 1 lo st h Q = Cnt 181 Q (xo_const (.int 0) 2 lo st h) := run_s rfl
theorem rq_X10_bestLimit_2 {lo : Lo} {st : List Value} {h : Hp} {Q : Option Value → Hp → Prop} : Run 181 2 lo st h Q = Cnt 181 Q (xo_const (.int 1) 3 lo st h) := run_s rfl
theorem rq_X10_bestLimit_3 {lo : Lo} {st : List Value} {h : Hp} {Q : Option Value → Hp → Prop} : Run 181 3 lo st h Q = CCall 111 3 none st h (Knt 181 6 lo (st.drop 3) Q) := run_c rfl
theorem rq_X10_bestLimit_6 {lo : Lo} {st : List Value} {h : Hp} {Q : Option Value → Hp → Prop} : Run 181 6 lo st h Q = Cnt 181 Q (xo_if1 (fun x => decide (¬ x = 0)) 12 9 lo st h) := run_s rfl
theorem rq_X10_bestLimit_9 {lo : Lo} {st : List Value} {h : Hp} {Q : Option Value → Hp → Prop} : Run 181 9 lo st h Q = Cnt 181 Q (xo_const (.int (-2)) 11 lo st h) := run_s rfl
theorem rq_X10_bestLimit_11 {lo : Lo} {st : List Value} {h : Hp} {Q : Option Value → Hp → Prop} : Run 181 11 lo st h Q = Cnt 181 Q (xo_iret lo st h) := run_s rfl
theorem rq_X10_bestLimit_12 {lo : Lo} {st : List Value} {h : Hp} {Q : Option Value → Hp → Prop} : Run 181 12 lo st h Q = Cnt 181 Q (xo_const (.int 1) 13 lo st h) := run_s rfl
theorem rq_X10_bestLimit_13 {lo : Lo} {st : List Value} {h : Hp} {Q : Option Value → Hp → Prop} : Run 181 13 lo st h Q = Cnt 181 Q (xo_istore 2 14 lo st h) := run_s rfl
theorem rq_X10_bestLimit_14 {lo : Lo} {st : List Value} {h : Hp} {Q : Option Value → Hp → Prop} : Run 181 14 lo st h Q = Cnt 181 Q (xo_const (.int 2) 15 lo st h) := run_s rfl
theorem rq_X10_bestLimit_15 {lo : Lo} {st : List Value} {h : Hp} {Q : Option Value → Hp → Prop} : Run 181 15 lo st h Q = Cnt 181 Q (xo_istore 3 16 lo st h) := run_s rfl
theorem rq_X10_bestLimit_16 {lo : Lo} {st : List Value} {h : Hp} {Q : Option Value → Hp → Prop} : Run 181 16 lo st h Q = Cnt 181 Q (xo_iload 3 17 lo st h) := run_s rfl
theorem rq_X10_bestLimit_17 {lo : Lo} {st : List Value} {h : Hp} {Q : Option Value → Hp → Prop} : Run 181 17 lo st h Q = Cnt 181 Q (xo_const (.int 20) 19 lo st h) := run_s rfl
theorem rq_X10_bestLimit_19 {lo : Lo} {st : List Value} {h : Hp} {Q : Option Value → Hp → Prop} : Run 181 19 lo st h Q = Cnt 181 Q (xo_if2 (fun x y => decide (x > y)) 47 22 lo st h) := run_s rfl
theorem rq_X10_bestLimit_22 {lo : Lo} {st : List Value} {h : Hp} {Q : Option Value → Hp → Prop} : Run 181 22 lo st h Q = Cnt 181 Q (xo_aload 0 23 lo st h) := run_s rfl
theorem rq_X10_bestLimit_23 {lo : Lo} {st : List Value} {h : Hp} {Q : Option Value → Hp → Prop} : Run 181 23 lo st h Q = Cnt 181 Q (xo_iload 3 24 lo st h) := run_s rfl
theorem rq_X10_bestLimit_24 {lo : Lo} {st : List Value} {h : Hp} {Q : Option Value → Hp → Prop} : Run 181 24 lo st h Q = CCall 142 2 (some 10) st h (Knt 181 27 lo (st.drop 2) Q) := run_c rfl
theorem rq_X10_bestLimit_27 {lo : Lo} {st : List Value} {h : Hp} {Q : Option Value → Hp → Prop} : Run 181 27 lo st h Q = Cnt 181 Q (xo_aload 0 28 lo st h) := run_s rfl
theorem rq_X10_bestLimit_28 {lo : Lo} {st : List Value} {h : Hp} {Q : Option Value → Hp → Prop} : Run 181 28 lo st h Q = Cnt 181 Q (xo_iload 2 29 lo st h) := run_s rfl
theorem rq_X10_bestLimit_29 {lo : Lo} {st : List Value} {h : Hp} {Q : Option Value → Hp → Prop} : Run 181 29 lo st h Q = CCall 142 2 (some 10) st h (Knt 181 32 lo (st.drop 2) Q) := run_c rfl
theorem rq_X10_bestLimit_32 {lo : Lo} {st : List Value} {h : Hp} {Q : Option Value → Hp → Prop} : Run 181 32 lo st h Q = Cnt 181 Q (xo_if2 (fun x y => decide (x ≥ y)) 39 35 lo st h) := run_s rfl
theorem rq_X10_bestLimit_35 {lo : Lo} {st : List Value} {h : Hp} {Q : Option Value → Hp → Prop} : Run 181 35 lo st h Q = Cnt 181 Q (xo_iload 3 36 lo st h) := run_s rfl
theorem rq_X10_bestLimit_36 {lo : Lo} {st : List Value} {h : Hp} {Q : Option Value → Hp → Prop} : Run 181 36 lo st h Q = Cnt 181 Q (xo_goto 40 lo st h) := run_s rfl
theorem rq_X10_bestLimit_39 {lo : Lo} {st : List Value} {h : Hp} {Q : Option Value → Hp → Prop} : Run 181 39 lo st h Q = Cnt 181 Q (xo_iload 2 40 lo st h) := run_s rfl
theorem rq_X10_bestLimit_40 {lo : Lo} {st : List Value} {h : Hp} {Q : Option Value → Hp → Prop} : Run 181 40 lo st h Q = Cnt 181 Q (xo_istore 2 41 lo st h) := run_s rfl
theorem rq_X10_bestLimit_41 {lo : Lo} {st : List Value} {h : Hp} {Q : Option Value → Hp → Prop} : Run 181 41 lo st h Q = Cnt 181 Q (xo_iinc 3 1 44 lo st h) := run_s rfl
theorem rq_X10_bestLimit_44 {lo : Lo} {st : List Value} {h : Hp} {Q : Option Value → Hp → Prop} : Run 181 44 lo st h Q = Cnt 181 Q (xo_goto 16 lo st h) := run_s rfl
theorem rq_X10_bestLimit_47 {lo : Lo} {st : List Value} {h : Hp} {Q : Option Value → Hp → Prop} : Run 181 47 lo st h Q = Cnt 181 Q (xo_iload 1 48 lo st h) := run_s rfl
theorem rq_X10_bestLimit_48 {lo : Lo} {st : List Value} {h : Hp} {Q : Option Value → Hp → Prop} : Run 181 48 lo st h Q = Cnt 181 Q (xo_if1 (fun x => decide (¬ x = 0)) 55 51 lo st h) := run_s rfl
theorem rq_X10_bestLimit_51 {lo : Lo} {st : List Value} {h : Hp} {Q : Option Value → Hp → Prop} : Run 181 51 lo st h Q = Cnt 181 Q (xo_iload 2 52 lo st h) := run_s rfl
theorem rq_X10_bestLimit_52 {lo : Lo} {st : List Value} {h : Hp} {Q : Option Value → Hp → Prop} : Run 181 52 lo st h Q = Cnt 181 Q (xo_goto 60 lo st h) := run_s rfl
theorem rq_X10_bestLimit_55 {lo : Lo} {st : List Value} {h : Hp} {Q : Option Value → Hp → Prop} : Run 181 55 lo st h Q = Cnt 181 Q (xo_aload 0 56 lo st h) := run_s rfl
theorem rq_X10_bestLimit_56 {lo : Lo} {st : List Value} {h : Hp} {Q : Option Value → Hp → Prop} : Run 181 56 lo st h Q = Cnt 181 Q (xo_iload 2 57 lo st h) := run_s rfl
theorem rq_X10_bestLimit_57 {lo : Lo} {st : List Value} {h : Hp} {Q : Option Value → Hp → Prop} : Run 181 57 lo st h Q = CCall 142 2 (some 10) st h (Knt 181 60 lo (st.drop 2) Q) := run_c rfl
theorem rq_X10_bestLimit_60 {lo : Lo} {st : List Value} {h : Hp} {Q : Option Value → Hp → Prop} : Run 181 60 lo st h Q = Cnt 181 Q (xo_iret lo st h) := run_s rfl
theorem rq_X10_frame_0 {lo : Lo} {st : List Value} {h : Hp} {Q : Option Value → Hp → Prop} : Run 182 0 lo st h Q = Cnt 182 Q (xo_iload 1 1 lo st h) := run_s rfl
theorem rq_X10_frame_1 {lo : Lo} {st : List Value} {h : Hp} {Q : Option Value → Hp → Prop} : Run 182 1 lo st h Q = Cnt 182 Q (xo_const (.int 64) 3 lo st h) := run_s rfl
theorem rq_X10_frame_3 {lo : Lo} {st : List Value} {h : Hp} {Q : Option Value → Hp → Prop} : Run 182 3 lo st h Q = Cnt 182 Q (xo_if2 (fun x y => decide (x ≤ y)) 9 6 lo st h) := run_s rfl
theorem rq_X10_frame_6 {lo : Lo} {st : List Value} {h : Hp} {Q : Option Value → Hp → Prop} : Run 182 6 lo st h Q = Cnt 182 Q (xo_const (.int (-2)) 8 lo st h) := run_s rfl
theorem rq_X10_frame_8 {lo : Lo} {st : List Value} {h : Hp} {Q : Option Value → Hp → Prop} : Run 182 8 lo st h Q = Cnt 182 Q (xo_iret lo st h) := run_s rfl
theorem rq_X10_frame_9 {lo : Lo} {st : List Value} {h : Hp} {Q : Option Value → Hp → Prop} : Run 182 9 lo st h Q = Cnt 182 Q (xo_iload 1 10 lo st h) := run_s rfl
theorem rq_X10_frame_10 {lo : Lo} {st : List Value} {h : Hp} {Q : Option Value → Hp → Prop} : Run 182 10 lo st h Q = Cnt 182 Q (xo_if1 (fun x => decide (x ≥ 0)) 16 13 lo st h) := run_s rfl
theorem rq_X10_frame_13 {lo : Lo} {st : List Value} {h : Hp} {Q : Option Value → Hp → Prop} : Run 182 13 lo st h Q = Cnt 182 Q (xo_const (.int (-14)) 15 lo st h) := run_s rfl
theorem rq_X10_frame_15 {lo : Lo} {st : List Value} {h : Hp} {Q : Option Value → Hp → Prop} : Run 182 15 lo st h Q = Cnt 182 Q (xo_iret lo st h) := run_s rfl
theorem rq_X10_frame_16 {lo : Lo} {st : List Value} {h : Hp} {Q : Option Value → Hp → Prop} : Run 182 16 lo st h Q = Cnt 182 Q (xo_aload 0 17 lo st h) := run_s rfl
theorem rq_X10_frame_17 {lo : Lo} {st : List Value} {h : Hp} {Q : Option Value → Hp → Prop} : Run 182 17 lo st h Q = Cnt 182 Q (xo_iload 1 18 lo st h) := run_s rfl
theorem rq_X10_frame_18 {lo : Lo} {st : List Value} {h : Hp} {Q : Option Value → Hp → Prop} : Run 182 18 lo st h Q = Cnt 182 Q (xo_putf 10 22 true 21 lo st h) := run_s rfl
theorem rq_X10_frame_21 {lo : Lo} {st : List Value} {h : Hp} {Q : Option Value → Hp → Prop} : Run 182 21 lo st h Q = Cnt 182 Q (xo_const (.int 0) 22 lo st h) := run_s rfl
theorem rq_X10_frame_22 {lo : Lo} {st : List Value} {h : Hp} {Q : Option Value → Hp → Prop} : Run 182 22 lo st h Q = Cnt 182 Q (xo_istore 2 23 lo st h) := run_s rfl
theorem rq_X10_frame_23 {lo : Lo} {st : List Value} {h : Hp} {Q : Option Value → Hp → Prop} : Run 182 23 lo st h Q = Cnt 182 Q (xo_iload 2 24 lo st h) := run_s rfl
theorem rq_X10_frame_24 {lo : Lo} {st : List Value} {h : Hp} {Q : Option Value → Hp → Prop} : Run 182 24 lo st h Q = Cnt 182 Q (xo_iload 1 25 lo st h) := run_s rfl
theorem rq_X10_frame_25 {lo : Lo} {st : List Value} {h : Hp} {Q : Option Value → Hp → Prop} : Run 182 25 lo st h Q = Cnt 182 Q (xo_if2 (fun x y => decide (x ≥ y)) 41 28 lo st h) := run_s rfl
theorem rq_X10_frame_28 {lo : Lo} {st : List Value} {h : Hp} {Q : Option Value → Hp → Prop} : Run 182 28 lo st h Q = Cnt 182 Q (xo_aload 0 29 lo st h) := run_s rfl
theorem rq_X10_frame_29 {lo : Lo} {st : List Value} {h : Hp} {Q : Option Value → Hp → Prop} : Run 182 29 lo st h Q = Cnt 182 Q (xo_getf 10 23 32 lo st h) := run_s rfl
theorem rq_X10_frame_32 {lo : Lo} {st : List Value} {h : Hp} {Q : Option Value → Hp → Prop} : Run 182 32 lo st h Q = Cnt 182 Q (xo_iload 2 33 lo st h) := run_s rfl
theorem rq_X10_frame_33 {lo : Lo} {st : List Value} {h : Hp} {Q : Option Value → Hp → Prop} : Run 182 33 lo st h Q = Cnt 182 Q (xo_const (.int 0) 34 lo st h) := run_s rfl
theorem rq_X10_frame_34 {lo : Lo} {st : List Value} {h : Hp} {Q : Option Value → Hp → Prop} : Run 182 34 lo st h Q = Cnt 182 Q (xo_iast 35 lo st h) := run_s rfl
theorem rq_X10_frame_35 {lo : Lo} {st : List Value} {h : Hp} {Q : Option Value → Hp → Prop} : Run 182 35 lo st h Q = Cnt 182 Q (xo_iinc 2 1 38 lo st h) := run_s rfl
theorem rq_X10_frame_38 {lo : Lo} {st : List Value} {h : Hp} {Q : Option Value → Hp → Prop} : Run 182 38 lo st h Q = Cnt 182 Q (xo_goto 23 lo st h) := run_s rfl
theorem rq_X10_frame_41 {lo : Lo} {st : List Value} {h : Hp} {Q : Option Value → Hp → Prop} : Run 182 41 lo st h Q = Cnt 182 Q (xo_iload 1 42 lo st h) := run_s rfl
theorem rq_X10_frame_42 {lo : Lo} {st : List Value} {h : Hp} {Q : Option Value → Hp → Prop} : Run 182 42 lo st h Q = Cnt 182 Q (xo_iret lo st h) := run_s rfl
theorem rq_X10_fault_0 {lo : Lo} {st : List Value} {h : Hp} {Q : Option Value → Hp → Prop} : Run 183 0 lo st h Q = Cnt 183 Q (xo_aload 0 1 lo st h) := run_s rfl
theorem rq_X10_fault_1 {lo : Lo} {st : List Value} {h : Hp} {Q : Option Value → Hp → Prop} : Run 183 1 lo st h Q = Cnt 183 Q (xo_getf 10 22 4 lo st h) := run_s rfl
theorem rq_X10_fault_4 {lo : Lo} {st : List Value} {h : Hp} {Q : Option Value → Hp → Prop} : Run 183 4 lo st h Q = Cnt 183 Q (xo_const (.int (-9)) 6 lo st h) := run_s rfl
theorem rq_X10_fault_6 {lo : Lo} {st : List Value} {h : Hp} {Q : Option Value → Hp → Prop} : Run 183 6 lo st h Q = Cnt 183 Q (xo_if2 (fun x y => decide (¬ x = y)) 14 9 lo st h) := run_s rfl
theorem rq_X10_fault_9 {lo : Lo} {st : List Value} {h : Hp} {Q : Option Value → Hp → Prop} : Run 183 9 lo st h Q = Cnt 183 Q (xo_const (.int (-11)) 11 lo st h) := run_s rfl
theorem rq_X10_fault_11 {lo : Lo} {st : List Value} {h : Hp} {Q : Option Value → Hp → Prop} : Run 183 11 lo st h Q = Cnt 183 Q (xo_goto 34 lo st h) := run_s rfl
theorem rq_X10_fault_14 {lo : Lo} {st : List Value} {h : Hp} {Q : Option Value → Hp → Prop} : Run 183 14 lo st h Q = Cnt 183 Q (xo_iload 1 15 lo st h) := run_s rfl
theorem rq_X10_fault_15 {lo : Lo} {st : List Value} {h : Hp} {Q : Option Value → Hp → Prop} : Run 183 15 lo st h Q = Cnt 183 Q (xo_const (.int 0) 16 lo st h) := run_s rfl
theorem rq_X10_fault_16 {lo : Lo} {st : List Value} {h : Hp} {Q : Option Value → Hp → Prop} : Run 183 16 lo st h Q = Cnt 183 Q (xo_aload 0 17 lo st h) := run_s rfl
theorem rq_X10_fault_17 {lo : Lo} {st : List Value} {h : Hp} {Q : Option Value → Hp → Prop} : Run 183 17 lo st h Q = Cnt 183 Q (xo_getf 10 22 20 lo st h) := run_s rfl
theorem rq_X10_fault_20 {lo : Lo} {st : List Value} {h : Hp} {Q : Option Value → Hp → Prop} : Run 183 20 lo st h Q = Cnt 183 Q (xo_const (.int 1) 21 lo st h) := run_s rfl
theorem rq_X10_fault_21 {lo : Lo} {st : List Value} {h : Hp} {Q : Option Value → Hp → Prop} : Run 183 21 lo st h Q = Cnt 183 Q (xo_bin (fun x y => x - y) 22 lo st h) := run_s rfl
theorem rq_X10_fault_22 {lo : Lo} {st : List Value} {h : Hp} {Q : Option Value → Hp → Prop} : Run 183 22 lo st h Q = CCall 111 3 none st h (Knt 183 25 lo (st.drop 3) Q) := run_c rfl
theorem rq_X10_fault_25 {lo : Lo} {st : List Value} {h : Hp} {Q : Option Value → Hp → Prop} : Run 183 25 lo st h Q = Cnt 183 Q (xo_if1 (fun x => decide (x = 0)) 32 28 lo st h) := run_s rfl
theorem rq_X10_fault_28 {lo : Lo} {st : List Value} {h : Hp} {Q : Option Value → Hp → Prop} : Run 183 28 lo st h Q = Cnt 183 Q (xo_const (.int 0) 29 lo st h) := run_s rfl
theorem rq_X10_fault_29 {lo : Lo} {st : List Value} {h : Hp} {Q : Option Value → Hp → Prop} : Run 183 29 lo st h Q = Cnt 183 Q (xo_goto 34 lo st h) := run_s rfl
theorem rq_X10_fault_32 {lo : Lo} {st : List Value} {h : Hp} {Q : Option Value → Hp → Prop} : Run 183 32 lo st h Q = Cnt 183 Q (xo_const (.int (-13)) 34 lo st h) := run_s rfl
theorem rq_X10_fault_34 {lo : Lo} {st : List Value} {h : Hp} {Q : Option Value → Hp → Prop} : Run 183 34 lo st h Q = Cnt 183 Q (xo_iret lo st h) := run_s rfl
theorem rq_X10_shoot_0 {lo : Lo} {st : List Value} {h : Hp} {Q : Option Value → Hp → Prop} : Run 184 0 lo st h Q = Cnt 184 Q (xo_iload 2 1 lo st h) := run_s rfl
theorem rq_X10_shoot_1 {lo : Lo} {st : List Value} {h : Hp} {Q : Option Value → Hp → Prop} : Run 184 1 lo st h Q = Cnt 184 Q (xo_const (.int 0) 2 lo st h) := run_s rfl
theorem rq_X10_shoot_2 {lo : Lo} {st : List Value} {h : Hp} {Q : Option Value → Hp → Prop} : Run 184 2 lo st h Q = Cnt 184 Q (xo_const (.int 31) 4 lo st h) := run_s rfl
theorem rq_X10_shoot_4 {lo : Lo} {st : List Value} {h : Hp} {Q : Option Value → Hp → Prop} : Run 184 4 lo st h Q = CCall 111 3 none st h (Knt 184 7 lo (st.drop 3) Q) := run_c rfl
theorem rq_X10_shoot_7 {lo : Lo} {st : List Value} {h : Hp} {Q : Option Value → Hp → Prop} : Run 184 7 lo st h Q = Cnt 184 Q (xo_if1 (fun x => decide (¬ x = 0)) 13 10 lo st h) := run_s rfl
theorem rq_X10_shoot_10 {lo : Lo} {st : List Value} {h : Hp} {Q : Option Value → Hp → Prop} : Run 184 10 lo st h Q = Cnt 184 Q (xo_const (.int (-2)) 12 lo st h) := run_s rfl
theorem rq_X10_shoot_12 {lo : Lo} {st : List Value} {h : Hp} {Q : Option Value → Hp → Prop} : Run 184 12 lo st h Q = Cnt 184 Q (xo_iret lo st h) := run_s rfl
theorem rq_X10_shoot_13 {lo : Lo} {st : List Value} {h : Hp} {Q : Option Value → Hp → Prop} : Run 184 13 lo st h Q = Cnt 184 Q (xo_aload 0 14 lo st h) := run_s rfl
theorem rq_X10_shoot_14 {lo : Lo} {st : List Value} {h : Hp} {Q : Option Value → Hp → Prop} : Run 184 14 lo st h Q = Cnt 184 Q (xo_iload 1 15 lo st h) := run_s rfl
theorem rq_X10_shoot_15 {lo : Lo} {st : List Value} {h : Hp} {Q : Option Value → Hp → Prop} : Run 184 15 lo st h Q = CCall 183 2 (some 10) st h (Knt 184 18 lo (st.drop 2) Q) := run_c rfl
theorem rq_X10_shoot_18 {lo : Lo} {st : List Value} {h : Hp} {Q : Option Value → Hp → Prop} : Run 184 18 lo st h Q = Cnt 184 Q (xo_if1 (fun x => decide (x = 0)) 27 21 lo st h) := run_s rfl
theorem rq_X10_shoot_21 {lo : Lo} {st : List Value} {h : Hp} {Q : Option Value → Hp → Prop} : Run 184 21 lo st h Q = Cnt 184 Q (xo_aload 0 22 lo st h) := run_s rfl
theorem rq_X10_shoot_22 {lo : Lo} {st : List Value} {h : Hp} {Q : Option Value → Hp → Prop} : Run 184 22 lo st h Q = Cnt 184 Q (xo_iload 1 23 lo st h) := run_s rfl
theorem rq_X10_shoot_23 {lo : Lo} {st : List Value} {h : Hp} {Q : Option Value → Hp → Prop} : Run 184 23 lo st h Q = CCall 183 2 (some 10) st h (Knt 184 26 lo (st.drop 2) Q) := run_c rfl
theorem rq_X10_shoot_26 {lo : Lo} {st : List Value} {h : Hp} {Q : Option Value → Hp → Prop} : Run 184 26 lo st h Q = Cnt 184 Q (xo_iret lo st h) := run_s rfl
theorem rq_X10_shoot_27 {lo : Lo} {st : List Value} {h : Hp} {Q : Option Value → Hp → Prop} : Run 184 27 lo st h Q = Cnt 184 Q (xo_aload 0 28 lo st h) := run_s rfl
theorem rq_X10_shoot_28 {lo : Lo} {st : List Value} {h : Hp} {Q : Option Value → Hp → Prop} : Run 184 28 lo st h Q = Cnt 184 Q (xo_const (.int 26) 30 lo st h) := run_s rfl
theorem rq_X10_shoot_30 {lo : Lo} {st : List Value} {h : Hp} {Q : Option Value → Hp → Prop} : Run 184 30 lo st h Q = CCall 127 2 (some 10) st h (Knt 184 33 lo (st.drop 2) Q) := run_c rfl
theorem rq_X10_shoot_33 {lo : Lo} {st : List Value} {h : Hp} {Q : Option Value → Hp → Prop} : Run 184 33 lo st h Q = Cnt 184 Q (xo_aload 0 34 lo st h) := run_s rfl
theorem rq_X10_shoot_34 {lo : Lo} {st : List Value} {h : Hp} {Q : Option Value → Hp → Prop} : Run 184 34 lo st h Q = Cnt 184 Q (xo_getf 10 23 37 lo st h) := run_s rfl
theorem rq_X10_shoot_37 {lo : Lo} {st : List Value} {h : Hp} {Q : Option Value → Hp → Prop} : Run 184 37 lo st h Q = Cnt 184 Q (xo_iload 1 38 lo st h) := run_s rfl
theorem rq_X10_shoot_38 {lo : Lo} {st : List Value} {h : Hp} {Q : Option Value → Hp → Prop} : Run 184 38 lo st h Q = Cnt 184 Q (xo_aload 0 39 lo st h) := run_s rfl
theorem rq_X10_shoot_39 {lo : Lo} {st : List Value} {h : Hp} {Q : Option Value → Hp → Prop} : Run 184 39 lo st h Q = Cnt 184 Q (xo_getf 10 11 42 lo st h) := run_s rfl
theorem rq_X10_shoot_42 {lo : Lo} {st : List Value} {h : Hp} {Q : Option Value → Hp → Prop} : Run 184 42 lo st h Q = Cnt 184 Q (xo_iload 2 43 lo st h) := run_s rfl
theorem rq_X10_shoot_43 {lo : Lo} {st : List Value} {h : Hp} {Q : Option Value → Hp → Prop} : Run 184 43 lo st h Q = Cnt 184 Q (xo_iald 44 lo st h) := run_s rfl
theorem rq_X10_shoot_44 {lo : Lo} {st : List Value} {h : Hp} {Q : Option Value → Hp → Prop} : Run 184 44 lo st h Q = Cnt 184 Q (xo_iast 45 lo st h) := run_s rfl
theorem rq_X10_shoot_45 {lo : Lo} {st : List Value} {h : Hp} {Q : Option Value → Hp → Prop} : Run 184 45 lo st h Q = Cnt 184 Q (xo_aload 0 46 lo st h) := run_s rfl
theorem rq_X10_shoot_46 {lo : Lo} {st : List Value} {h : Hp} {Q : Option Value → Hp → Prop} : Run 184 46 lo st h Q = Cnt 184 Q (xo_getf 10 23 49 lo st h) := run_s rfl
theorem rq_X10_shoot_49 {lo : Lo} {st : List Value} {h : Hp} {Q : Option Value → Hp → Prop} : Run 184 49 lo st h Q = Cnt 184 Q (xo_iload 1 50 lo st h) := run_s rfl
theorem rq_X10_shoot_50 {lo : Lo} {st : List Value} {h : Hp} {Q : Option Value → Hp → Prop} : Run 184 50 lo st h Q = Cnt 184 Q (xo_iald 51 lo st h) := run_s rfl
theorem rq_X10_shoot_51 {lo : Lo} {st : List Value} {h : Hp} {Q : Option Value → Hp → Prop} : Run 184 51 lo st h Q = CCall 129 1 none st h (Knt 184 54 lo (st.drop 1) Q) := run_c rfl
theorem rq_X10_shoot_54 {lo : Lo} {st : List Value} {h : Hp} {Q : Option Value → Hp → Prop} : Run 184 54 lo st h Q = Cnt 184 Q (xo_iret lo st h) := run_s rfl
theorem rq_X10_roll_0 {lo : Lo} {st : List Value} {h : Hp} {Q : Option Value → Hp → Prop} : Run 185 0 lo st h Q = Cnt 185 Q (xo_iload 2 1 lo st h) := run_s rfl
theorem rq_X10_roll_1 {lo : Lo} {st : List Value} {h : Hp} {Q : Option Value → Hp → Prop} : Run 185 1 lo st h Q = Cnt 185 Q (xo_const (.int 0) 2 lo st h) := run_s rfl
theorem rq_X10_roll_2 {lo : Lo} {st : List Value} {h : Hp} {Q : Option Value → Hp → Prop} : Run 185 2 lo st h Q = Cnt 185 Q (xo_const (.int 31) 4 lo st h) := run_s rfl
theorem rq_X10_roll_4 {lo : Lo} {st : List Value} {h : Hp} {Q : Option Value → Hp → Prop} : Run 185 4 lo st h Q = CCall 111 3 none st h (Knt 185 7 lo (st.drop 3) Q) := run_c rfl
theorem rq_X10_roll_7 {lo : Lo} {st : List Value} {h : Hp} {Q : Option Value → Hp → Prop} : Run 185 7 lo st h Q = Cnt 185 Q (xo_if1 (fun x => decide (¬ x = 0)) 13 10 lo st h) := run_s rfl
theorem rq_X10_roll_10 {lo : Lo} {st : List Value} {h : Hp} {Q : Option Value → Hp → Prop} : Run 185 10 lo st h Q = Cnt 185 Q (xo_const (.int (-2)) 12 lo st h) := run_s rfl
theorem rq_X10_roll_12 {lo : Lo} {st : List Value} {h : Hp} {Q : Option Value → Hp → Prop} : Run 185 12 lo st h Q = Cnt 185 Q (xo_iret lo st h) := run_s rfl
theorem rq_X10_roll_13 {lo : Lo} {st : List Value} {h : Hp} {Q : Option Value → Hp → Prop} : Run 185 13 lo st h Q = Cnt 185 Q (xo_aload 0 14 lo st h) := run_s rfl
theorem rq_X10_roll_14 {lo : Lo} {st : List Value} {h : Hp} {Q : Option Value → Hp → Prop} : Run 185 14 lo st h Q = Cnt 185 Q (xo_iload 1 15 lo st h) := run_s rfl
theorem rq_X10_roll_15 {lo : Lo} {st : List Value} {h : Hp} {Q : Option Value → Hp → Prop} : Run 185 15 lo st h Q = CCall 183 2 (some 10) st h (Knt 185 18 lo (st.drop 2) Q) := run_c rfl
theorem rq_X10_roll_18 {lo : Lo} {st : List Value} {h : Hp} {Q : Option Value → Hp → Prop} : Run 185 18 lo st h Q = Cnt 185 Q (xo_if1 (fun x => decide (x = 0)) 27 21 lo st h) := run_s rfl
theorem rq_X10_roll_21 {lo : Lo} {st : List Value} {h : Hp} {Q : Option Value → Hp → Prop} : Run 185 21 lo st h Q = Cnt 185 Q (xo_aload 0 22 lo st h) := run_s rfl
theorem rq_X10_roll_22 {lo : Lo} {st : List Value} {h : Hp} {Q : Option Value → Hp → Prop} : Run 185 22 lo st h Q = Cnt 185 Q (xo_iload 1 23 lo st h) := run_s rfl
theorem rq_X10_roll_23 {lo : Lo} {st : List Value} {h : Hp} {Q : Option Value → Hp → Prop} : Run 185 23 lo st h Q = CCall 183 2 (some 10) st h (Knt 185 26 lo (st.drop 2) Q) := run_c rfl
theorem rq_X10_roll_26 {lo : Lo} {st : List Value} {h : Hp} {Q : Option Value → Hp → Prop} : Run 185 26 lo st h Q = Cnt 185 Q (xo_iret lo st h) := run_s rfl
theorem rq_X10_roll_27 {lo : Lo} {st : List Value} {h : Hp} {Q : Option Value → Hp → Prop} : Run 185 27 lo st h Q = Cnt 185 Q (xo_aload 0 28 lo st h) := run_s rfl
theorem rq_X10_roll_28 {lo : Lo} {st : List Value} {h : Hp} {Q : Option Value → Hp → Prop} : Run 185 28 lo st h Q = Cnt 185 Q (xo_getf 10 23 31 lo st h) := run_s rfl
theorem rq_X10_roll_31 {lo : Lo} {st : List Value} {h : Hp} {Q : Option Value → Hp → Prop} : Run 185 31 lo st h Q = Cnt 185 Q (xo_iload 1 32 lo st h) := run_s rfl
theorem rq_X10_roll_32 {lo : Lo} {st : List Value} {h : Hp} {Q : Option Value → Hp → Prop} : Run 185 32 lo st h Q = Cnt 185 Q (xo_aload 0 33 lo st h) := run_s rfl
theorem rq_X10_roll_33 {lo : Lo} {st : List Value} {h : Hp} {Q : Option Value → Hp → Prop} : Run 185 33 lo st h Q = Cnt 185 Q (xo_getf 10 23 36 lo st h) := run_s rfl
theorem rq_X10_roll_36 {lo : Lo} {st : List Value} {h : Hp} {Q : Option Value → Hp → Prop} : Run 185 36 lo st h Q = Cnt 185 Q (xo_iload 1 37 lo st h) := run_s rfl
theorem rq_X10_roll_37 {lo : Lo} {st : List Value} {h : Hp} {Q : Option Value → Hp → Prop} : Run 185 37 lo st h Q = Cnt 185 Q (xo_iald 38 lo st h) := run_s rfl
theorem rq_X10_roll_38 {lo : Lo} {st : List Value} {h : Hp} {Q : Option Value → Hp → Prop} : Run 185 38 lo st h Q = Cnt 185 Q (xo_iload 2 39 lo st h) := run_s rfl
theorem rq_X10_roll_39 {lo : Lo} {st : List Value} {h : Hp} {Q : Option Value → Hp → Prop} : Run 185 39 lo st h Q = Cnt 185 Q (xo_bin (fun x y => (x.toUInt32 >>> (y.toUInt32 &&& Int32.toUInt32 31)).toInt32) 40 lo st h) := run_s rfl
theorem rq_X10_roll_40 {lo : Lo} {st : List Value} {h : Hp} {Q : Option Value → Hp → Prop} : Run 185 40 lo st h Q = Cnt 185 Q (xo_iast 41 lo st h) := run_s rfl
theorem rq_X10_roll_41 {lo : Lo} {st : List Value} {h : Hp} {Q : Option Value → Hp → Prop} : Run 185 41 lo st h Q = Cnt 185 Q (xo_aload 0 42 lo st h) := run_s rfl
theorem rq_X10_roll_42 {lo : Lo} {st : List Value} {h : Hp} {Q : Option Value → Hp → Prop} : Run 185 42 lo st h Q = Cnt 185 Q (xo_getf 10 23 45 lo st h) := run_s rfl
theorem rq_X10_roll_45 {lo : Lo} {st : List Value} {h : Hp} {Q : Option Value → Hp → Prop} : Run 185 45 lo st h Q = Cnt 185 Q (xo_iload 1 46 lo st h) := run_s rfl
theorem rq_X10_roll_46 {lo : Lo} {st : List Value} {h : Hp} {Q : Option Value → Hp → Prop} : Run 185 46 lo st h Q = Cnt 185 Q (xo_iald 47 lo st h) := run_s rfl
theorem rq_X10_roll_47 {lo : Lo} {st : List Value} {h : Hp} {Q : Option Value → Hp → Prop} : Run 185 47 lo st h Q = CCall 129 1 none st h (Knt 185 50 lo (st.drop 1) Q) := run_c rfl
theorem rq_X10_roll_50 {lo : Lo} {st : List Value} {h : Hp} {Q : Option Value → Hp → Prop} : Run 185 50 lo st h Q = Cnt 185 Q (xo_iret lo st h) := run_s rfl
theorem rq_X10_seen_0 {lo : Lo} {st : List Value} {h : Hp} {Q : Option Value → Hp → Prop} : Run 186 0 lo st h Q = Cnt 186 Q (xo_aload 0 1 lo st h) := run_s rfl
theorem rq_X10_seen_1 {lo : Lo} {st : List Value} {h : Hp} {Q : Option Value → Hp → Prop} : Run 186 1 lo st h Q = Cnt 186 Q (xo_iload 1 2 lo st h) := run_s rfl
theorem rq_X10_seen_2 {lo : Lo} {st : List Value} {h : Hp} {Q : Option Value → Hp → Prop} : Run 186 2 lo st h Q = CCall 183 2 (some 10) st h (Knt 186 5 lo (st.drop 2) Q) := run_c rfl
theorem rq_X10_seen_5 {lo : Lo} {st : List Value} {h : Hp} {Q : Option Value → Hp → Prop} : Run 186 5 lo st h Q = Cnt 186 Q (xo_if1 (fun x => decide (x = 0)) 17 8 lo st h) := run_s rfl
theorem rq_X10_seen_8 {lo : Lo} {st : List Value} {h : Hp} {Q : Option Value → Hp → Prop} : Run 186 8 lo st h Q = Cnt 186 Q (xo_aload 0 9 lo st h) := run_s rfl
theorem rq_X10_seen_9 {lo : Lo} {st : List Value} {h : Hp} {Q : Option Value → Hp → Prop} : Run 186 9 lo st h Q = Cnt 186 Q (xo_iload 1 10 lo st h) := run_s rfl
theorem rq_X10_seen_10 {lo : Lo} {st : List Value} {h : Hp} {Q : Option Value → Hp → Prop} : Run 186 10 lo st h Q = CCall 183 2 (some 10) st h (Knt 186 13 lo (st.drop 2) Q) := run_c rfl
theorem rq_X10_seen_13 {lo : Lo} {st : List Value} {h : Hp} {Q : Option Value → Hp → Prop} : Run 186 13 lo st h Q = Cnt 186 Q (xo_i2l 14 lo st h) := run_s rfl
theorem rq_X10_seen_14 {lo : Lo} {st : List Value} {h : Hp} {Q : Option Value → Hp → Prop} : Run 186 14 lo st h Q = Cnt 186 Q (xo_goto 28 lo st h) := run_s rfl
theorem rq_X10_seen_17 {lo : Lo} {st : List Value} {h : Hp} {Q : Option Value → Hp → Prop} : Run 186 17 lo st h Q = Cnt 186 Q (xo_aload 0 18 lo st h) := run_s rfl
theorem rq_X10_seen_18 {lo : Lo} {st : List Value} {h : Hp} {Q : Option Value → Hp → Prop} : Run 186 18 lo st h Q = Cnt 186 Q (xo_getf 10 23 21 lo st h) := run_s rfl
theorem rq_X10_seen_21 {lo : Lo} {st : List Value} {h : Hp} {Q : Option Value → Hp → Prop} : Run 186 21 lo st h Q = Cnt 186 Q (xo_iload 1 22 lo st h) := run_s rfl
theorem rq_X10_seen_22 {lo : Lo} {st : List Value} {h : Hp} {Q : Option Value → Hp → Prop} : Run 186 22 lo st h Q = Cnt 186 Q (xo_iald 23 lo st h) := run_s rfl
theorem rq_X10_seen_23 {lo : Lo} {st : List Value} {h : Hp} {Q : Option Value → Hp → Prop} : Run 186 23 lo st h Q = Cnt 186 Q (xo_i2l 24 lo st h) := run_s rfl
theorem rq_X10_seen_24 {lo : Lo} {st : List Value} {h : Hp} {Q : Option Value → Hp → Prop} : Run 186 24 lo st h Q = Cnt 186 Q (xo_const (.long 4294967295) 27 lo st h) := run_s rfl
theorem rq_X10_seen_27 {lo : Lo} {st : List Value} {h : Hp} {Q : Option Value → Hp → Prop} : Run 186 27 lo st h Q = Cnt 186 Q (xo_land 28 lo st h) := run_s rfl
theorem rq_X10_seen_28 {lo : Lo} {st : List Value} {h : Hp} {Q : Option Value → Hp → Prop} : Run 186 28 lo st h Q = Cnt 186 Q (xo_lret lo st h) := run_s rfl
theorem rq_X10_spoil_0 {lo : Lo} {st : List Value} {h : Hp} {Q : Option Value → Hp → Prop} : Run 187 0 lo st h Q = Cnt 187 Q (xo_aload 0 1 lo st h) := run_s rfl
theorem rq_X10_spoil_1 {lo : Lo} {st : List Value} {h : Hp} {Q : Option Value → Hp → Prop} : Run 187 1 lo st h Q = Cnt 187 Q (xo_getf 10 22 4 lo st h) := run_s rfl
theorem rq_X10_spoil_4 {lo : Lo} {st : List Value} {h : Hp} {Q : Option Value → Hp → Prop} : Run 187 4 lo st h Q = Cnt 187 Q (xo_istore 1 5 lo st h) := run_s rfl
theorem rq_X10_spoil_5 {lo : Lo} {st : List Value} {h : Hp} {Q : Option Value → Hp → Prop} : Run 187 5 lo st h Q = Cnt 187 Q (xo_aload 0 6 lo st h) := run_s rfl
theorem rq_X10_spoil_6 {lo : Lo} {st : List Value} {h : Hp} {Q : Option Value → Hp → Prop} : Run 187 6 lo st h Q = Cnt 187 Q (xo_const (.int (-9)) 8 lo st h) := run_s rfl
theorem rq_X10_spoil_8 {lo : Lo} {st : List Value} {h : Hp} {Q : Option Value → Hp → Prop} : Run 187 8 lo st h Q = Cnt 187 Q (xo_putf 10 22 true 11 lo st h) := run_s rfl
theorem rq_X10_spoil_11 {lo : Lo} {st : List Value} {h : Hp} {Q : Option Value → Hp → Prop} : Run 187 11 lo st h Q = Cnt 187 Q (xo_iload 1 12 lo st h) := run_s rfl
theorem rq_X10_spoil_12 {lo : Lo} {st : List Value} {h : Hp} {Q : Option Value → Hp → Prop} : Run 187 12 lo st h Q = Cnt 187 Q (xo_iret lo st h) := run_s rfl
theorem rq_X10_manySteps_0 {lo : Lo} {st : List Value} {h : Hp} {Q : Option Value → Hp → Prop} : Run 188 0 lo st h Q = Cnt 188 Q (xo_const (.int 0) 1 lo st h) := run_s rfl
theorem rq_X10_manySteps_1 {lo : Lo} {st : List Value} {h : Hp} {Q : Option Value → Hp → Prop} : Run 188 1 lo st h Q = Cnt 188 Q (xo_istore 1 2 lo st h) := run_s rfl
theorem rq_X10_manySteps_2 {lo : Lo} {st : List Value} {h : Hp} {Q : Option Value → Hp → Prop} : Run 188 2 lo st h Q = Cnt 188 Q (xo_const (.int 0) 3 lo st h) := run_s rfl
theorem rq_X10_manySteps_3 {lo : Lo} {st : List Value} {h : Hp} {Q : Option Value → Hp → Prop} : Run 188 3 lo st h Q = Cnt 188 Q (xo_istore 2 4 lo st h) := run_s rfl
theorem rq_X10_manySteps_4 {lo : Lo} {st : List Value} {h : Hp} {Q : Option Value → Hp → Prop} : Run 188 4 lo st h Q = Cnt 188 Q (xo_iload 2 5 lo st h) := run_s rfl
theorem rq_X10_manySteps_5 {lo : Lo} {st : List Value} {h : Hp} {Q : Option Value → Hp → Prop} : Run 188 5 lo st h Q = Cnt 188 Q (xo_aload 0 6 lo st h) := run_s rfl
theorem rq_X10_manySteps_6 {lo : Lo} {st : List Value} {h : Hp} {Q : Option Value → Hp → Prop} : Run 188 6 lo st h Q = Cnt 188 Q (xo_getf 10 5 9 lo st h) := run_s rfl
theorem rq_X10_manySteps_9 {lo : Lo} {st : List Value} {h : Hp} {Q : Option Value → Hp → Prop} : Run 188 9 lo st h Q = Cnt 188 Q (xo_const (.int 26) 11 lo st h) := run_s rfl
theorem rq_X10_manySteps_11 {lo : Lo} {st : List Value} {h : Hp} {Q : Option Value → Hp → Prop} : Run 188 11 lo st h Q = Cnt 188 Q (xo_iald 12 lo st h) := run_s rfl
theorem rq_X10_manySteps_12 {lo : Lo} {st : List Value} {h : Hp} {Q : Option Value → Hp → Prop} : Run 188 12 lo st h Q = Cnt 188 Q (xo_if2 (fun x y => decide (x ≥ y)) 36 15 lo st h) := run_s rfl
theorem rq_X10_manySteps_15 {lo : Lo} {st : List Value} {h : Hp} {Q : Option Value → Hp → Prop} : Run 188 15 lo st h Q = Cnt 188 Q (xo_iload 1 16 lo st h) := run_s rfl
theorem rq_X10_manySteps_16 {lo : Lo} {st : List Value} {h : Hp} {Q : Option Value → Hp → Prop} : Run 188 16 lo st h Q = Cnt 188 Q (xo_aload 0 17 lo st h) := run_s rfl
theorem rq_X10_manySteps_17 {lo : Lo} {st : List Value} {h : Hp} {Q : Option Value → Hp → Prop} : Run 188 17 lo st h Q = Cnt 188 Q (xo_getf 10 6 20 lo st h) := run_s rfl
theorem rq_X10_manySteps_20 {lo : Lo} {st : List Value} {h : Hp} {Q : Option Value → Hp → Prop} : Run 188 20 lo st h Q = Cnt 188 Q (xo_const (.int 156) 23 lo st h) := run_s rfl
theorem rq_X10_manySteps_23 {lo : Lo} {st : List Value} {h : Hp} {Q : Option Value → Hp → Prop} : Run 188 23 lo st h Q = Cnt 188 Q (xo_iload 2 24 lo st h) := run_s rfl
theorem rq_X10_manySteps_24 {lo : Lo} {st : List Value} {h : Hp} {Q : Option Value → Hp → Prop} : Run 188 24 lo st h Q = Cnt 188 Q (xo_bin (fun x y => x + y) 25 lo st h) := run_s rfl
theorem rq_X10_manySteps_25 {lo : Lo} {st : List Value} {h : Hp} {Q : Option Value → Hp → Prop} : Run 188 25 lo st h Q = Cnt 188 Q (xo_iald 26 lo st h) := run_s rfl
theorem rq_X10_manySteps_26 {lo : Lo} {st : List Value} {h : Hp} {Q : Option Value → Hp → Prop} : Run 188 26 lo st h Q = Cnt 188 Q (xo_const (.int 1) 27 lo st h) := run_s rfl
theorem rq_X10_manySteps_27 {lo : Lo} {st : List Value} {h : Hp} {Q : Option Value → Hp → Prop} : Run 188 27 lo st h Q = Cnt 188 Q (xo_bin (fun x y => x - y) 28 lo st h) := run_s rfl
theorem rq_X10_manySteps_28 {lo : Lo} {st : List Value} {h : Hp} {Q : Option Value → Hp → Prop} : Run 188 28 lo st h Q = Cnt 188 Q (xo_bin (fun x y => x + y) 29 lo st h) := run_s rfl
theorem rq_X10_manySteps_29 {lo : Lo} {st : List Value} {h : Hp} {Q : Option Value → Hp → Prop} : Run 188 29 lo st h Q = Cnt 188 Q (xo_istore 1 30 lo st h) := run_s rfl
theorem rq_X10_manySteps_30 {lo : Lo} {st : List Value} {h : Hp} {Q : Option Value → Hp → Prop} : Run 188 30 lo st h Q = Cnt 188 Q (xo_iinc 2 1 33 lo st h) := run_s rfl
theorem rq_X10_manySteps_33 {lo : Lo} {st : List Value} {h : Hp} {Q : Option Value → Hp → Prop} : Run 188 33 lo st h Q = Cnt 188 Q (xo_goto 4 lo st h) := run_s rfl
theorem rq_X10_manySteps_36 {lo : Lo} {st : List Value} {h : Hp} {Q : Option Value → Hp → Prop} : Run 188 36 lo st h Q = Cnt 188 Q (xo_iload 1 37 lo st h) := run_s rfl
theorem rq_X10_manySteps_37 {lo : Lo} {st : List Value} {h : Hp} {Q : Option Value → Hp → Prop} : Run 188 37 lo st h Q = Cnt 188 Q (xo_iret lo st h) := run_s rfl
theorem rq_X10_many_0 {lo : Lo} {st : List Value} {h : Hp} {Q : Option Value → Hp → Prop} : Run 189 0 lo st h Q = Cnt 189 Q (xo_iload 1 1 lo st h) := run_s rfl
theorem rq_X10_many_1 {lo : Lo} {st : List Value} {h : Hp} {Q : Option Value → Hp → Prop} : Run 189 1 lo st h Q = Cnt 189 Q (xo_sw (xtab 1 76 0 5 #[39, 44, 52, 57, 62, 71]) lo st h) := run_s rfl
theorem rq_X10_many_40 {lo : Lo} {st : List Value} {h : Hp} {Q : Option Value → Hp → Prop} : Run 189 40 lo st h Q = Cnt 189 Q (xo_aload 0 41 lo st h) := run_s rfl
theorem rq_X10_many_41 {lo : Lo} {st : List Value} {h : Hp} {Q : Option Value → Hp → Prop} : Run 189 41 lo st h Q = Cnt 189 Q (xo_getf 10 2 44 lo st h) := run_s rfl
theorem rq_X10_many_44 {lo : Lo} {st : List Value} {h : Hp} {Q : Option Value → Hp → Prop} : Run 189 44 lo st h Q = Cnt 189 Q (xo_iret lo st h) := run_s rfl
theorem rq_X10_many_45 {lo : Lo} {st : List Value} {h : Hp} {Q : Option Value → Hp → Prop} : Run 189 45 lo st h Q = Cnt 189 Q (xo_aload 0 46 lo st h) := run_s rfl
theorem rq_X10_many_46 {lo : Lo} {st : List Value} {h : Hp} {Q : Option Value → Hp → Prop} : Run 189 46 lo st h Q = Cnt 189 Q (xo_getf 10 5 49 lo st h) := run_s rfl
theorem rq_X10_many_49 {lo : Lo} {st : List Value} {h : Hp} {Q : Option Value → Hp → Prop} : Run 189 49 lo st h Q = Cnt 189 Q (xo_const (.int 26) 51 lo st h) := run_s rfl
theorem rq_X10_many_51 {lo : Lo} {st : List Value} {h : Hp} {Q : Option Value → Hp → Prop} : Run 189 51 lo st h Q = Cnt 189 Q (xo_iald 52 lo st h) := run_s rfl
theorem rq_X10_many_52 {lo : Lo} {st : List Value} {h : Hp} {Q : Option Value → Hp → Prop} : Run 189 52 lo st h Q = Cnt 189 Q (xo_iret lo st h) := run_s rfl
theorem rq_X10_many_53 {lo : Lo} {st : List Value} {h : Hp} {Q : Option Value → Hp → Prop} : Run 189 53 lo st h Q = Cnt 189 Q (xo_aload 0 54 lo st h) := run_s rfl
theorem rq_X10_many_54 {lo : Lo} {st : List Value} {h : Hp} {Q : Option Value → Hp → Prop} : Run 189 54 lo st h Q = CCall 188 1 (some 10) st h (Knt 189 57 lo (st.drop 1) Q) := run_c rfl
theorem rq_X10_many_57 {lo : Lo} {st : List Value} {h : Hp} {Q : Option Value → Hp → Prop} : Run 189 57 lo st h Q = Cnt 189 Q (xo_iret lo st h) := run_s rfl
theorem rq_X10_many_58 {lo : Lo} {st : List Value} {h : Hp} {Q : Option Value → Hp → Prop} : Run 189 58 lo st h Q = Cnt 189 Q (xo_aload 0 59 lo st h) := run_s rfl
theorem rq_X10_many_59 {lo : Lo} {st : List Value} {h : Hp} {Q : Option Value → Hp → Prop} : Run 189 59 lo st h Q = CCall 155 1 (some 10) st h (Knt 189 62 lo (st.drop 1) Q) := run_c rfl
theorem rq_X10_many_62 {lo : Lo} {st : List Value} {h : Hp} {Q : Option Value → Hp → Prop} : Run 189 62 lo st h Q = Cnt 189 Q (xo_iret lo st h) := run_s rfl
theorem rq_X10_many_63 {lo : Lo} {st : List Value} {h : Hp} {Q : Option Value → Hp → Prop} : Run 189 63 lo st h Q = Cnt 189 Q (xo_aload 0 64 lo st h) := run_s rfl
theorem rq_X10_many_64 {lo : Lo} {st : List Value} {h : Hp} {Q : Option Value → Hp → Prop} : Run 189 64 lo st h Q = CCall 164 1 (some 10) st h (Knt 189 67 lo (st.drop 1) Q) := run_c rfl
theorem rq_X10_many_67 {lo : Lo} {st : List Value} {h : Hp} {Q : Option Value → Hp → Prop} : Run 189 67 lo st h Q = Cnt 189 Q (xo_aload 0 68 lo st h) := run_s rfl
theorem rq_X10_many_68 {lo : Lo} {st : List Value} {h : Hp} {Q : Option Value → Hp → Prop} : Run 189 68 lo st h Q = Cnt 189 Q (xo_getf 10 16 71 lo st h) := run_s rfl
theorem rq_X10_many_71 {lo : Lo} {st : List Value} {h : Hp} {Q : Option Value → Hp → Prop} : Run 189 71 lo st h Q = Cnt 189 Q (xo_iret lo st h) := run_s rfl
theorem rq_X10_many_72 {lo : Lo} {st : List Value} {h : Hp} {Q : Option Value → Hp → Prop} : Run 189 72 lo st h Q = Cnt 189 Q (xo_aload 0 73 lo st h) := run_s rfl
theorem rq_X10_many_73 {lo : Lo} {st : List Value} {h : Hp} {Q : Option Value → Hp → Prop} : Run 189 73 lo st h Q = Cnt 189 Q (xo_getf 10 13 76 lo st h) := run_s rfl
theorem rq_X10_many_76 {lo : Lo} {st : List Value} {h : Hp} {Q : Option Value → Hp → Prop} : Run 189 76 lo st h Q = Cnt 189 Q (xo_iret lo st h) := run_s rfl
theorem rq_X10_many_77 {lo : Lo} {st : List Value} {h : Hp} {Q : Option Value → Hp → Prop} : Run 189 77 lo st h Q = Cnt 189 Q (xo_const (.int (-2)) 79 lo st h) := run_s rfl
theorem rq_X10_many_79 {lo : Lo} {st : List Value} {h : Hp} {Q : Option Value → Hp → Prop} : Run 189 79 lo st h Q = Cnt 189 Q (xo_iret lo st h) := run_s rfl
