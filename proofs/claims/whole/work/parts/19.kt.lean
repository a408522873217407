/-! the table of all codes, and the interpreter over it -/
def KL_0 : Nat → List (Nat × En) := fun k => match k with
  | 0 => kl_X0_init
  | 1 => kl_X0_find
  | 2 => kl_X0_countApart
  | 3 => kl_X1_init
  | 4 => kl_X1_countPieces
  | 5 => kl_X1_countCounters
  | 6 => kl_X1_countLeft
  | 7 => kl_X1_removePiece
  | 8 => kl_X1_removePlace
  | 9 => kl_X2_init
  | 10 => kl_X2_open
  | 11 => kl_X2_close
  | 12 => kl_X2_faultAt
  | 13 => kl_X3_init
  | 14 => kl_X3_lengthOf
  | 15 => kl_X3_clear
  | _ => []
def KL_1 : Nat → List (Nat × En) := fun k => match k with
  | 0 => kl_X3_addAll
  | 1 => kl_X3_add
  | 2 => kl_X3_has
  | 3 => kl_X3_countAhead
  | 4 => kl_X3_countNotIn
  | 5 => kl_X4_init
  | 6 => kl_X4_nameAt
  | 7 => kl_X4_nextName
  | 8 => kl_X5_init
  | 9 => kl_X5_endsAt
  | 10 => kl_X5_add
  | 11 => kl_X5_clear
  | 12 => kl_X6_init
  | 13 => kl_X6_at
  | 14 => kl_X6_add
  | 15 => kl_X6_removeLast
  | _ => []
def KL_2 : Nat → List (Nat × En) := fun k => match k with
  | 0 => kl_X6_clear
  | 1 => kl_X6_copyFrom
  | 2 => kl_X6_gatherInk
  | 3 => kl_X6_countSteps
  | 4 => kl_X6_countWrong
  | 5 => kl_X6_countWrongWithNib
  | 6 => kl_X7_init
  | 7 => kl_X7_at
  | 8 => kl_X7_put
  | 9 => kl_X7_remove
  | 10 => kl_X7_nameAt
  | 11 => kl_X8_init
  | 12 => kl_X8_inkBetween
  | 13 => kl_X8_covers
  | 14 => kl_X8_coversOnItsLine
  | 15 => kl_X8_countSteps
  | _ => []
def KL_3 : Nat → List (Nat × En) := fun k => match k with
  | 0 => kl_X8_hasStep
  | 1 => kl_X8_stepX
  | 2 => kl_X8_stepY
  | 3 => kl_X8_thickUpper
  | 4 => kl_X8_thickLower
  | 5 => kl_X8_sortOf
  | 6 => kl_X8_isWrong
  | 7 => kl_X8_countWrong
  | 8 => kl_X8_kindCode
  | 9 => kl_X8_hasEnd
  | 10 => kl_X8_hasInk
  | 11 => kl_X8_sharesEndWith
  | 12 => kl_X8_hasEndInInkOf
  | 13 => kl_X8_addInkTo
  | 14 => kl_X8_crossesInkOf
  | 15 => kl_X9_init
  | _ => []
def KL_4 : Nat → List (Nat × En) := fun k => match k with
  | 0 => kl_X9_nib
  | 1 => kl_X9_ofNib
  | 2 => kl_X9_point
  | 3 => kl_X9_drop
  | 4 => kl_X9_lift
  | 5 => kl_X9_undo
  | 6 => kl_X9_ofStroke
  | 7 => kl_X9_place
  | 8 => kl_X9_ink
  | 9 => kl_X9_area
  | 10 => kl_X9_limit
  | 11 => kl_X9_thick
  | 12 => kl_X9_sort
  | 13 => kl_X9_wrong
  | 14 => kl_X9_join
  | 15 => kl_X9_pieces
  | _ => []
def KL_5 : Nat → List (Nat × En) := fun k => match k with
  | 0 => kl_X9_keep
  | 1 => kl_X9_take
  | 2 => kl_X9_forget
  | 3 => kl_X9_name
  | 4 => kl_X9_ofLetter
  | 5 => kl_X9_kind
  | 6 => kl_X9_apart
  | 7 => kl_X9_fit
  | 8 => kl_X9_likest
  | 9 => kl_X9_lesson
  | 10 => kl_X9_bestNib
  | 11 => kl_X9_bestLimit
  | 12 => kl_X9_frame
  | 13 => kl_X9_shoot
  | 14 => kl_X9_roll
  | 15 => kl_X9_seen
  | _ => []
def KL_6 : Nat → List (Nat × En) := fun k => match k with
  | 0 => kl_X9_spoil
  | 1 => kl_X9_many
  | 2 => kl_X9_within
  | 3 => kl_X9_withoutSign
  | 4 => kl_X9_rowsOf
  | 5 => kl_X9_gatherSheet
  | 6 => kl_X9_gatherLetter
  | 7 => kl_X9_countKindsOf
  | 8 => kl_X9_gatherAllKinds
  | 9 => kl_X9_countBits
  | 10 => kl_X9_columnsOf
  | 11 => kl_X9_leastX
  | 12 => kl_X9_greatestX
  | 13 => kl_X9_greatestDivisor
  | 14 => kl_X10_init
  | 15 => kl_X10_within
  | _ => []
def KL_7 : Nat → List (Nat × En) := fun k => match k with
  | 0 => kl_X10_nib
  | 1 => kl_X10_ofNib
  | 2 => kl_X10_point
  | 3 => kl_X10_drop
  | 4 => kl_X10_lift
  | 5 => kl_X10_undo
  | 6 => kl_X10_isStroke
  | 7 => kl_X10_ofStroke
  | 8 => kl_X10_place
  | 9 => kl_X10_noInk
  | 10 => kl_X10_isUpTo
  | 11 => kl_X10_size
  | 12 => kl_X10_isCovered
  | 13 => kl_X10_addStep
  | 14 => kl_X10_addStroke
  | 15 => kl_X10_findInk
  | _ => []
def KL_8 : Nat → List (Nat × En) := fun k => match k with
  | 0 => kl_X10_findInkOf
  | 1 => kl_X10_bits
  | 2 => kl_X10_inkSize
  | 3 => kl_X10_ink
  | 4 => kl_X10_area
  | 5 => kl_X10_limit
  | 6 => kl_X10_stepX
  | 7 => kl_X10_stepY
  | 8 => kl_X10_isStep
  | 9 => kl_X10_common
  | 10 => kl_X10_thick
  | 11 => kl_X10_sortOf
  | 12 => kl_X10_sort
  | 13 => kl_X10_wrongOf
  | 14 => kl_X10_allWrong
  | 15 => kl_X10_wrong
  | _ => []
def KL_9 : Nat → List (Nat × En) := fun k => match k with
  | 0 => kl_X10_endOf
  | 1 => kl_X10_areAlike
  | 2 => kl_X10_isInked
  | 3 => kl_X10_endsIn
  | 4 => kl_X10_doMeet
  | 5 => kl_X10_join
  | 6 => kl_X10_isInk
  | 7 => kl_X10_goesThrough
  | 8 => kl_X10_piecesOf
  | 9 => kl_X10_pieces
  | 10 => kl_X10_isLetter
  | 11 => kl_X10_letters
  | 12 => kl_X10_copies
  | 13 => kl_X10_keep
  | 14 => kl_X10_take
  | 15 => kl_X10_forget
  | _ => []
def KL_10 : Nat → List (Nat × En) := fun k => match k with
  | 0 => kl_X10_name
  | 1 => kl_X10_kindOf
  | 2 => kl_X10_hasKind
  | 3 => kl_X10_addKinds
  | 4 => kl_X10_findKinds
  | 5 => kl_X10_leastX
  | 6 => kl_X10_greatestX
  | 7 => kl_X10_ofLetter
  | 8 => kl_X10_kind
  | 9 => kl_X10_moved
  | 10 => kl_X10_apartBy
  | 11 => kl_X10_layBoth
  | 12 => kl_X10_apart
  | 13 => kl_X10_findFit
  | 14 => kl_X10_fit
  | 15 => kl_X10_likest
  | _ => []
def KL_11 : Nat → List (Nat × En) := fun k => match k with
  | 0 => kl_X10_newKinds
  | 1 => kl_X10_nextTaught
  | 2 => kl_X10_lesson
  | 3 => kl_X10_wrongByNib
  | 4 => kl_X10_bestNib
  | 5 => kl_X10_bestLimit
  | 6 => kl_X10_frame
  | 7 => kl_X10_fault
  | 8 => kl_X10_shoot
  | 9 => kl_X10_roll
  | 10 => kl_X10_seen
  | 11 => kl_X10_spoil
  | 12 => kl_X10_manySteps
  | 13 => kl_X10_many
  | 14 => kl_J6_bitCount_0f7a4
  | 15 => kl_J9_abs_0f7a4
  | _ => []
def KL_12 : Nat → List (Nat × En) := fun k => match k with
  | 0 => kl_J9_max_7cf53
  | 1 => kl_J9_min_7cf53
  | 2 => kl_J7_fill_53178
  | 3 => kl_J7_copyOf_59c91
  | 4 => kl_L_law
  | _ => []
def KL (mi : Nat) : List (Nat × En) := match mi / 16 with
  | 0 => KL_0 (mi % 16)
  | 1 => KL_1 (mi % 16)
  | 2 => KL_2 (mi % 16)
  | 3 => KL_3 (mi % 16)
  | 4 => KL_4 (mi % 16)
  | 5 => KL_5 (mi % 16)
  | 6 => KL_6 (mi % 16)
  | 7 => KL_7 (mi % 16)
  | 8 => KL_8 (mi % 16)
  | 9 => KL_9 (mi % 16)
  | 10 => KL_10 (mi % 16)
  | 11 => KL_11 (mi % 16)
  | 12 => KL_12 (mi % 16)
  | _ => []
theorem lookup_mem {a : Nat} {b : En} : ∀ {l : List (Nat × En)}, l.lookup a = some b → (a, b) ∈ l
  | [], h => by simp at h
  | (k, e) :: l, h => by
    rw [List.lookup_cons] at h
    cases hk : a == k with
    | true =>
      rw [hk] at h
      have : a = k := by simpa using hk
      subst this
      cases h
      exact List.mem_cons_self
    | false =>
      rw [hk] at h
      exact List.mem_cons_of_mem _ (lookup_mem h)
def KT (mi pc : Nat) : Option En := (KL mi).lookup pc
theorem kgc_0 (mi k : Nat) (hm : mi = 0 + k) : ∀ q ∈ KL_0 k, Gd mi q := by
  unfold KL_0
  split
  · subst hm; exact kg_X0_init
  · subst hm; exact kg_X0_find
  · subst hm; exact kg_X0_countApart
  · subst hm; exact kg_X1_init
  · subst hm; exact kg_X1_countPieces
  · subst hm; exact kg_X1_countCounters
  · subst hm; exact kg_X1_countLeft
  · subst hm; exact kg_X1_removePiece
  · subst hm; exact kg_X1_removePlace
  · subst hm; exact kg_X2_init
  · subst hm; exact kg_X2_open
  · subst hm; exact kg_X2_close
  · subst hm; exact kg_X2_faultAt
  · subst hm; exact kg_X3_init
  · subst hm; exact kg_X3_lengthOf
  · subst hm; exact kg_X3_clear
  · exact fun _ h => absurd h List.not_mem_nil
theorem kgc_1 (mi k : Nat) (hm : mi = 16 + k) : ∀ q ∈ KL_1 k, Gd mi q := by
  unfold KL_1
  split
  · subst hm; exact kg_X3_addAll
  · subst hm; exact kg_X3_add
  · subst hm; exact kg_X3_has
  · subst hm; exact kg_X3_countAhead
  · subst hm; exact kg_X3_countNotIn
  · subst hm; exact kg_X4_init
  · subst hm; exact kg_X4_nameAt
  · subst hm; exact kg_X4_nextName
  · subst hm; exact kg_X5_init
  · subst hm; exact kg_X5_endsAt
  · subst hm; exact kg_X5_add
  · subst hm; exact kg_X5_clear
  · subst hm; exact kg_X6_init
  · subst hm; exact kg_X6_at
  · subst hm; exact kg_X6_add
  · subst hm; exact kg_X6_removeLast
  · exact fun _ h => absurd h List.not_mem_nil
theorem kgc_2 (mi k : Nat) (hm : mi = 32 + k) : ∀ q ∈ KL_2 k, Gd mi q := by
  unfold KL_2
  split
  · subst hm; exact kg_X6_clear
  · subst hm; exact kg_X6_copyFrom
  · subst hm; exact kg_X6_gatherInk
  · subst hm; exact kg_X6_countSteps
  · subst hm; exact kg_X6_countWrong
  · subst hm; exact kg_X6_countWrongWithNib
  · subst hm; exact kg_X7_init
  · subst hm; exact kg_X7_at
  · subst hm; exact kg_X7_put
  · subst hm; exact kg_X7_remove
  · subst hm; exact kg_X7_nameAt
  · subst hm; exact kg_X8_init
  · subst hm; exact kg_X8_inkBetween
  · subst hm; exact kg_X8_covers
  · subst hm; exact kg_X8_coversOnItsLine
  · subst hm; exact kg_X8_countSteps
  · exact fun _ h => absurd h List.not_mem_nil
theorem kgc_3 (mi k : Nat) (hm : mi = 48 + k) : ∀ q ∈ KL_3 k, Gd mi q := by
  unfold KL_3
  split
  · subst hm; exact kg_X8_hasStep
  · subst hm; exact kg_X8_stepX
  · subst hm; exact kg_X8_stepY
  · subst hm; exact kg_X8_thickUpper
  · subst hm; exact kg_X8_thickLower
  · subst hm; exact kg_X8_sortOf
  · subst hm; exact kg_X8_isWrong
  · subst hm; exact kg_X8_countWrong
  · subst hm; exact kg_X8_kindCode
  · subst hm; exact kg_X8_hasEnd
  · subst hm; exact kg_X8_hasInk
  · subst hm; exact kg_X8_sharesEndWith
  · subst hm; exact kg_X8_hasEndInInkOf
  · subst hm; exact kg_X8_addInkTo
  · subst hm; exact kg_X8_crossesInkOf
  · subst hm; exact kg_X9_init
  · exact fun _ h => absurd h List.not_mem_nil
theorem kgc_4 (mi k : Nat) (hm : mi = 64 + k) : ∀ q ∈ KL_4 k, Gd mi q := by
  unfold KL_4
  split
  · subst hm; exact kg_X9_nib
  · subst hm; exact kg_X9_ofNib
  · subst hm; exact kg_X9_point
  · subst hm; exact kg_X9_drop
  · subst hm; exact kg_X9_lift
  · subst hm; exact kg_X9_undo
  · subst hm; exact kg_X9_ofStroke
  · subst hm; exact kg_X9_place
  · subst hm; exact kg_X9_ink
  · subst hm; exact kg_X9_area
  · subst hm; exact kg_X9_limit
  · subst hm; exact kg_X9_thick
  · subst hm; exact kg_X9_sort
  · subst hm; exact kg_X9_wrong
  · subst hm; exact kg_X9_join
  · subst hm; exact kg_X9_pieces
  · exact fun _ h => absurd h List.not_mem_nil
theorem kgc_5 (mi k : Nat) (hm : mi = 80 + k) : ∀ q ∈ KL_5 k, Gd mi q := by
  unfold KL_5
  split
  · subst hm; exact kg_X9_keep
  · subst hm; exact kg_X9_take
  · subst hm; exact kg_X9_forget
  · subst hm; exact kg_X9_name
  · subst hm; exact kg_X9_ofLetter
  · subst hm; exact kg_X9_kind
  · subst hm; exact kg_X9_apart
  · subst hm; exact kg_X9_fit
  · subst hm; exact kg_X9_likest
  · subst hm; exact kg_X9_lesson
  · subst hm; exact kg_X9_bestNib
  · subst hm; exact kg_X9_bestLimit
  · subst hm; exact kg_X9_frame
  · subst hm; exact kg_X9_shoot
  · subst hm; exact kg_X9_roll
  · subst hm; exact kg_X9_seen
  · exact fun _ h => absurd h List.not_mem_nil
theorem kgc_6 (mi k : Nat) (hm : mi = 96 + k) : ∀ q ∈ KL_6 k, Gd mi q := by
  unfold KL_6
  split
  · subst hm; exact kg_X9_spoil
  · subst hm; exact kg_X9_many
  · subst hm; exact kg_X9_within
  · subst hm; exact kg_X9_withoutSign
  · subst hm; exact kg_X9_rowsOf
  · subst hm; exact kg_X9_gatherSheet
  · subst hm; exact kg_X9_gatherLetter
  · subst hm; exact kg_X9_countKindsOf
  · subst hm; exact kg_X9_gatherAllKinds
  · subst hm; exact kg_X9_countBits
  · subst hm; exact kg_X9_columnsOf
  · subst hm; exact kg_X9_leastX
  · subst hm; exact kg_X9_greatestX
  · subst hm; exact kg_X9_greatestDivisor
  · subst hm; exact kg_X10_init
  · subst hm; exact kg_X10_within
  · exact fun _ h => absurd h List.not_mem_nil
theorem kgc_7 (mi k : Nat) (hm : mi = 112 + k) : ∀ q ∈ KL_7 k, Gd mi q := by
  unfold KL_7
  split
  · subst hm; exact kg_X10_nib
  · subst hm; exact kg_X10_ofNib
  · subst hm; exact kg_X10_point
  · subst hm; exact kg_X10_drop
  · subst hm; exact kg_X10_lift
  · subst hm; exact kg_X10_undo
  · subst hm; exact kg_X10_isStroke
  · subst hm; exact kg_X10_ofStroke
  · subst hm; exact kg_X10_place
  · subst hm; exact kg_X10_noInk
  · subst hm; exact kg_X10_isUpTo
  · subst hm; exact kg_X10_size
  · subst hm; exact kg_X10_isCovered
  · subst hm; exact kg_X10_addStep
  · subst hm; exact kg_X10_addStroke
  · subst hm; exact kg_X10_findInk
  · exact fun _ h => absurd h List.not_mem_nil
theorem kgc_8 (mi k : Nat) (hm : mi = 128 + k) : ∀ q ∈ KL_8 k, Gd mi q := by
  unfold KL_8
  split
  · subst hm; exact kg_X10_findInkOf
  · subst hm; exact kg_X10_bits
  · subst hm; exact kg_X10_inkSize
  · subst hm; exact kg_X10_ink
  · subst hm; exact kg_X10_area
  · subst hm; exact kg_X10_limit
  · subst hm; exact kg_X10_stepX
  · subst hm; exact kg_X10_stepY
  · subst hm; exact kg_X10_isStep
  · subst hm; exact kg_X10_common
  · subst hm; exact kg_X10_thick
  · subst hm; exact kg_X10_sortOf
  · subst hm; exact kg_X10_sort
  · subst hm; exact kg_X10_wrongOf
  · subst hm; exact kg_X10_allWrong
  · subst hm; exact kg_X10_wrong
  · exact fun _ h => absurd h List.not_mem_nil
theorem kgc_9 (mi k : Nat) (hm : mi = 144 + k) : ∀ q ∈ KL_9 k, Gd mi q := by
  unfold KL_9
  split
  · subst hm; exact kg_X10_endOf
  · subst hm; exact kg_X10_areAlike
  · subst hm; exact kg_X10_isInked
  · subst hm; exact kg_X10_endsIn
  · subst hm; exact kg_X10_doMeet
  · subst hm; exact kg_X10_join
  · subst hm; exact kg_X10_isInk
  · subst hm; exact kg_X10_goesThrough
  · subst hm; exact kg_X10_piecesOf
  · subst hm; exact kg_X10_pieces
  · subst hm; exact kg_X10_isLetter
  · subst hm; exact kg_X10_letters
  · subst hm; exact kg_X10_copies
  · subst hm; exact kg_X10_keep
  · subst hm; exact kg_X10_take
  · subst hm; exact kg_X10_forget
  · exact fun _ h => absurd h List.not_mem_nil
theorem kgc_10 (mi k : Nat) (hm : mi = 160 + k) : ∀ q ∈ KL_10 k, Gd mi q := by
  unfold KL_10
  split
  · subst hm; exact kg_X10_name
  · subst hm; exact kg_X10_kindOf
  · subst hm; exact kg_X10_hasKind
  · subst hm; exact kg_X10_addKinds
  · subst hm; exact kg_X10_findKinds
  · subst hm; exact kg_X10_leastX
  · subst hm; exact kg_X10_greatestX
  · subst hm; exact kg_X10_ofLetter
  · subst hm; exact kg_X10_kind
  · subst hm; exact kg_X10_moved
  · subst hm; exact kg_X10_apartBy
  · subst hm; exact kg_X10_layBoth
  · subst hm; exact kg_X10_apart
  · subst hm; exact kg_X10_findFit
  · subst hm; exact kg_X10_fit
  · subst hm; exact kg_X10_likest
  · exact fun _ h => absurd h List.not_mem_nil
theorem kgc_11 (mi k : Nat) (hm : mi = 176 + k) : ∀ q ∈ KL_11 k, Gd mi q := by
  unfold KL_11
  split
  · subst hm; exact kg_X10_newKinds
  · subst hm; exact kg_X10_nextTaught
  · subst hm; exact kg_X10_lesson
  · subst hm; exact kg_X10_wrongByNib
  · subst hm; exact kg_X10_bestNib
  · subst hm; exact kg_X10_bestLimit
  · subst hm; exact kg_X10_frame
  · subst hm; exact kg_X10_fault
  · subst hm; exact kg_X10_shoot
  · subst hm; exact kg_X10_roll
  · subst hm; exact kg_X10_seen
  · subst hm; exact kg_X10_spoil
  · subst hm; exact kg_X10_manySteps
  · subst hm; exact kg_X10_many
  · subst hm; exact kg_J6_bitCount_0f7a4
  · subst hm; exact kg_J9_abs_0f7a4
  · exact fun _ h => absurd h List.not_mem_nil
theorem kgc_12 (mi k : Nat) (hm : mi = 192 + k) : ∀ q ∈ KL_12 k, Gd mi q := by
  unfold KL_12
  split
  · subst hm; exact kg_J9_max_7cf53
  · subst hm; exact kg_J9_min_7cf53
  · subst hm; exact kg_J7_fill_53178
  · subst hm; exact kg_J7_copyOf_59c91
  · subst hm; exact kg_L_law
  · exact fun _ h => absurd h List.not_mem_nil
theorem kg_all (mi : Nat) : ∀ q ∈ KL mi, Gd mi q := by
  unfold KL
  split
  · exact kgc_0 mi _ (by omega)
  · exact kgc_1 mi _ (by omega)
  · exact kgc_2 mi _ (by omega)
  · exact kgc_3 mi _ (by omega)
  · exact kgc_4 mi _ (by omega)
  · exact kgc_5 mi _ (by omega)
  · exact kgc_6 mi _ (by omega)
  · exact kgc_7 mi _ (by omega)
  · exact kgc_8 mi _ (by omega)
  · exact kgc_9 mi _ (by omega)
  · exact kgc_10 mi _ (by omega)
  · exact kgc_11 mi _ (by omega)
  · exact kgc_12 mi _ (by omega)
  · exact fun _ h => absurd h List.not_mem_nil
theorem KT_ok : KTok KT := by
  intro mi pc
  refine ⟨fun f h => ?_, fun mi' na kd pc' h => ?_⟩
  · exact kg_all mi _ (lookup_mem h)
  · exact kg_all mi _ (lookup_mem h)
def Run (mi pc : Nat) (lo : Lo) (st : List Value) (h : Hp) (Q : Option Value → Hp → Prop) : Prop := ∃ (n : Nat) (r : Option Value) (h' : Hp), xe KT nl n mi pc lo st h = some (r, h') ∧ Q r h'
def Call (mi : Nat) (as : List Value) (h : Hp) (Q : Option Value → Hp → Prop) : Prop := Run mi 0 (initLo (nl mi) as) [] h Q
section ROWS
variable {mi pc pc' : Nat} {lo : Lo} {st : List Value} {h : Hp} {Q : Option Value → Hp → Prop}
theorem r_s {f : Op1} {lo' : Lo} {st' : List Value} {h' : Hp} (hk : KT mi pc = some (.inl f)) (hf : f lo st h = some (.inl (pc', lo', st', h'))) (k : Run mi pc' lo' st' h' Q) : Run mi pc lo st h Q := by
  obtain ⟨n, r, h2, e, q⟩ := k
  refine ⟨n + 1, r, h2, ?_, q⟩
  rw [xe, hk]
  dsimp only
  rw [hf]
  exact e
theorem r_e {f : Op1} {r : Option Value} {h' : Hp} (hk : KT mi pc = some (.inl f)) (hf : f lo st h = some (.inr (r, h'))) (k : Q r h') : Run mi pc lo st h Q := by
  refine ⟨1, r, h', ?_, k⟩
  rw [xe, hk]
  dsimp only
  rw [hf]
theorem Run.mono {Q' : Option Value → Hp → Prop} (k : Run mi pc lo st h Q) (hq : ∀ r h', Q r h' → Q' r h') : Run mi pc lo st h Q' := by
  obtain ⟨n, r, h2, e, q⟩ := k
  exact ⟨n, r, h2, e, hq _ _ q⟩
theorem r_call {mi' na : Nat} {kd : Option Nat} {Q1 : Option Value → Hp → Prop} (hk : KT mi pc = some (.inr (mi', na, kd, pc'))) (hc : callOk na kd st h = true) (h1 : Call mi' (st.take na).reverse h Q1) (k : ∀ (r : Option Value) (h' : Hp), Q1 r h' → Run mi pc' lo (r.toList ++ st.drop na) h' Q) : Run mi pc lo st h Q := by
  obtain ⟨n1, r1, h1', e1, q1⟩ := h1
  obtain ⟨n2, r2, h2', e2, q2⟩ := k r1 h1' q1
  refine ⟨max n1 n2 + 1, r2, h2', ?_, q2⟩
  rw [xe, hk]
  dsimp only
  rw [hc]
  dsimp only
  rw [xe_le KT nl (Nat.le_max_left n1 n2) e1]
  exact xe_le KT nl (Nat.le_max_right n1 n2) e2
end ROWS
