/-! cells only come; clone; calls -/
def MON (f : Op1) : Prop := ∀ (lo : Lo) (st : List Value) (h : Hp), (∀ (pc' : Nat) (lo' : Lo) (st' : List Value) (h' : Hp), f lo st h = some (.inl (pc', lo', st', h')) → h.1 ≤ h'.1 ∧ h.2.1 ≤ h'.2.1) ∧ ∀ (r : Option Value) (h' : Hp), f lo st h = some (.inr (r, h')) → h.1 ≤ h'.1 ∧ h.2.1 ≤ h'.2.1
theorem mon_const {v : Value} {pc' : Nat} : MON (xo_const v pc') := by
  intro lo st h
  constructor
  · intro pc1 lo1 st1 h1 he
    unfold xo_const at he
    repeat' split at he
    all_goals first | (cases he; done) | (cases he; exact ⟨Nat.le_refl _, Nat.le_refl _⟩) | (cases he; exact ⟨Nat.le_succ _, Nat.le_add_right _ _⟩)
  · intro r h1 he
    unfold xo_const at he
    repeat' split at he
    all_goals first | (cases he; done) | (cases he; exact ⟨Nat.le_refl _, Nat.le_refl _⟩)
theorem mon_iload {i pc' : Nat} : MON (xo_iload i pc') := by
  intro lo st h
  constructor
  · intro pc1 lo1 st1 h1 he
    unfold xo_iload at he
    repeat' split at he
    all_goals first | (cases he; done) | (cases he; exact ⟨Nat.le_refl _, Nat.le_refl _⟩) | (cases he; exact ⟨Nat.le_succ _, Nat.le_add_right _ _⟩)
  · intro r h1 he
    unfold xo_iload at he
    repeat' split at he
    all_goals first | (cases he; done) | (cases he; exact ⟨Nat.le_refl _, Nat.le_refl _⟩)
theorem mon_aload {i pc' : Nat} : MON (xo_aload i pc') := by
  intro lo st h
  constructor
  · intro pc1 lo1 st1 h1 he
    unfold xo_aload at he
    repeat' split at he
    all_goals first | (cases he; done) | (cases he; exact ⟨Nat.le_refl _, Nat.le_refl _⟩) | (cases he; exact ⟨Nat.le_succ _, Nat.le_add_right _ _⟩)
  · intro r h1 he
    unfold xo_aload at he
    repeat' split at he
    all_goals first | (cases he; done) | (cases he; exact ⟨Nat.le_refl _, Nat.le_refl _⟩)
theorem mon_istore {i pc' : Nat} : MON (xo_istore i pc') := by
  intro lo st h
  constructor
  · intro pc1 lo1 st1 h1 he
    unfold xo_istore at he
    repeat' split at he
    all_goals first | (cases he; done) | (cases he; exact ⟨Nat.le_refl _, Nat.le_refl _⟩) | (cases he; exact ⟨Nat.le_succ _, Nat.le_add_right _ _⟩)
  · intro r h1 he
    unfold xo_istore at he
    repeat' split at he
    all_goals first | (cases he; done) | (cases he; exact ⟨Nat.le_refl _, Nat.le_refl _⟩)
theorem mon_astore {i pc' : Nat} : MON (xo_astore i pc') := by
  intro lo st h
  constructor
  · intro pc1 lo1 st1 h1 he
    unfold xo_astore at he
    repeat' split at he
    all_goals first | (cases he; done) | (cases he; exact ⟨Nat.le_refl _, Nat.le_refl _⟩) | (cases he; exact ⟨Nat.le_succ _, Nat.le_add_right _ _⟩)
  · intro r h1 he
    unfold xo_astore at he
    repeat' split at he
    all_goals first | (cases he; done) | (cases he; exact ⟨Nat.le_refl _, Nat.le_refl _⟩)
theorem mon_iinc {i : Nat} {n : Int32} {pc' : Nat} : MON (xo_iinc i n pc') := by
  intro lo st h
  constructor
  · intro pc1 lo1 st1 h1 he
    unfold xo_iinc at he
    repeat' split at he
    all_goals first | (cases he; done) | (cases he; exact ⟨Nat.le_refl _, Nat.le_refl _⟩) | (cases he; exact ⟨Nat.le_succ _, Nat.le_add_right _ _⟩)
  · intro r h1 he
    unfold xo_iinc at he
    repeat' split at he
    all_goals first | (cases he; done) | (cases he; exact ⟨Nat.le_refl _, Nat.le_refl _⟩)
theorem mon_bin {f : Int32 → Int32 → Int32} {pc' : Nat} : MON (xo_bin f pc') := by
  intro lo st h
  constructor
  · intro pc1 lo1 st1 h1 he
    unfold xo_bin at he
    repeat' split at he
    all_goals first | (cases he; done) | (cases he; exact ⟨Nat.le_refl _, Nat.le_refl _⟩) | (cases he; exact ⟨Nat.le_succ _, Nat.le_add_right _ _⟩)
  · intro r h1 he
    unfold xo_bin at he
    repeat' split at he
    all_goals first | (cases he; done) | (cases he; exact ⟨Nat.le_refl _, Nat.le_refl _⟩)
theorem mon_div {f : Int32 → Int32 → Int32} {pc' : Nat} : MON (xo_div f pc') := by
  intro lo st h
  constructor
  · intro pc1 lo1 st1 h1 he
    unfold xo_div at he
    repeat' split at he
    all_goals first | (cases he; done) | (cases he; exact ⟨Nat.le_refl _, Nat.le_refl _⟩) | (cases he; exact ⟨Nat.le_succ _, Nat.le_add_right _ _⟩)
  · intro r h1 he
    unfold xo_div at he
    repeat' split at he
    all_goals first | (cases he; done) | (cases he; exact ⟨Nat.le_refl _, Nat.le_refl _⟩)
theorem mon_un {f : Int32 → Int32} {pc' : Nat} : MON (xo_un f pc') := by
  intro lo st h
  constructor
  · intro pc1 lo1 st1 h1 he
    unfold xo_un at he
    repeat' split at he
    all_goals first | (cases he; done) | (cases he; exact ⟨Nat.le_refl _, Nat.le_refl _⟩) | (cases he; exact ⟨Nat.le_succ _, Nat.le_add_right _ _⟩)
  · intro r h1 he
    unfold xo_un at he
    repeat' split at he
    all_goals first | (cases he; done) | (cases he; exact ⟨Nat.le_refl _, Nat.le_refl _⟩)
theorem mon_i2l {pc' : Nat} : MON (xo_i2l pc') := by
  intro lo st h
  constructor
  · intro pc1 lo1 st1 h1 he
    unfold xo_i2l at he
    repeat' split at he
    all_goals first | (cases he; done) | (cases he; exact ⟨Nat.le_refl _, Nat.le_refl _⟩) | (cases he; exact ⟨Nat.le_succ _, Nat.le_add_right _ _⟩)
  · intro r h1 he
    unfold xo_i2l at he
    repeat' split at he
    all_goals first | (cases he; done) | (cases he; exact ⟨Nat.le_refl _, Nat.le_refl _⟩)
theorem mon_land {pc' : Nat} : MON (xo_land pc') := by
  intro lo st h
  constructor
  · intro pc1 lo1 st1 h1 he
    unfold xo_land at he
    repeat' split at he
    all_goals first | (cases he; done) | (cases he; exact ⟨Nat.le_refl _, Nat.le_refl _⟩) | (cases he; exact ⟨Nat.le_succ _, Nat.le_add_right _ _⟩)
  · intro r h1 he
    unfold xo_land at he
    repeat' split at he
    all_goals first | (cases he; done) | (cases he; exact ⟨Nat.le_refl _, Nat.le_refl _⟩)
theorem mon_lcmp {pc' : Nat} : MON (xo_lcmp pc') := by
  intro lo st h
  constructor
  · intro pc1 lo1 st1 h1 he
    unfold xo_lcmp at he
    repeat' split at he
    all_goals first | (cases he; done) | (cases he; exact ⟨Nat.le_refl _, Nat.le_refl _⟩) | (cases he; exact ⟨Nat.le_succ _, Nat.le_add_right _ _⟩)
  · intro r h1 he
    unfold xo_lcmp at he
    repeat' split at he
    all_goals first | (cases he; done) | (cases he; exact ⟨Nat.le_refl _, Nat.le_refl _⟩)
theorem mon_dup {pc' : Nat} : MON (xo_dup pc') := by
  intro lo st h
  constructor
  · intro pc1 lo1 st1 h1 he
    unfold xo_dup at he
    repeat' split at he
    all_goals first | (cases he; done) | (cases he; exact ⟨Nat.le_refl _, Nat.le_refl _⟩) | (cases he; exact ⟨Nat.le_succ _, Nat.le_add_right _ _⟩)
  · intro r h1 he
    unfold xo_dup at he
    repeat' split at he
    all_goals first | (cases he; done) | (cases he; exact ⟨Nat.le_refl _, Nat.le_refl _⟩)
theorem mon_dup2 {pc' : Nat} : MON (xo_dup2 pc') := by
  intro lo st h
  constructor
  · intro pc1 lo1 st1 h1 he
    unfold xo_dup2 at he
    repeat' split at he
    all_goals first | (cases he; done) | (cases he; exact ⟨Nat.le_refl _, Nat.le_refl _⟩) | (cases he; exact ⟨Nat.le_succ _, Nat.le_add_right _ _⟩)
  · intro r h1 he
    unfold xo_dup2 at he
    repeat' split at he
    all_goals first | (cases he; done) | (cases he; exact ⟨Nat.le_refl _, Nat.le_refl _⟩)
theorem mon_pop {pc' : Nat} : MON (xo_pop pc') := by
  intro lo st h
  constructor
  · intro pc1 lo1 st1 h1 he
    unfold xo_pop at he
    repeat' split at he
    all_goals first | (cases he; done) | (cases he; exact ⟨Nat.le_refl _, Nat.le_refl _⟩) | (cases he; exact ⟨Nat.le_succ _, Nat.le_add_right _ _⟩)
  · intro r h1 he
    unfold xo_pop at he
    repeat' split at he
    all_goals first | (cases he; done) | (cases he; exact ⟨Nat.le_refl _, Nat.le_refl _⟩)
theorem mon_if1 {c : Int32 → Bool} {tgt pc' : Nat} : MON (xo_if1 c tgt pc') := by
  intro lo st h
  constructor
  · intro pc1 lo1 st1 h1 he
    unfold xo_if1 at he
    repeat' split at he
    all_goals first | (cases he; done) | (cases he; exact ⟨Nat.le_refl _, Nat.le_refl _⟩) | (cases he; exact ⟨Nat.le_succ _, Nat.le_add_right _ _⟩)
  · intro r h1 he
    unfold xo_if1 at he
    repeat' split at he
    all_goals first | (cases he; done) | (cases he; exact ⟨Nat.le_refl _, Nat.le_refl _⟩)
theorem mon_if2 {c : Int32 → Int32 → Bool} {tgt pc' : Nat} : MON (xo_if2 c tgt pc') := by
  intro lo st h
  constructor
  · intro pc1 lo1 st1 h1 he
    unfold xo_if2 at he
    repeat' split at he
    all_goals first | (cases he; done) | (cases he; exact ⟨Nat.le_refl _, Nat.le_refl _⟩) | (cases he; exact ⟨Nat.le_succ _, Nat.le_add_right _ _⟩)
  · intro r h1 he
    unfold xo_if2 at he
    repeat' split at he
    all_goals first | (cases he; done) | (cases he; exact ⟨Nat.le_refl _, Nat.le_refl _⟩)
theorem mon_goto {tgt : Nat} : MON (xo_goto tgt) := by
  intro lo st h
  constructor
  · intro pc1 lo1 st1 h1 he
    unfold xo_goto at he
    repeat' split at he
    all_goals first | (cases he; done) | (cases he; exact ⟨Nat.le_refl _, Nat.le_refl _⟩) | (cases he; exact ⟨Nat.le_succ _, Nat.le_add_right _ _⟩)
  · intro r h1 he
    unfold xo_goto at he
    repeat' split at he
    all_goals first | (cases he; done) | (cases he; exact ⟨Nat.le_refl _, Nat.le_refl _⟩)
theorem mon_null {t1 t2 : Nat} : MON (xo_null t1 t2) := by
  intro lo st h
  constructor
  · intro pc1 lo1 st1 h1 he
    unfold xo_null at he
    repeat' split at he
    all_goals first | (cases he; done) | (cases he; exact ⟨Nat.le_refl _, Nat.le_refl _⟩) | (cases he; exact ⟨Nat.le_succ _, Nat.le_add_right _ _⟩)
  · intro r h1 he
    unfold xo_null at he
    repeat' split at he
    all_goals first | (cases he; done) | (cases he; exact ⟨Nat.le_refl _, Nat.le_refl _⟩)
theorem mon_sw {f : Int32 → Nat} : MON (xo_sw f) := by
  intro lo st h
  constructor
  · intro pc1 lo1 st1 h1 he
    unfold xo_sw at he
    repeat' split at he
    all_goals first | (cases he; done) | (cases he; exact ⟨Nat.le_refl _, Nat.le_refl _⟩) | (cases he; exact ⟨Nat.le_succ _, Nat.le_add_right _ _⟩)
  · intro r h1 he
    unfold xo_sw at he
    repeat' split at he
    all_goals first | (cases he; done) | (cases he; exact ⟨Nat.le_refl _, Nat.le_refl _⟩)
theorem mon_getf {ci k pc' : Nat} : MON (xo_getf ci k pc') := by
  intro lo st h
  constructor
  · intro pc1 lo1 st1 h1 he
    unfold xo_getf at he
    repeat' split at he
    all_goals first | (cases he; done) | (cases he; exact ⟨Nat.le_refl _, Nat.le_refl _⟩) | (cases he; exact ⟨Nat.le_succ _, Nat.le_add_right _ _⟩)
  · intro r h1 he
    unfold xo_getf at he
    repeat' split at he
    all_goals first | (cases he; done) | (cases he; exact ⟨Nat.le_refl _, Nat.le_refl _⟩)
theorem mon_putf {ci k : Nat} {t : Bool} {pc' : Nat} : MON (xo_putf ci k t pc') := by
  intro lo st h
  constructor
  · intro pc1 lo1 st1 h1 he
    unfold xo_putf at he
    repeat' split at he
    all_goals first | (cases he; done) | (cases he; exact ⟨Nat.le_refl _, Nat.le_refl _⟩) | (cases he; exact ⟨Nat.le_succ _, Nat.le_add_right _ _⟩)
  · intro r h1 he
    unfold xo_putf at he
    repeat' split at he
    all_goals first | (cases he; done) | (cases he; exact ⟨Nat.le_refl _, Nat.le_refl _⟩)
theorem mon_iald {pc' : Nat} : MON (xo_iald pc') := by
  intro lo st h
  constructor
  · intro pc1 lo1 st1 h1 he
    unfold xo_iald at he
    repeat' split at he
    all_goals first | (cases he; done) | (cases he; exact ⟨Nat.le_refl _, Nat.le_refl _⟩) | (cases he; exact ⟨Nat.le_succ _, Nat.le_add_right _ _⟩)
  · intro r h1 he
    unfold xo_iald at he
    repeat' split at he
    all_goals first | (cases he; done) | (cases he; exact ⟨Nat.le_refl _, Nat.le_refl _⟩)
theorem mon_zald {pc' : Nat} : MON (xo_zald pc') := by
  intro lo st h
  constructor
  · intro pc1 lo1 st1 h1 he
    unfold xo_zald at he
    repeat' split at he
    all_goals first | (cases he; done) | (cases he; exact ⟨Nat.le_refl _, Nat.le_refl _⟩) | (cases he; exact ⟨Nat.le_succ _, Nat.le_add_right _ _⟩)
  · intro r h1 he
    unfold xo_zald at he
    repeat' split at he
    all_goals first | (cases he; done) | (cases he; exact ⟨Nat.le_refl _, Nat.le_refl _⟩)
theorem mon_iast {pc' : Nat} : MON (xo_iast pc') := by
  intro lo st h
  constructor
  · intro pc1 lo1 st1 h1 he
    unfold xo_iast at he
    repeat' split at he
    all_goals first | (cases he; done) | (cases he; exact ⟨Nat.le_refl _, Nat.le_refl _⟩) | (cases he; exact ⟨Nat.le_succ _, Nat.le_add_right _ _⟩)
  · intro r h1 he
    unfold xo_iast at he
    repeat' split at he
    all_goals first | (cases he; done) | (cases he; exact ⟨Nat.le_refl _, Nat.le_refl _⟩)
theorem mon_zast {pc' : Nat} : MON (xo_zast pc') := by
  intro lo st h
  constructor
  · intro pc1 lo1 st1 h1 he
    unfold xo_zast at he
    repeat' split at he
    all_goals first | (cases he; done) | (cases he; exact ⟨Nat.le_refl _, Nat.le_refl _⟩) | (cases he; exact ⟨Nat.le_succ _, Nat.le_add_right _ _⟩)
  · intro r h1 he
    unfold xo_zast at he
    repeat' split at he
    all_goals first | (cases he; done) | (cases he; exact ⟨Nat.le_refl _, Nat.le_refl _⟩)
theorem mon_alen {pc' : Nat} : MON (xo_alen pc') := by
  intro lo st h
  constructor
  · intro pc1 lo1 st1 h1 he
    unfold xo_alen at he
    repeat' split at he
    all_goals first | (cases he; done) | (cases he; exact ⟨Nat.le_refl _, Nat.le_refl _⟩) | (cases he; exact ⟨Nat.le_succ _, Nat.le_add_right _ _⟩)
  · intro r h1 he
    unfold xo_alen at he
    repeat' split at he
    all_goals first | (cases he; done) | (cases he; exact ⟨Nat.le_refl _, Nat.le_refl _⟩)
theorem mon_aald {pc' : Nat} : MON (xo_aald pc') := by
  intro lo st h
  constructor
  · intro pc1 lo1 st1 h1 he
    unfold xo_aald at he
    repeat' split at he
    all_goals first | (cases he; done) | (cases he; exact ⟨Nat.le_refl _, Nat.le_refl _⟩) | (cases he; exact ⟨Nat.le_succ _, Nat.le_add_right _ _⟩)
  · intro r h1 he
    unfold xo_aald at he
    repeat' split at he
    all_goals first | (cases he; done) | (cases he; exact ⟨Nat.le_refl _, Nat.le_refl _⟩)
theorem mon_aast {pc' : Nat} : MON (xo_aast pc') := by
  intro lo st h
  constructor
  · intro pc1 lo1 st1 h1 he
    unfold xo_aast at he
    repeat' split at he
    all_goals first | (cases he; done) | (cases he; exact ⟨Nat.le_refl _, Nat.le_refl _⟩) | (cases he; exact ⟨Nat.le_succ _, Nat.le_add_right _ _⟩)
  · intro r h1 he
    unfold xo_aast at he
    repeat' split at he
    all_goals first | (cases he; done) | (cases he; exact ⟨Nat.le_refl _, Nat.le_refl _⟩)
theorem mon_newi {t pc' : Nat} : MON (xo_newi t pc') := by
  intro lo st h
  constructor
  · intro pc1 lo1 st1 h1 he
    unfold xo_newi at he
    repeat' split at he
    all_goals first | (cases he; done) | (cases he; exact ⟨Nat.le_refl _, Nat.le_refl _⟩) | (cases he; exact ⟨Nat.le_succ _, Nat.le_add_right _ _⟩)
  · intro r h1 he
    unfold xo_newi at he
    repeat' split at he
    all_goals first | (cases he; done) | (cases he; exact ⟨Nat.le_refl _, Nat.le_refl _⟩)
theorem mon_newr {t pc' : Nat} : MON (xo_newr t pc') := by
  intro lo st h
  constructor
  · intro pc1 lo1 st1 h1 he
    unfold xo_newr at he
    repeat' split at he
    all_goals first | (cases he; done) | (cases he; exact ⟨Nat.le_refl _, Nat.le_refl _⟩) | (cases he; exact ⟨Nat.le_succ _, Nat.le_add_right _ _⟩)
  · intro r h1 he
    unfold xo_newr at he
    repeat' split at he
    all_goals first | (cases he; done) | (cases he; exact ⟨Nat.le_refl _, Nat.le_refl _⟩)
theorem mon_new {ci : Nat} {fs : List Value} {pc' : Nat} : MON (xo_new ci fs pc') := by
  intro lo st h
  constructor
  · intro pc1 lo1 st1 h1 he
    unfold xo_new at he
    repeat' split at he
    all_goals first | (cases he; done) | (cases he; exact ⟨Nat.le_refl _, Nat.le_refl _⟩) | (cases he; exact ⟨Nat.le_succ _, Nat.le_add_right _ _⟩)
  · intro r h1 he
    unfold xo_new at he
    repeat' split at he
    all_goals first | (cases he; done) | (cases he; exact ⟨Nat.le_refl _, Nat.le_refl _⟩)
theorem mon_clone {pc' : Nat} : MON (xo_clone pc') := by
  intro lo st h
  constructor
  · intro pc1 lo1 st1 h1 he
    unfold xo_clone at he
    repeat' split at he
    all_goals first | (cases he; done) | (cases he; exact ⟨Nat.le_refl _, Nat.le_refl _⟩) | (cases he; exact ⟨Nat.le_succ _, Nat.le_add_right _ _⟩)
  · intro r h1 he
    unfold xo_clone at he
    repeat' split at he
    all_goals first | (cases he; done) | (cases he; exact ⟨Nat.le_refl _, Nat.le_refl _⟩)
theorem mon_cast {pc' : Nat} : MON (xo_cast pc') := by
  intro lo st h
  constructor
  · intro pc1 lo1 st1 h1 he
    unfold xo_cast at he
    repeat' split at he
    all_goals first | (cases he; done) | (cases he; exact ⟨Nat.le_refl _, Nat.le_refl _⟩) | (cases he; exact ⟨Nat.le_succ _, Nat.le_add_right _ _⟩)
  · intro r h1 he
    unfold xo_cast at he
    repeat' split at he
    all_goals first | (cases he; done) | (cases he; exact ⟨Nat.le_refl _, Nat.le_refl _⟩)
theorem mon_oinit {pc' : Nat} : MON (xo_oinit pc') := by
  intro lo st h
  constructor
  · intro pc1 lo1 st1 h1 he
    unfold xo_oinit at he
    repeat' split at he
    all_goals first | (cases he; done) | (cases he; exact ⟨Nat.le_refl _, Nat.le_refl _⟩) | (cases he; exact ⟨Nat.le_succ _, Nat.le_add_right _ _⟩)
  · intro r h1 he
    unfold xo_oinit at he
    repeat' split at he
    all_goals first | (cases he; done) | (cases he; exact ⟨Nat.le_refl _, Nat.le_refl _⟩)
theorem mon_iret : MON xo_iret := by
  intro lo st h
  constructor
  · intro pc1 lo1 st1 h1 he
    unfold xo_iret at he
    repeat' split at he
    all_goals first | (cases he; done) | (cases he; exact ⟨Nat.le_refl _, Nat.le_refl _⟩) | (cases he; exact ⟨Nat.le_succ _, Nat.le_add_right _ _⟩)
  · intro r h1 he
    unfold xo_iret at he
    repeat' split at he
    all_goals first | (cases he; done) | (cases he; exact ⟨Nat.le_refl _, Nat.le_refl _⟩)
theorem mon_zret : MON xo_zret := by
  intro lo st h
  constructor
  · intro pc1 lo1 st1 h1 he
    unfold xo_zret at he
    repeat' split at he
    all_goals first | (cases he; done) | (cases he; exact ⟨Nat.le_refl _, Nat.le_refl _⟩) | (cases he; exact ⟨Nat.le_succ _, Nat.le_add_right _ _⟩)
  · intro r h1 he
    unfold xo_zret at he
    repeat' split at he
    all_goals first | (cases he; done) | (cases he; exact ⟨Nat.le_refl _, Nat.le_refl _⟩)
theorem mon_lret : MON xo_lret := by
  intro lo st h
  constructor
  · intro pc1 lo1 st1 h1 he
    unfold xo_lret at he
    repeat' split at he
    all_goals first | (cases he; done) | (cases he; exact ⟨Nat.le_refl _, Nat.le_refl _⟩) | (cases he; exact ⟨Nat.le_succ _, Nat.le_add_right _ _⟩)
  · intro r h1 he
    unfold xo_lret at he
    repeat' split at he
    all_goals first | (cases he; done) | (cases he; exact ⟨Nat.le_refl _, Nat.le_refl _⟩)
theorem mon_aret : MON xo_aret := by
  intro lo st h
  constructor
  · intro pc1 lo1 st1 h1 he
    unfold xo_aret at he
    repeat' split at he
    all_goals first | (cases he; done) | (cases he; exact ⟨Nat.le_refl _, Nat.le_refl _⟩) | (cases he; exact ⟨Nat.le_succ _, Nat.le_add_right _ _⟩)
  · intro r h1 he
    unfold xo_aret at he
    repeat' split at he
    all_goals first | (cases he; done) | (cases he; exact ⟨Nat.le_refl _, Nat.le_refl _⟩)
theorem mon_vret : MON xo_vret := by
  intro lo st h
  constructor
  · intro pc1 lo1 st1 h1 he
    unfold xo_vret at he
    repeat' split at he
    all_goals first | (cases he; done) | (cases he; exact ⟨Nat.le_refl _, Nat.le_refl _⟩) | (cases he; exact ⟨Nat.le_succ _, Nat.le_add_right _ _⟩)
  · intro r h1 he
    unfold xo_vret at he
    repeat' split at he
    all_goals first | (cases he; done) | (cases he; exact ⟨Nat.le_refl _, Nat.le_refl _⟩)
