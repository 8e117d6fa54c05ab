/-! the start: what the Statement gives -/
def zwL : List String := ["RUG", "PERSON", "WALL", "DOOR", "WAY", "FADE", "NORTH", "EAST", "SOUTH", "WEST", "OR", "AND", "NOT", "TROD", "WEIGHT", "SOLE", "PACE", "PRINTS", "TUFTS_TROD", "PLACE"]
def stT (i : Nat) : Term := .static "RugReader$Word" (zwL.getD i "") "LRugReader$Word;"
def stW : Term := .static "RugReader" "WORDS" "[LRugReader$Word;"
def gvL : List Cond := flatC (Jvm.Cond.and given_1 narrow_1)
theorem zw_nm : ∀ i, i < 20 → zwL.getD i "" = zwnm i := by decide +kernel
theorem st_ex : ∀ i, i < 20 → Cond.exactly (stT i) "RugReader$Word" ∈ gvL := by decide +kernel
theorem st_el : ∀ i, i < 20 → Cond.eq (.elem stW (.int (Int32.ofNat i))) (stT i) ∈ gvL := by decide +kernel
theorem st_code : ∀ i, i < 20 → Cond.eq (.field (stT i) "RugReader$Word" "code" "J") (.long (zwc i)) ∈ gvL := by decide +kernel
theorem st_dir : ∀ i, i < 20 → Cond.eq (.field (stT i) "RugReader$Word" "dir" "I") (.int (zwd i)) ∈ gvL := by decide +kernel
theorem st_mea : ∀ i, i < 20 → Cond.eq (.field (stT i) "RugReader$Word" "measured" "I") (.int (zwm i)) ∈ gvL := by decide +kernel
theorem zwc_ij : ∀ i, i < 20 → ∀ j, j < 20 → zwc i = zwc j → i = j := by decide +kernel
theorem st_w : Cond.arrayOf stW (.object "RugReader$Word") ∈ gvL ∧ Cond.eq (.length stW) (.int (20 : Int32)) ∈ gvL ∧ Cond.isRef (.static Bundle.tN "UNASSIGNED_STACK" Bundle.steD) ∈ gvL ∧ Cond.isRef (.static Bundle.tN "SUPPRESSED_SENTINEL" Bundle.listD) ∈ gvL ∧ Cond.exactly (.string "RugReader" 136) "java/lang/String" ∈ gvL ∧ Cond.exactly (.string "RugReader" 152) "java/lang/String" ∈ gvL := by decide +kernel
theorem st_l : (∀ i, i < 20 → Cond.laysStatic "RugReader$Word" (zwL.getD i "") "LRugReader$Word;" ∈ lw_tbl) ∧ Cond.laysStatic "RugReader" "WORDS" "[LRugReader$Word;" ∈ lw_tbl ∧ Cond.initialized "RugReader" ∈ lw_tbl ∧ Cond.initialized "RugReader$Word" ∈ lw_tbl ∧ Cond.initialized Bundle.tN ∈ lw_tbl ∧ Cond.laysStatic Bundle.tN "UNASSIGNED_STACK" Bundle.steD ∈ lw_tbl ∧ Cond.laysStatic Bundle.tN "SUPPRESSED_SENTINEL" Bundle.listD ∈ lw_tbl := by decide +kernel
theorem st_s : Cond.stringRef "RugReader" 136 tx1 ∈ lw_tbl ∧ Cond.stringRef "RugReader" 152 tx2 ∈ lw_tbl := by decide +kernel
theorem st_i : ∀ c, c < 11 → Cond.instantiable (zC c) (zN c) ∈ lw_tbl := by decide +kernel
theorem st_a : Cond.arrayClass .int ∈ lw_tbl ∧ Cond.arrayClass .long ∈ lw_tbl ∧ Cond.arrayClass .byte ∈ lw_tbl ∧ Cond.arrayClass .boolean ∈ lw_tbl ∧ Cond.arrayOver (.object "RugReader$House") ∈ lw_tbl ∧ Cond.arrayOver (.object "RugReader$Rug") ∈ lw_tbl ∧ Cond.arrayOver (.object "RugReader$Sentence") ∈ lw_tbl := by decide +kernel
theorem st_n : (∀ w ∈ zNest, w ∈ lw_tbl) ∧ ∀ w ∈ zNestF, w ∈ lw_tbl := by decide +kernel
