/-! the start: what the Statement gives, as the walks want it -/
def tmS (i : Nat) : Term := .string (zStr.getD i ("", 0, "", 0)).1 (zStr.getD i ("", 0, "", 0)).2.1
abbrev cG : Cond := Jvm.Cond.and given_1 narrow_1
def flG : List Cond := flatC cG
theorem sg_ex : ∀ i, i < 14 → (Cond.exactly (tmS i) "java/lang/String") ∈ flG := by decide +kernel
theorem sg_co : ∀ i, i < 14 → (Cond.eq (.field (tmS i) "java/lang/String" "coder" "B") (.int 0)) ∈ flG := by decide +kernel
theorem sg_ar : ∀ i, i < 14 → (Cond.arrayOf (.field (tmS i) "java/lang/String" "value" "[B") .byte) ∈ flG := by decide +kernel
theorem sg_le : ∀ i, i < 14 → (Cond.eq (.length (.field (tmS i) "java/lang/String" "value" "[B")) (.int (Int32.ofNat (zlen.getD i 0)))) ∈ flG := by decide +kernel
theorem sg_el : ∀ i, i < 14 → ∀ j, j < zlen.getD i 0 → (Cond.eq (.elem (.field (tmS i) "java/lang/String" "value" "[B") (.int (Int32.ofNat j))) (.int ((zbyt.getD i []).getD j 0))) ∈ flG := by decide +kernel
theorem sg_ne0 : ∀ j, j < 0 → (Cond.not (Cond.eq (tmS 0) (tmS j))) ∈ flG ∨ (Cond.not (Cond.eq (tmS j) (tmS 0))) ∈ flG := by decide +kernel
theorem sg_ne1 : ∀ j, j < 1 → (Cond.not (Cond.eq (tmS 1) (tmS j))) ∈ flG ∨ (Cond.not (Cond.eq (tmS j) (tmS 1))) ∈ flG := by decide +kernel
theorem sg_ne2 : ∀ j, j < 2 → (Cond.not (Cond.eq (tmS 2) (tmS j))) ∈ flG ∨ (Cond.not (Cond.eq (tmS j) (tmS 2))) ∈ flG := by decide +kernel
theorem sg_ne3 : ∀ j, j < 3 → (Cond.not (Cond.eq (tmS 3) (tmS j))) ∈ flG ∨ (Cond.not (Cond.eq (tmS j) (tmS 3))) ∈ flG := by decide +kernel
theorem sg_ne4 : ∀ j, j < 4 → (Cond.not (Cond.eq (tmS 4) (tmS j))) ∈ flG ∨ (Cond.not (Cond.eq (tmS j) (tmS 4))) ∈ flG := by decide +kernel
theorem sg_ne5 : ∀ j, j < 5 → (Cond.not (Cond.eq (tmS 5) (tmS j))) ∈ flG ∨ (Cond.not (Cond.eq (tmS j) (tmS 5))) ∈ flG := by decide +kernel
theorem sg_ne6 : ∀ j, j < 6 → (Cond.not (Cond.eq (tmS 6) (tmS j))) ∈ flG ∨ (Cond.not (Cond.eq (tmS j) (tmS 6))) ∈ flG := by decide +kernel
theorem sg_ne7 : ∀ j, j < 7 → (Cond.not (Cond.eq (tmS 7) (tmS j))) ∈ flG ∨ (Cond.not (Cond.eq (tmS j) (tmS 7))) ∈ flG := by decide +kernel
theorem sg_ne8 : ∀ j, j < 8 → (Cond.not (Cond.eq (tmS 8) (tmS j))) ∈ flG ∨ (Cond.not (Cond.eq (tmS j) (tmS 8))) ∈ flG := by decide +kernel
theorem sg_ne9 : ∀ j, j < 9 → (Cond.not (Cond.eq (tmS 9) (tmS j))) ∈ flG ∨ (Cond.not (Cond.eq (tmS j) (tmS 9))) ∈ flG := by decide +kernel
theorem sg_ne10 : ∀ j, j < 10 → (Cond.not (Cond.eq (tmS 10) (tmS j))) ∈ flG ∨ (Cond.not (Cond.eq (tmS j) (tmS 10))) ∈ flG := by decide +kernel
theorem sg_ne11 : ∀ j, j < 11 → (Cond.not (Cond.eq (tmS 11) (tmS j))) ∈ flG ∨ (Cond.not (Cond.eq (tmS j) (tmS 11))) ∈ flG := by decide +kernel
theorem sg_ne12 : ∀ j, j < 12 → (Cond.not (Cond.eq (tmS 12) (tmS j))) ∈ flG ∨ (Cond.not (Cond.eq (tmS j) (tmS 12))) ∈ flG := by decide +kernel
theorem sg_ne13 : ∀ j, j < 13 → (Cond.not (Cond.eq (tmS 13) (tmS j))) ∈ flG ∨ (Cond.not (Cond.eq (tmS j) (tmS 13))) ∈ flG := by decide +kernel
theorem sg_neL : ∀ i, i < 14 → ∀ j, j < i → (Cond.not (Cond.eq (tmS i) (tmS j))) ∈ flG ∨ (Cond.not (Cond.eq (tmS j) (tmS i))) ∈ flG := by
  intro i hi
  match i, hi with
  | 0, _ => exact sg_ne0
  | 1, _ => exact sg_ne1
  | 2, _ => exact sg_ne2
  | 3, _ => exact sg_ne3
  | 4, _ => exact sg_ne4
  | 5, _ => exact sg_ne5
  | 6, _ => exact sg_ne6
  | 7, _ => exact sg_ne7
  | 8, _ => exact sg_ne8
  | 9, _ => exact sg_ne9
  | 10, _ => exact sg_ne10
  | 11, _ => exact sg_ne11
  | 12, _ => exact sg_ne12
  | 13, _ => exact sg_ne13
  | i + 14, hi => omega
theorem sg_ne : ∀ i, i < 14 → ∀ j, j < 14 → i ≠ j → (Cond.not (Cond.eq (tmS i) (tmS j))) ∈ flG ∨ (Cond.not (Cond.eq (tmS j) (tmS i))) ∈ flG := by
  intro i hi j hj hij
  rcases Nat.lt_or_ge j i with h | h
  · exact sg_neL i hi j h
  · exact (sg_neL j hj i (by omega)).symm
theorem sg_ka : (Cond.arrayOf (.static "DrumOfGuilt$Kind" "KIND_ABOVE" "[I") .int) ∈ flG ∧ (Cond.eq (.length (.static "DrumOfGuilt$Kind" "KIND_ABOVE" "[I")) (.int (Int32.ofNat 6))) ∈ flG ∧ ∀ j, j < 6 → (Cond.eq (.elem (.static "DrumOfGuilt$Kind" "KIND_ABOVE" "[I") (.int (Int32.ofNat j))) (.int (zkab.getD j 0))) ∈ flG := by decide +kernel
theorem sg_cs : (Cond.eq (.static "java/lang/String" "COMPACT_STRINGS" "Z") (.int 1)) ∈ flG := by decide +kernel
theorem sg_fm : (Cond.isRef (.static "jdk/internal/util/Preconditions" "SIOOBE_FORMATTER" "Ljava/util/function/BiFunction;")) ∈ flG := by decide +kernel
theorem sg_nest : ∀ q ∈ zNest, (Cond.methodLinkNest q.1 q.2.1 q.2.2.1 q.2.2.2) ∈ tables_1 := by decide +kernel
theorem sg_str : ∀ q ∈ zStr, (Cond.stringRef q.1 q.2.1 q.2.2.1) ∈ tables_1 ∧ q.2.2.2 < 14 ∧ tmS q.2.2.2 = .string q.1 q.2.1 := by decide +kernel
theorem sg_over : (Cond.arrayOver (.object "DrumOfGuilt$Law")) ∈ tables_1 ∧ (Cond.arrayOver (.object "DrumOfGuilt$Sheet")) ∈ tables_1 ∧ (Cond.arrayClass .int) ∈ tables_1 := by decide +kernel
theorem sg_lay : (Cond.laysStatic "DrumOfGuilt$Kind" "KIND_ABOVE" "[I") ∈ tables_1 ∧ (Cond.laysStatic "java/lang/String" "COMPACT_STRINGS" "Z") ∈ tables_1 ∧ (Cond.laysStatic "jdk/internal/util/Preconditions" "SIOOBE_FORMATTER" "Ljava/util/function/BiFunction;") ∈ tables_1 ∧ (Cond.initialized "DrumOfGuilt$Kind") ∈ tables_1 ∧ (Cond.initialized "java/lang/String") ∈ tables_1 ∧ (Cond.initialized "jdk/internal/util/Preconditions") ∈ tables_1 := by decide +kernel
