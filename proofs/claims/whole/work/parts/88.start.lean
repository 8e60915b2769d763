/-! THE START: what the law's entry gives -/
def ccL : List Cond := flatC (Jvm.Cond.and given_1 narrow_1)
def tmR (i : Nat) : Term := .string "LostBeforeSung$Reader" ([88, 90, 92, 94, 96, 98, 100, 102, 104, 106].getD i 0)
def tmM (i : Nat) : Term := .string "LostBeforeSungModel" ([214, 224, 226, 230, 232, 236, 238, 242, 244, 245].getD i 0)
def pE (i : Nat) : Nat := [9, 19, 28, 37, 47, 61, 74, 88, 104, 120].getD i 0
def pM (i : Nat) : Nat := [147, 166, 185, 205, 229, 252, 276, 302, 328, 355].getD i 0
def pS (i : Nat) : Nat := 116 + [408, 409, 410, 411, 412, 413, 414, 415, 416, 417, 1165, 1188, 1189, 1194, 1195, 1200, 1201, 1206, 1207, 1208].getD i 0
def litD (i : Nat) : String × Nat × String := litT.getD i ("", 0, "")
set_option maxRecDepth 100000 in
theorem fs_E : ∀ i, i < 10 → ccL[pE i]? = some (Cond.exactly (tmR i) "java/lang/String") := by decide +kernel
set_option maxRecDepth 100000 in
theorem fs_C : ∀ i, i < 10 → ccL[pE i + 1]? = some (Cond.eq (.field (tmR i) "java/lang/String" "coder" "B") (.int 0)) := by decide +kernel
set_option maxRecDepth 100000 in
theorem fs_A : ∀ i, i < 10 → ccL[pE i + 2]? = some (Cond.arrayOf (.field (tmR i) "java/lang/String" "value" "[B") .byte) := by decide +kernel
set_option maxRecDepth 100000 in
theorem fs_Z : ∀ i, i < 10 → ccL[pE i + 3]? = some (Cond.eq (.length (.field (tmR i) "java/lang/String" "value" "[B")) (.int (Int32.ofNat ((litB.map List.length).getD i 0)))) := by decide +kernel
set_option maxRecDepth 100000 in
theorem fs_L : ∀ i, i < 10 → ∀ j, j < (litB.map List.length).getD i 0 → ccL[pE i + 4 + j]? = some (Cond.eq (.elem (.field (tmR i) "java/lang/String" "value" "[B") (.int (Int32.ofNat j))) (.int ((litB.getD i []).getD j 0))) := by decide +kernel
set_option maxRecDepth 100000 in
theorem fs_N : ∀ i, i < 10 → ∀ j, j < 10 → j < i → ccL[pE i + 4 + (litB.map List.length).getD i 0 + j]? = some (Cond.not (Cond.eq (tmR j) (tmR i))) := by decide +kernel
set_option maxRecDepth 100000 in
theorem fs_M : ∀ i, i < 10 → ccL[pM i]? = some (Cond.eq (tmR i) (tmM i)) := by decide +kernel
set_option maxRecDepth 100000 in
theorem fs_S : ∀ i, i < 20 → lw_tbl[pS i]? = some (Cond.stringRef (litD i).1 (litD i).2.1 (litD i).2.2) := by decide +kernel
theorem fs_R : ∀ i, i < 10 → (litD i).1 = "LostBeforeSung$Reader" ∧ (litD i).2.1 = [88, 90, 92, 94, 96, 98, 100, 102, 104, 106].getD i 0 := by decide
theorem fs_Q : ∀ i, i < 10 → (litD (10 + i)).1 = "LostBeforeSungModel" ∧ (litD (10 + i)).2.1 = [214, 224, 226, 230, 232, 236, 238, 242, 244, 245].getD i 0 := by decide
theorem fs_len : ∀ i, i < 10 → (litB.map List.length).getD i 0 < 2 ^ 31 := by decide
set_option maxRecDepth 100000 in
theorem fs_1 : ccL[4]? = some (Cond.eq (.static "java/lang/String" "COMPACT_STRINGS" "Z") (.int 1)) ∧ ccL[5]? = some (Cond.isRef (.static "jdk/internal/util/Preconditions" "SIOOBE_FORMATTER" "Ljava/util/function/BiFunction;")) := by decide +kernel
theorem eq_other {args : Array Value} {s : State} {a b : Term} {y : Nat} (h : (Cond.eq a b).before args s = true) (ha : a.eval args s none [] s = some (.ref y)) : b.eval args s none [] s = some (.ref y) := by
  simp only [Cond.before, Cond.holds, Cond.value, ha] at h
  cases hb : b.eval args s none [] s with
  | none => simp [hb] at h
  | some x => cases x <;> simp [hb] at h ⊢ <;> exact h.symm
