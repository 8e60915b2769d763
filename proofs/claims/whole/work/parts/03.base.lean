/-! THE HEAP IN THOUGHT: the cells from a base on, by their numbers; what is fixed for the whole run -/
/-- base; class ids; slots; the ids of int[], long[], Shelf[], long[][]; the script: address, length, ints; the literals' addresses, their bytes' addresses -/
abbrev ZZ : Type := Nat × ((Nat → ClassId) × (Nat → Nat → Nat)) × (ClassId × ClassId × ClassId × ClassId) × (Nat × Nat × (Nat → Int32)) × ((Nat → Nat) × (Nat → Nat))
def zb (Z : ZZ) : Nat := Z.1
def zD (Z : ZZ) : va_G := Z.2.1
def zcI (Z : ZZ) : ClassId := Z.2.2.1.1
def zcJ (Z : ZZ) : ClassId := Z.2.2.1.2.1
def zcS (Z : ZZ) : ClassId := Z.2.2.1.2.2.1
def zcQ (Z : ZZ) : ClassId := Z.2.2.1.2.2.2
def zsc (Z : ZZ) : Nat := Z.2.2.2.1.1
def zL (Z : ZZ) : Nat := Z.2.2.2.1.2.1
def zX (Z : ZZ) : Nat → Int32 := Z.2.2.2.1.2.2
def zK (Z : ZZ) : Nat → Nat := Z.2.2.2.2.1
def zV (Z : ZZ) : Nat → Nat := Z.2.2.2.2.2
def zA (Z : ZZ) : Nat → Prop := fun q => zb Z ≤ q
/-- how many cells, how many slots; the kind of each and its length; references, ints, longs -/
abbrev HP : Type := Nat × Nat × (Nat → Nat × Nat) × (Nat → Nat → Option Nat) × (Nat → Nat → Int32) × (Nat → Nat → Int64)
def hN (h : HP) : Nat := h.1
def hL (h : HP) : Nat := h.2.1
def hS (h : HP) : Nat → Nat × Nat := h.2.2.1
def hR (h : HP) : Nat → Nat → Option Nat := h.2.2.2.1
def hI (h : HP) : Nat → Nat → Int32 := h.2.2.2.2.1
def hJ (h : HP) : Nat → Nat → Int64 := h.2.2.2.2.2
def upA {α : Type} (f : Nat → α) (a : Nat) (g : α) : Nat → α := fun q => if q = a then g else f q
theorem upA_s {α : Type} (f : Nat → α) (a : Nat) (g : α) : upA f a g a = g := if_pos rfl
theorem upA_n {α : Type} (f : Nat → α) {a b : Nat} (g : α) (h : b ≠ a) : upA f a g b = f b := if_neg h
/-- the cell a's ints are g; its longs; its references; a new cell -/
def wI (h : HP) (a : Nat) (g : Nat → Int32) : HP := (h.1, h.2.1, h.2.2.1, h.2.2.2.1, upA h.2.2.2.2.1 a g, h.2.2.2.2.2)
def wJ (h : HP) (a : Nat) (g : Nat → Int64) : HP := (h.1, h.2.1, h.2.2.1, h.2.2.2.1, h.2.2.2.2.1, upA h.2.2.2.2.2 a g)
def wR (h : HP) (a : Nat) (g : Nat → Option Nat) : HP := (h.1, h.2.1, h.2.2.1, upA h.2.2.2.1 a g, h.2.2.2.2.1, h.2.2.2.2.2)
def nw (h : HP) (t n sl : Nat) : HP := (h.1 + 1, h.2.1 + sl, upA h.2.2.1 h.1 (t, n), upA h.2.2.2.1 h.1 (fun _ => none), upA h.2.2.2.2.1 h.1 (fun _ => 0), upA h.2.2.2.2.2 h.1 (fun _ => 0))
/-- which fields are references -/
def rfT : List (List Bool) := [[false, false, false, false, false, false, true, true, true, true, true, true, true, true, true, true], [true, true], [true, true, false, false, false, false, false], [false, false, true], [true, true, false], [true, true, true, true, true, true, true, true, false], [true, true, true, true, true, true, true, false, true, false, false, false, false, false, true, true, true, true, true, true, true, true, true, true, false, true, true, true, false, false, false, false, false, true, false, true, false, true, true, true, true]]
def isrf (c k : Nat) : Bool := (rfT.getD c []).getD k false
def nfl (c : Nat) : Nat := [16, 2, 7, 3, 3, 9, 41].getD c 0
def rfv (Z : ZZ) (o : Option Nat) : Value := va_rf (o.map (zb Z + ·))
def fvl (Z : ZZ) (h : HP) (a c k : Nat) : Value := if isrf c k = true then rfv Z (hR h a k) else .int (hI h a k)
def ent (Z : ZZ) (h : HP) (a : Nat) : va_E :=
  if (hS h a).1 < 7 then .inr ((hS h a).1, (List.range (nfl (hS h a).1)).map (fvl Z h a (hS h a).1))
  else if (hS h a).1 = 7 then .inl (zcI Z, (hS h a).2, .inl (hI h a))
  else if (hS h a).1 = 8 then .inl (zcJ Z, (hS h a).2, .inr (.inl (hJ h a)))
  else if (hS h a).1 = 9 then .inl (zcS Z, (hS h a).2, .inr (.inr (.inr (.inr (fun i => (hR h a i).map (zb Z + ·))))))
  else .inl (zcQ Z, (hS h a).2, .inr (.inr (.inr (.inr (fun i => (hR h a i).map (zb Z + ·))))))
def wsO (Z : ZZ) (h : HP) : va_W := (List.range (hN h)).map (fun k => (zb Z + k, ent Z h k))
theorem wsO_get (Z : ZZ) (h : HP) {a : Nat} (ha : a < hN h) : (wsO Z h)[a]? = some (zb Z + a, ent Z h a) := by
  simp [wsO, List.getElem?_range ha]
theorem wsO_len (Z : ZZ) (h : HP) : (wsO Z h).length = hN h := by simp [wsO]
theorem wsO_lt {Z : ZZ} {h : HP} {k : Nat} {q : Nat × va_E} (hk : (wsO Z h)[k]? = some q) : k < hN h ∧ q = (zb Z + k, ent Z h k) := by
  have hl : k < hN h := by rw [← wsO_len Z h]; exact (List.getElem?_eq_some_iff.mp hk).1
  exact ⟨hl, by rw [wsO_get Z h hl] at hk; exact (Option.some.inj hk).symm⟩
theorem wsO_D (Z : ZZ) (h : HP) : va_D (zA Z) (wsO Z h) := by
  refine ⟨fun i j p q hi hj e => ?_, fun k q hk => ?_⟩
  · obtain ⟨-, rfl⟩ := wsO_lt hi
    obtain ⟨-, rfl⟩ := wsO_lt hj
    simpa using e
  · obtain ⟨-, rfl⟩ := wsO_lt hk
    exact Nat.le_add_right _ _
/-- one cell is another: the others as they were -/
theorem wsO_set {Z : ZZ} {h h' : HP} {a : Nat} {e : va_E} (hn : hN h' = hN h) (he : ent Z h' a = e) (ho : ∀ k, k ≠ a → ent Z h' k = ent Z h k) : (wsO Z h).set a (zb Z + a, e) = wsO Z h' := by
  subst he
  refine List.ext_getElem? fun k => ?_
  by_cases hk : k < hN h
  · rw [wsO_get Z h' (by omega)]
    by_cases e : a = k
    · subst e
      rw [List.getElem?_set_self (by rw [wsO_len]; exact hk)]
    · rw [List.getElem?_set_ne e, wsO_get Z h hk, ho k (Ne.symm e)]
  · rw [List.getElem?_eq_none (by rw [List.length_set, wsO_len]; omega), List.getElem?_eq_none (by rw [wsO_len]; omega)]
/-- a cell more -/
theorem wsO_push {Z : ZZ} {h h' : HP} {e : va_E} (hn : hN h' = hN h + 1) (he : ent Z h' (hN h) = e) (ho : ∀ k, k < hN h → ent Z h' k = ent Z h k) : wsO Z h ++ [(zb Z + hN h, e)] = wsO Z h' := by
  subst he
  unfold wsO
  rw [hn, List.range_succ, List.map_append]
  congr 1
  refine List.map_congr_left fun k hk => ?_
  rw [ho k (List.mem_range.mp hk)]
theorem map_range_set {α : Type} (f : Nat → α) (n j : Nat) (v : α) : ((List.range n).map f).set j v = (List.range n).map (fun k => if k = j then v else f k) := by
  refine List.ext_getElem? fun k => ?_
  by_cases hk : k < n
  · by_cases e : j = k
    · subst e
      rw [List.getElem?_set_self (by simp; exact hk)]
      simp [hk]
    · rw [List.getElem?_set_ne e]
      simp [hk, Ne.symm e]
  · rw [List.getElem?_eq_none (by simp; omega), List.getElem?_eq_none (by simp; omega)]
theorem ent_wI_n {Z : ZZ} {h : HP} {a : Nat} {g : Nat → Int32} {k : Nat} (hk : k ≠ a) : ent Z (wI h a g) k = ent Z h k := by
  have e : hI (wI h a g) k = hI h k := upA_n _ _ hk
  unfold ent
  simp only [show hS (wI h a g) = hS h from rfl, e, show hR (wI h a g) = hR h from rfl, show hJ (wI h a g) = hJ h from rfl]
  have ef : ∀ c, fvl Z (wI h a g) k c = fvl Z h k c := fun c => funext fun j => by unfold fvl; rw [e]; rfl
  rw [ef]
theorem ent_wJ_n {Z : ZZ} {h : HP} {a : Nat} {g : Nat → Int64} {k : Nat} (hk : k ≠ a) : ent Z (wJ h a g) k = ent Z h k := by
  have e : hJ (wJ h a g) k = hJ h k := upA_n _ _ hk
  unfold ent
  simp only [show hS (wJ h a g) = hS h from rfl, e, show hR (wJ h a g) = hR h from rfl, show hI (wJ h a g) = hI h from rfl]
  rfl
theorem ent_wR_n {Z : ZZ} {h : HP} {a : Nat} {g : Nat → Option Nat} {k : Nat} (hk : k ≠ a) : ent Z (wR h a g) k = ent Z h k := by
  have e : hR (wR h a g) k = hR h k := upA_n _ _ hk
  unfold ent
  simp only [show hS (wR h a g) = hS h from rfl, e, show hI (wR h a g) = hI h from rfl, show hJ (wR h a g) = hJ h from rfl]
  have ef : ∀ c, fvl Z (wR h a g) k c = fvl Z h k c := fun c => funext fun j => by unfold fvl; rw [e]; rfl
  rw [ef]
theorem ent_nw_n {Z : ZZ} {h : HP} {t n sl : Nat} {k : Nat} (hk : k < hN h) : ent Z (nw h t n sl) k = ent Z h k := by
  have hne : k ≠ h.1 := Nat.ne_of_lt hk
  have e1 : hS (nw h t n sl) k = hS h k := upA_n _ _ hne
  have e2 : hR (nw h t n sl) k = hR h k := upA_n _ _ hne
  have e3 : hI (nw h t n sl) k = hI h k := upA_n _ _ hne
  have e4 : hJ (nw h t n sl) k = hJ h k := upA_n _ _ hne
  unfold ent
  have ef : ∀ c, fvl Z (nw h t n sl) k c = fvl Z h k c := fun c => funext fun j => by unfold fvl; rw [e2, e3]
  rw [e1, e2, e3, e4, ef]
theorem ent_obj {Z : ZZ} {h : HP} {a c : Nat} (hc : (hS h a).1 = c) (h7 : c < 7) : ent Z h a = .inr (c, (List.range (nfl c)).map (fvl Z h a c)) := by
  subst hc; unfold ent; rw [if_pos h7]
theorem ent_int {Z : ZZ} {h : HP} {a : Nat} (hc : (hS h a).1 = 7) : ent Z h a = .inl (zcI Z, (hS h a).2, .inl (hI h a)) := by
  unfold ent; rw [hc, if_neg (by decide), if_pos rfl]
theorem ent_long {Z : ZZ} {h : HP} {a : Nat} (hc : (hS h a).1 = 8) : ent Z h a = .inl (zcJ Z, (hS h a).2, .inr (.inl (hJ h a))) := by
  unfold ent; rw [hc, if_neg (by decide), if_neg (by decide), if_pos rfl]
theorem ent_shf {Z : ZZ} {h : HP} {a : Nat} (hc : (hS h a).1 = 9) : ent Z h a = .inl (zcS Z, (hS h a).2, .inr (.inr (.inr (.inr (fun i => (hR h a i).map (zb Z + ·)))))) := by
  unfold ent; rw [hc, if_neg (by decide), if_neg (by decide), if_neg (by decide), if_pos rfl]
theorem ent_rows {Z : ZZ} {h : HP} {a : Nat} (hc : (hS h a).1 = 10) : ent Z h a = .inl (zcQ Z, (hS h a).2, .inr (.inr (.inr (.inr (fun i => (hR h a i).map (zb Z + ·)))))) := by
  unfold ent; rw [hc, if_neg (by decide), if_neg (by decide), if_neg (by decide), if_neg (by decide)]
/-- the heap holds what is in thought -/
def Rl (Z : ZZ) (h : HP) (H : Heap) : Prop := va_P (zD Z) vwCl (wsO Z h) H ∧ H.size = zb Z + hN h
/-! what a run's state gives besides: the tables' words, the classes, the literals, the script -/
def nestW : Cond → Bool
  | .fieldLinkNest .. => true
  | .methodLinkNest .. => true
  | _ => false
def EW (U : State) : Prop := ∀ w ∈ lw_tbl, (goodWord w = true ∨ nestW w = true) → w.before #[] U = true
theorem EW.warm {s U : State} (hW : s.WarmedH U.vm) (h : EW s) : EW U := by
  intro w hw hg
  rcases hg with hg | hg
  · exact word_at hW (good_of_word hg) (h w hw (Or.inl hg))
  · cases w with
    | fieldLinkNest => exact va_Nw.warmF hW (h _ hw (Or.inr hg))
    | methodLinkNest => exact va_Nw.warmM hW (h _ hw (Or.inr hg))
    | _ => cases hg
theorem EW.use {s : State} {args : Array Value} {w : Cond} (h : EW s) (hw : w ∈ lw_tbl) (hg : goodWord w = true) : w.before args s = true :=
  word_at (State.WarmedH.refl s) (good_of_word hg) (h w hw (Or.inl hg))
theorem EW.nest {s : State} {args : Array Value} {w : Cond} (h : EW s) (hw : w ∈ lw_tbl) (hg : nestW w = true) : w.before args s = true := by
  cases w with
  | fieldLinkNest => exact va_Nw.use rfl (h _ hw (Or.inr hg))
  | methodLinkNest => exact va_Nw.use rfl (h _ hw (Or.inr hg))
  | _ => cases hg
def zT (Z : ZZ) : List (ClassId × FieldType) := [(zcI Z, .int), (zcJ Z, .long), (zcS Z, .object "LostBeforeSung$Shelf"), (zcQ Z, .array .long)]
/-- the literals: class, entry, text, by their places -/
def litT : List (String × Nat × String) := [("LostBeforeSung$Reader", 88, "person"), ("LostBeforeSung$Reader", 90, "song"), ("LostBeforeSung$Reader", 92, "has"), ("LostBeforeSung$Reader", 94, "not"), ("LostBeforeSung$Reader", 96, "beside"), ("LostBeforeSung$Reader", 98, "away"), ("LostBeforeSung$Reader", 100, "hums"), ("LostBeforeSung$Reader", 102, "still"), ("LostBeforeSung$Reader", 104, "work"), ("LostBeforeSung$Reader", 106, "year"), ("LostBeforeSungModel", 214, "person"), ("LostBeforeSungModel", 224, "song"), ("LostBeforeSungModel", 226, "has"), ("LostBeforeSungModel", 230, "not"), ("LostBeforeSungModel", 232, "beside"), ("LostBeforeSungModel", 236, "away"), ("LostBeforeSungModel", 238, "hums"), ("LostBeforeSungModel", 242, "still"), ("LostBeforeSungModel", 244, "work"), ("LostBeforeSungModel", 245, "year")]
def litB : List (List Int32) := [[112, 101, 114, 115, 111, 110], [115, 111, 110, 103], [104, 97, 115], [110, 111, 116], [98, 101, 115, 105, 100, 101], [97, 119, 97, 121], [104, 117, 109, 115], [115, 116, 105, 108, 108], [119, 111, 114, 107], [121, 101, 97, 114]]
def AOQ (U : State) : Prop := (Cond.arrayOver (.array .long)).before #[] U = true
def EF (Z : ZZ) (U : State) : Prop := EW U ∧ va_K (zD Z) vwCl (zT Z) U ∧ va_AO "LostBeforeSung$Shelf" U ∧ AOQ U ∧
  (∀ (i : Nat) (q : String × Nat × String), litT[i]? = some q → vk_R q.1 q.2.1 q.2.2 (zK Z (i % 10)) U) ∧
  vk_S 10 (litB.map List.length) litB (zK Z) (zV Z) (zA Z) U U.heap ∧ va_X (zsc Z) (zL Z) (zX Z) U U.heap ∧ ¬ zA Z (zsc Z) ∧ zsc Z < U.heap.size ∧ zL Z ≤ 3072 ∧
  va_Z "java/lang/String" "COMPACT_STRINGS" "Z" (.int 1) (zA Z) U U.heap ∧ va_Zq "jdk/internal/util/Preconditions" "SIOOBE_FORMATTER" "Ljava/util/function/BiFunction;" (zA Z) U U.heap
