/-! STATEMENTS IN THOUGHT -/
def litL (f : Nat) : Nat := (litB.getD f []).length
def litC (f i : Nat) : Int32 := (litB.getD f []).getD i 0
def splB (T : Nat → Nat) (n e f : Nat) : Bool := decide (tK T n e = 1 ∧ tE T n e - tS T n e = litL f ∧ ∀ i, i < litL f → nI (T (tS T n e + i)) = litC f i)
def frm (T : Nat → Nat) (n e : Nat) : Nat := fstN (splB T n e) 10
def lmN (x : St) (f i : Nat) : Nat := if f = 0 then (if i = 0 then 6 else 10) else if f = 1 then (if i = 0 then 10 else 5) else if f = 2 ∨ f = 3 then (if i = 0 then sP x else sS x) else if f = 8 then 10 else if f = 9 then 1000 else sP x
def wnt (f : Nat) : Nat := if f = 0 then 4 else if f < 6 then 2 else 1
def rmB (x : St) (f : Nat) : Bool := decide ((f ≠ 0 ∨ sP x < 8) ∧ (f ≠ 1 ∨ sS x < 6))
/-- where the search for the k-th number begins; the number -/
def psN (T : Nat → Nat) (n e : Nat) : Nat → Nat
  | 0 => tE T n e
  | k + 1 => tE T n (psN T n e k)
def gvN (T : Nat → Nat) (n e k : Nat) : Nat := tN T n (psN T n e k)
def okN (T : Nat → Nat) (n : Nat) (x : St) (f e k : Nat) : Bool := decide (tK T n (psN T n e k) = 2 ∧ gvN T n e k < lmN x f k ∧ ¬ ((f = 4 ∨ f = 5) ∧ k = 1 ∧ gvN T n e 1 = gvN T n e 0))
def apS (x : St) (f : Nat) (g : Nat → Nat) : St :=
  if f = 0 then addP x (g 0) (g 1) (g 2) (g 3) else if f = 1 then addS x (g 0) (g 1) else if f = 2 then uA x 9 (g 0 * 6 + g 1) 1 else if f = 3 then uA x 9 (g 0 * 6 + g 1) 0
  else if f = 4 then besS x (g 0) (g 1) true else if f = 5 then besS x (g 0) (g 1) false else if f = 6 then uV x 5 (wb (sV x 5) (g 0) true) else if f = 7 then uV x 5 (wb (sV x 5) (g 0) false) else if f = 8 then uV x 2 (g 0) else uV x 3 (g 0)
/-- a statement: where it fails, or what is so then and where it ends -/
def stR (T : Nat → Nat) (n : Nat) (x : St) (e : Nat) : Nat ⊕ (St × Nat) :=
  if frm T n e < 10 ∧ rmB x (frm T n e) = true then
    (if fstN (fun k => !(okN T n x (frm T n e) e k)) (wnt (frm T n e)) < wnt (frm T n e) then .inl (tS T n (psN T n e (fstN (fun k => !(okN T n x (frm T n e) e k)) (wnt (frm T n e))))) else .inr (apS x (frm T n e) (gvN T n e), psN T n e (wnt (frm T n e))))
  else .inl (tS T n e)
theorem psN_le (T : Nat → Nat) {n e : Nat} (h : e ≤ n) : ∀ k, psN T n e k ≤ n ∧ tE T n e ≤ psN T n e k
  | 0 => ⟨(tE_spec T h).2.1, Nat.le_refl _⟩
  | k + 1 => by
    have ih := psN_le T h k
    have := tE_spec T ih.1
    have := tS_spec T ih.1
    exact ⟨by show tE T n (psN T n e k) ≤ n; omega, by show _ ≤ tE T n (psN T n e k); omega⟩
theorem tK_le (T : Nat → Nat) (n e : Nat) : tK T n e ≤ 4 := by
  unfold tK
  split
  · omega
  · split
    · omega
    · split
      · omega
      · split <;> omega
theorem litL_le : ∀ f, f < 10 → litL f ≤ 6 ∧ 0 < litL f := by decide
theorem sLen_ok {f : Nat} (hf : f < 10) : sLen f = some (nI (litL f)) := by unfold sLen; rw [if_pos hf]; rfl
theorem sAt_ok {f i : Nat} (hf : f < 10) (hi : i < litL f) : sAt f (nI i) = some (litC f i) := by
  have := litL_le f hf
  unfold sAt
  rw [if_pos ⟨hf, vpiN hi (by show litL f ≤ _; omega)⟩, tcN (by omega)]
  rfl
theorem lmN_le {x : St} (O : Ok x) (f i : Nat) : lmN x f i ≤ 1000 := by
  have h1 := O.1
  have h2 := O.2.1
  unfold lmN
  repeat' split
  all_goals omega
theorem Ok_apS {x : St} (O : Ok x) {f : Nat} {g : Nat → Nat} (hr : rmB x f = true) (hg : ∀ k, k < wnt f → g k < lmN x f k) : Ok (apS x f g) := by
  have hP := O.1
  have hS := O.2.1
  have hr2 := of_decide_eq_true hr
  have lm : ∀ k v, lmN x f k = v → k < wnt f → g k < v := fun k v e h => by rw [← e]; exact hg k h
  unfold apS
  by_cases q0 : f = 0
  · subst q0
    rw [if_pos rfl]
    exact Ok_addP O (by omega) (lm 0 6 rfl (by decide)) (lm 1 10 rfl (by decide)) (lm 2 10 rfl (by decide)) (lm 3 10 rfl (by decide))
  rw [if_neg q0]
  by_cases q1 : f = 1
  · subst q1
    rw [if_pos rfl]
    exact Ok_addS O (by omega) (lm 0 10 rfl (by decide)) (lm 1 5 rfl (by decide))
  rw [if_neg q1]
  by_cases q2 : f = 2
  · subst q2
    rw [if_pos rfl]
    exact Ok_held O (by decide)
  rw [if_neg q2]
  by_cases q3 : f = 3
  · subst q3
    rw [if_pos rfl]
    exact Ok_held O (by decide)
  rw [if_neg q3]
  by_cases q4 : f = 4
  · subst q4
    rw [if_pos rfl]
    have h0 := lm 0 _ rfl (by decide)
    have h1 := lm 1 _ rfl (by decide)
    exact Ok_besS O (Nat.lt_of_lt_of_le h0 hP) (Nat.lt_of_lt_of_le h1 hP) _
  rw [if_neg q4]
  by_cases q5 : f = 5
  · subst q5
    rw [if_pos rfl]
    have h0 := lm 0 _ rfl (by decide)
    have h1 := lm 1 _ rfl (by decide)
    exact Ok_besS O (Nat.lt_of_lt_of_le h0 hP) (Nat.lt_of_lt_of_le h1 hP) _
  rw [if_neg q5]
  by_cases q6 : f = 6
  · subst q6
    rw [if_pos rfl]
    have h0 := lm 0 _ rfl (by decide)
    exact Ok_uV O (fun q => by cases q) (fun q => by cases q) (fun _ => wb_lt O.2.2.2.2.1 (Nat.lt_of_lt_of_le h0 hP) _)
  rw [if_neg q6]
  by_cases q7 : f = 7
  · subst q7
    rw [if_pos rfl]
    have h0 := lm 0 _ rfl (by decide)
    exact Ok_uV O (fun q => by cases q) (fun q => by cases q) (fun _ => wb_lt O.2.2.2.2.1 (Nat.lt_of_lt_of_le h0 hP) _)
  rw [if_neg q7]
  have w1 : wnt f = 1 := by unfold wnt; rw [if_neg q0, if_neg (by omega)]
  by_cases q8 : f = 8
  · subst q8
    rw [if_pos rfl]
    exact Ok_uV O (fun _ => lm 0 10 rfl (by decide)) (fun q => by cases q) (fun q => by cases q)
  rw [if_neg q8]
  have hq := hg 0 (by omega)
  have hl := lmN_le O f 0
  exact Ok_uV O (fun q => by cases q) (fun _ => by omega) (fun q => by cases q)
/-! THE READER'S STATEMENTS -/
def RS (h : HP) (r : Nat) (T : Nat → Nat) (n e : Nat) : Prop := RdI h r ∧ TpI h (r + 1) T n ∧ hI h r 2 = nI n ∧ LkI h r T n e
theorem Fr.RS {b k r n e : Nat} {T : Nat → Nat} {h h' : HP} (f : Fr b k h h') (hd : r + 2 ≤ b ∨ b + k ≤ r) (H : RS h r T n e) : RS h' r T n e := by
  obtain ⟨H1, H2, H3, H4, H5, H6, H7⟩ := H
  have e0 : hI h' r = hI h r := f.2.2.2.2.2 r (by omega)
  exact ⟨f.Rd H1, f.Tp (by omega) H2, by rw [e0]; exact H3, by rw [e0]; exact H4, by rw [e0]; exact H5, by rw [e0]; exact H6, fun q => by rw [e0]; exact H7 q⟩
section READ2
variable {h : HP} {a r n e : Nat} {T : Nat → Nat} {x : St}
theorem s_adv2 (H : RS h r T n e) (he : e ≤ n) : Ret (f_X2_advance r h) () (fun h' => Fr r 1 h h' ∧ RS h' r T n (tE T n e)) :=
  (s_adv H.1 H.2.1 H.2.2.1 H.2.2.2.2.2.1 (tE_spec T he).2.1).mono fun h' ⟨F, c2, L⟩ => ⟨F, F.Rd H.1, F.Tp (by omega) H.2.1, c2, L⟩
theorem s_spells (H : RS h r T n e) (he : e ≤ n) {f : Nat} (hf : f < 10) : f_X2_spells r f h = some (if splB T n e f = true then 1 else 0, h) := by
  obtain ⟨HR, HT, h2, h3, h5, h6, h4⟩ := H
  have hn := HT.1
  have hs := tS_spec T he
  have hE := tE_spec T he
  have hl := litL_le f hf
  have hk := tK_le T n e
  suffices h' : Ret (f_X2_spells r f h) (if splB T n e f = true then 1 else 0) (fun q => q = h) by
    obtain ⟨q, e, rfl⟩ := h'
    exact e
  have no : ¬ splB T n e f = true → Ret (rZ 0 h) (if splB T n e f = true then 1 else 0) (fun q => q = h) := fun q => by
    rw [if_neg q]
    exact Ret.rz0 rfl
  unfold f_X2_spells
  rw [gI_ok HR.1, bd_ok, h3, gI_ok HR.1, bd_ok, h6, gI_ok HR.1, bd_ok, h5, sLen_ok hf, bd_ok, pk_sub hE.1]
  by_cases q1 : tK T n e = 1
  · rw [if_pos (show nI (tK T n e) = 1 by rw [q1]; rfl)]
    by_cases q2 : tE T n e - tS T n e = litL f
    · rw [if_pos (congrArg nI q2)]
      refine Ret.loop (lp := lp_X2_spells_28 r f _) (fun i q => q = h ∧ ∀ j, j < i → nI (T (tS T n e + j)) = litC f j) (litL f) (by omega) ⟨rfl, fun j hj => absurd hj (by omega)⟩ ?_ ?_
      · rintro k i q hi ⟨rfl, hr⟩ kk
        have l1 := HR.l HT (i := tS T n e + i) (by omega)
        show Ret (lb_X2_spells_28 r f _ _ _ _) _ _
        unfold lb_X2_spells_28
        rw [sLen_ok hf, bd_ok, iN hi (by omega), HR.t, bd_ok, gI_ok HR.1, bd_ok, h5, nI_add, l1, bd_ok, sAt_ok hf hi, bd_ok, nI1 i]
        by_cases q3 : nI (T (tS T n e + i)) = litC f i
        · rw [if_pos q3]
          refine kk _ ⟨rfl, fun j hj => ?_⟩
          by_cases e : j = i
          · rw [e]; exact q3
          · exact hr j (by omega)
        · rw [if_neg q3]
          exact no (fun g => q3 ((of_decide_eq_true g).2.2 i hi))
      · rintro k q ⟨rfl, hr⟩
        show Ret (lb_X2_spells_28 r f _ _ _ _) _ _
        unfold lb_X2_spells_28
        rw [sLen_ok hf, bd_ok, iY (by omega), if_pos (show splB T n e f = true from decide_eq_true ⟨q1, q2, hr⟩)]
        exact Ret.rz1 rfl
    · rw [if_neg (by rw [nIe (by omega) (by omega)]; exact q2)]
      exact no (fun g => q2 (of_decide_eq_true g).2.1)
  · rw [if_neg (show ¬ nI (tK T n e) = 1 from eqN q1 (by decide) (by omega))]
    exact no (fun g => q1 (of_decide_eq_true g).1)
theorem s_wordOf : ∀ f, f < 10 → f_X2_wordOf (nI f) h = some (f, h) := by
  intro f hf
  have c : ∀ m, m < 10 → ((nI f = nI m) ↔ f = m) := fun m hm => nIe (by omega) (by omega)
  have c0 : (nI f = 0) ↔ f = 0 := c 0 (by decide)
  have c1 : (nI f = 1) ↔ f = 1 := c 1 (by decide)
  have c2 : (nI f = 2) ↔ f = 2 := c 2 (by decide)
  have c3 : (nI f = 3) ↔ f = 3 := c 3 (by decide)
  have c4 : (nI f = 4) ↔ f = 4 := c 4 (by decide)
  have c5 : (nI f = 5) ↔ f = 5 := c 5 (by decide)
  have c6 : (nI f = 6) ↔ f = 6 := c 6 (by decide)
  have c7 : (nI f = 7) ↔ f = 7 := c 7 (by decide)
  have c8 : (nI f = 8) ↔ f = 8 := c 8 (by decide)
  unfold f_X2_wordOf
  simp only [c0, c1, c2, c3, c4, c5, c6, c7, c8]
  repeat' split
  all_goals (congr 2; omega)
theorem s_form (H : RS h r T n e) (he : e ≤ n) : f_X2_formOfWord r h = some (fstI (splB T n e) 10, h) := by
  suffices h' : Ret (f_X2_formOfWord r h) (fstI (splB T n e) 10) (fun q => q = h) by
    obtain ⟨q, e, rfl⟩ := h'
    exact e
  refine Ret.loop (lp := lp_X2_formOfWord_2 r _) (fun i q => q = h ∧ ∀ j, j < i → ¬ splB T n e j = true) 10 (by decide) ⟨rfl, fun j hj => absurd hj (by omega)⟩ ?_ ?_
  · rintro k i q hi ⟨rfl, hno⟩ kk
    show Ret (lb_X2_formOfWord_2 r _ _ _ _) _ _
    unfold lb_X2_formOfWord_2
    rw [if_neg (show ¬ (10 : Int32) ≤ nI i from leN (m := 10) hi (by decide)), s_wordOf i hi, ob_ok, inv_ok H.1.1, s_spells H he hi, ob_ok, nI1 i]
    by_cases g : splB T n e i = true
    · rw [if_pos g, if_neg (by decide), fstI_hit hi hno g]
      exact Ret.mk rfl
    · rw [if_neg g, if_pos rfl]
      refine kk _ ⟨rfl, fun j hj => ?_⟩
      by_cases e : j = i
      · rw [e]; exact g
      · exact hno j (by omega)
  · rintro k q ⟨rfl, hno⟩
    show Ret (lb_X2_formOfWord_2 r _ _ _ _) _ _
    unfold lb_X2_formOfWord_2
    rw [if_pos (show (10 : Int32) ≤ nI 10 by decide), fstI_miss hno]
    exact Ret.mk rfl
theorem f_room (HI : IsI h a) (O : Ok x) (V : VC h a x) {f : Nat} (hf : f < 10) : f_X2_hasRoom a (nI f) h = some (if rmB x f = true then 1 else 0, h) := by
  have hP := O.1
  have hS6 := O.2.1
  have c0 : (nI f = 0) ↔ f = 0 := nIe (b := 0) (by omega) (by decide)
  have c1 : (nI f = 1) ↔ f = 1 := nIe (b := 1) (by omega) (by decide)
  unfold f_X2_hasRoom rmB
  rw [gI_ok HI.1, bd_ok, V.p, gI_ok HI.1, bd_ok, V.s, rZ0, rZ1]
  by_cases q0 : f = 0
  · rw [if_pos (c0.mpr q0)]
    by_cases q : sP x < 8
    · rw [if_neg (show ¬ (8 : Int32) ≤ nI (sP x) from leN (m := 8) q (by decide)), if_pos (by simp [q, q0])]
    · rw [if_pos (show (8 : Int32) ≤ nI (sP x) from leY (m := 8) (by omega) (by omega)), if_neg (by simp [q, q0])]
  · rw [if_neg (fun e => q0 (c0.mp e))]
    by_cases q1 : f = 1
    · rw [if_pos (c1.mpr q1)]
      by_cases q : sS x < 6
      · rw [if_neg (show ¬ (6 : Int32) ≤ nI (sS x) from leN (m := 6) q (by decide)), if_pos (by simp [q, q1])]
      · rw [if_pos (show (6 : Int32) ≤ nI (sS x) from leY (m := 6) (by omega) (by omega)), if_neg (by simp [q, q1])]
    · rw [if_neg (fun e => q1 (c1.mp e)), if_pos (by simp [q0, q1])]
theorem f_wnt {f : Nat} (hf : f < 10) : f_X2_numbersOf (nI f) h = some (nI (wnt f), h) := by
  have c0 : (nI f = 0) ↔ f = 0 := nIe (b := 0) (by omega) (by decide)
  unfold f_X2_numbersOf wnt
  by_cases q0 : f = 0
  · rw [if_pos (c0.mpr q0), if_pos q0]; rfl
  · rw [if_neg (fun e => q0 (c0.mp e)), if_neg q0]
    by_cases q1 : f < 6
    · rw [if_pos (show nI f < 6 from ltY (b := 6) q1 (by decide)), if_pos q1]; rfl
    · rw [if_neg (show ¬ nI f < 6 from ltN (b := 6) (by omega) (by omega)), if_neg q1]; rfl
theorem f_lim (HI : IsI h a) (V : VC h a x) {f i : Nat} (hf : f < 10) (hi : i < 4) : f_X2_limitOf a (nI f) (nI i) h = some (nI (lmN x f i), h) := by
  have c : ∀ m, m < 10 → ((nI f = nI m) ↔ f = m) := fun m hm => nIe (by omega) (by omega)
  have c0 : (nI f = 0) ↔ f = 0 := c 0 (by decide)
  have c1 : (nI f = 1) ↔ f = 1 := c 1 (by decide)
  have c2 : (nI f = 2) ↔ f = 2 := c 2 (by decide)
  have c3 : (nI f = 3) ↔ f = 3 := c 3 (by decide)
  have c4 : (nI f = 4) ↔ f = 4 := c 4 (by decide)
  have c5 : (nI f = 5) ↔ f = 5 := c 5 (by decide)
  have c6 : (nI f = 6) ↔ f = 6 := c 6 (by decide)
  have c7 : (nI f = 7) ↔ f = 7 := c 7 (by decide)
  have c8 : (nI f = 8) ↔ f = 8 := c 8 (by decide)
  have c9 : (nI f = 9) ↔ f = 9 := c 9 (by decide)
  have d0 : (nI i = 0) ↔ i = 0 := nIe (b := 0) (by omega) (by decide)
  have p : gI 0 0 a h = some (nI (sP x)) := by rw [gI_ok HI.1, V.p]
  have s : gI 0 1 a h = some (nI (sS x)) := by rw [gI_ok HI.1, V.s]
  unfold f_X2_limitOf lmN
  simp only [c0, c1, c2, c3, c4, c5, c6, c7, c8, c9, d0, p, s, Option.bind_some]
  have hc : f = 0 ∨ f = 1 ∨ f = 2 ∨ f = 3 ∨ f = 4 ∨ f = 5 ∨ f = 6 ∨ f = 7 ∨ f = 8 ∨ f = 9 := by omega
  rcases hc with rfl | rfl | rfl | rfl | rfl | rfl | rfl | rfl | rfl | rfl <;> simp <;> (try (split <;> rfl)) <;> rfl
theorem s_apply (HR : RdI h r) (HI : IsI h a) (O : Ok x) (V : VC h a x) {f : Nat} (hf : f < 10) (hr : rmB x f = true) {g : Nat → Nat} (hg : ∀ k, k < wnt f → g k < lmN x f k) (hc : ∀ k, k < wnt f → hI h (r + 2) k = nI (g k)) : Ret (f_X2_apply r a (nI f) h) () (fun h' => Fr a 11 h h' ∧ VC h' a (apS x f g)) := by
  have hP := O.1
  have hS6 := O.2.1
  have hr2 := of_decide_eq_true hr
  have c : ∀ m, m < 10 → ((nI f = nI m) ↔ f = m) := fun m hm => nIe (by omega) (by omega)
  have c0 : (nI f = 0) ↔ f = 0 := c 0 (by decide)
  have c1 : (nI f = 1) ↔ f = 1 := c 1 (by decide)
  have c2 : (nI f = 2) ↔ f = 2 := c 2 (by decide)
  have c3 : (nI f = 3) ↔ f = 3 := c 3 (by decide)
  have c4 : (nI f = 4) ↔ f = 4 := c 4 (by decide)
  have c5 : (nI f = 5) ↔ f = 5 := c 5 (by decide)
  have c6 : (nI f = 6) ↔ f = 6 := c 6 (by decide)
  have c7 : (nI f = 7) ↔ f = 7 := c 7 (by decide)
  have c8 : (nI f = 8) ↔ f = 8 := c 8 (by decide)
  have l : ∀ k, k < wnt f → k < 4 → lI (r + 2) (nI k) h = some (nI (g k)) := fun k hk h4 => by rw [lI_ok HR.2.2.2.2 h4 (by decide), hc k hk]
  have unit : ∀ {o : Option (Unit × HP)} {y : St}, Ret o () (fun h' => Fr a 11 h h' ∧ VC h' a y) → Ret (ob (inv 0 a h o) fun _ h127 => some ((), h127)) () (fun h' => Fr a 11 h h' ∧ VC h' a y) := fun q => Ret.icall HI.1 q fun h' hq => Ret.mk hq
  unfold f_X2_apply
  simp only [c0, c1, c2, c3, c4, c5, c6, c7, c8, HR.g, Option.bind_some]
  unfold apS
  by_cases q0 : f = 0
  · subst q0
    have l0 : lI (r + 2) 0 h = some (nI (g 0)) := l 0 (by decide) (by decide)
    have l1 : lI (r + 2) 1 h = some (nI (g 1)) := l 1 (by decide) (by decide)
    have l2 : lI (r + 2) 2 h = some (nI (g 2)) := l 2 (by decide) (by decide)
    have l3 : lI (r + 2) 3 h = some (nI (g 3)) := l 3 (by decide) (by decide)
    rw [if_pos rfl, if_pos rfl, l0, bd_ok, l1, bd_ok, l2, bd_ok, l3, bd_ok]
    exact Ret.icall HI.1 (s_addP HI O V (by omega)) fun h' hq => Ret.mk hq
  rw [if_neg q0, if_neg q0]
  have l0 : lI (r + 2) 0 h = some (nI (g 0)) := l 0 (by unfold wnt; rw [if_neg q0]; split <;> omega) (by decide)
  have g0 := hg 0 (by unfold wnt; rw [if_neg q0]; split <;> omega)
  by_cases q1 : f = 1
  · subst q1
    have l1 : lI (r + 2) 1 h = some (nI (g 1)) := l 1 (by decide) (by decide)
    rw [if_pos rfl, if_pos rfl, l0, bd_ok, l1, bd_ok]
    exact Ret.icall HI.1 (s_addS HI O V (by omega)) fun h' hq => Ret.mk hq
  rw [if_neg q1, if_neg q1]
  by_cases q2 : f = 2
  · subst q2
    have l1 : lI (r + 2) 1 h = some (nI (g 1)) := l 1 (by decide) (by decide)
    rw [if_pos rfl, if_pos rfl, l0, bd_ok, l1, bd_ok, if_pos rfl]
    exact unit (s_setHeld (c := 1) HI O V g0 (hg 1 (by decide)))
  rw [if_neg q2, if_neg q2]
  by_cases q3 : f = 3
  · subst q3
    have l1 : lI (r + 2) 1 h = some (nI (g 1)) := l 1 (by decide) (by decide)
    rw [if_pos rfl, if_pos rfl, l0, bd_ok, l1, bd_ok, if_neg (by decide)]
    exact unit (s_setHeld (c := 0) HI O V g0 (hg 1 (by decide)))
  rw [if_neg q3, if_neg q3]
  by_cases q4 : f = 4
  · subst q4
    have l1 : lI (r + 2) 1 h = some (nI (g 1)) := l 1 (by decide) (by decide)
    rw [if_pos rfl, if_pos rfl, l0, bd_ok, l1, bd_ok, if_pos rfl]
    exact unit (s_setBeside HI O V (Nat.lt_of_lt_of_le g0 hP) (Nat.lt_of_lt_of_le (hg 1 (by decide)) hP) true)
  rw [if_neg q4, if_neg q4]
  by_cases q5 : f = 5
  · subst q5
    have l1 : lI (r + 2) 1 h = some (nI (g 1)) := l 1 (by decide) (by decide)
    rw [if_pos rfl, if_pos rfl, l0, bd_ok, l1, bd_ok, if_neg (by decide)]
    exact unit (s_setBeside HI O V (Nat.lt_of_lt_of_le g0 hP) (Nat.lt_of_lt_of_le (hg 1 (by decide)) hP) false)
  rw [if_neg q5, if_neg q5]
  by_cases q6 : f = 6
  · subst q6
    rw [if_pos rfl, if_pos rfl, l0, bd_ok, if_pos rfl]
    exact unit (s_setHums HI O V (Nat.lt_of_lt_of_le g0 hP) true)
  rw [if_neg q6, if_neg q6]
  by_cases q7 : f = 7
  · subst q7
    rw [if_pos rfl, if_pos rfl, l0, bd_ok, if_neg (by decide)]
    exact unit (s_setHums HI O V (Nat.lt_of_lt_of_le g0 hP) false)
  rw [if_neg q7, if_neg q7]
  by_cases q8 : f = 8
  · rw [if_pos q8, if_pos q8, l0, bd_ok]
    exact st_num HI V 2 (by decide) fun h1 H1 V1 F1 => Ret.mk ⟨F1, V1⟩
  rw [if_neg q8, if_neg q8, l0, bd_ok]
  exact st_num HI V 3 (by decide) fun h1 H1 V1 F1 => Ret.mk ⟨F1, V1⟩
end READ2
