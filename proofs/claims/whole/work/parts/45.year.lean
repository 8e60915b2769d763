/-! A YEAR: a song's column by itself; the class's Isle -/
/-- sets: what two have in common -/
theorem tb_test (m k : Nat) : m.testBit k = decide (tb m k = 1) := by
  unfold tb
  rw [Nat.testBit_eq_decide_div_mod_eq]
theorem and0 {n m : Nat} (a : Nat) (hm : m < 2 ^ n) : a &&& m = 0 ↔ ∀ o, o < n → ¬ (tb a o = 1 ∧ tb m o = 1) := by
  constructor
  · intro e o _ q
    have h2 : (a &&& m).testBit o = true := by
      rw [Nat.testBit_and, tb_test, tb_test, q.1, q.2]
      rfl
    rw [e, Nat.zero_testBit] at h2
    cases h2
  · intro q
    apply Nat.eq_of_testBit_eq
    intro i
    rw [Nat.testBit_and, Nat.zero_testBit]
    by_cases h : i < n
    · have := q i h
      rw [tb_test, tb_test]
      by_cases h1 : tb a i = 1
      · have h2 : ¬ tb m i = 1 := fun e => this ⟨h1, e⟩
        simp [h2]
      · simp [h1]
    · rw [Nat.testBit_lt_two_pow (Nat.lt_of_lt_of_le hm (Nat.pow_le_pow_right (by decide) (by omega))), Bool.and_false]
/-- what one has of a song when the year has gone: forgotten or a year more -/
def fgt (x : St) (s p : Nat) : Nat :=
  if sA x 9 (p * 6 + s) = 0 then 0 else if tb (sV x 5) p = 1 ∨ min 99 (sA x 9 (p * 6 + s)) ≤ holdN x p (sA x 5 s) then min 99 (sA x 9 (p * 6 + s)) + 1 else 0
/-- who sings it then -/
def sng (x : St) (s : Nat) : Nat := bsN (fun p => decide (fgt x s p ≠ 0)) (sP x)
/-- children have picked it up -/
def pck (x : St) (s p : Nat) : Nat := if tb (sng x s) p = 0 ∧ sA x 0 p = 5 ∧ sA x 4 p &&& sng x s ≠ 0 then 1 else fgt x s p
/-- is it found -/
def fnd (x : St) (s : Nat) : Bool := decide (sA x 7 s = 1 ∧ sA x 6 s = sV x 3 % 5 ∧ besN x ≠ 0)
def col (x : St) (s p : Nat) : Nat := if fnd x s = true ∧ p = besN x - 1 then 1 else pck x s p
/-- who has it at the end -/
def sge (x : St) (s : Nat) : Nat := bsN (fun p => decide (col x s p ≠ 0)) (sP x)
def stt (x : St) (s : Nat) : Nat := if fnd x s = true then 2 else if sA x 7 s = 0 ∧ sge x s = 0 then 1 else sA x 7 s
/-- a column is another, for those below n -/
def colS (x : St) (s n : Nat) (g : Nat → Nat) : St := (sP x, sS x, sV x, fun r i => if r = 9 ∧ i % 6 = s ∧ i / 6 < n then g (i / 6) else sA x r i, sD x)
/-- one song's year -/
def stepS (x : St) (s : Nat) : St := uA (colS x s (sP x) (col x s)) 7 s (stt x s)
/-- the year counted -/
def yr1 (x : St) : St := uV x 3 (min 999 (sV x 3 + 1))
/-- all songs' years, those below n -/
def stpN (x : St) (n : Nat) : St := (sP x, sS x, sV x, fun r i => if r = 9 ∧ i % 6 < n ∧ i / 6 < sP x then col x (i % 6) (i / 6) else if r = 7 ∧ i < n then stt x i else sA x r i, sD x)
def yearS (x : St) : St := stpN (yr1 x) (sS x)
/-- how many are found, of those below n -/
def fndN (x : St) : Nat → Nat
  | 0 => 0
  | s + 1 => if fnd x s = true then fndN x s + 1 else fndN x s
theorem fndN_le (x : St) : ∀ n, fndN x n ≤ n
  | 0 => Nat.le_refl _
  | n + 1 => by
    have := fndN_le x n
    unfold fndN
    split <;> omega
theorem St_ext {x y : St} (h1 : sP x = sP y) (h2 : sS x = sS y) (h3 : sV x = sV y) (h4 : ∀ r i, sA x r i = sA y r i) (h5 : sD x = sD y) : x = y := by
  obtain ⟨a1, a2, a3, a4, a5⟩ := x
  obtain ⟨b1, b2, b3, b4, b5⟩ := y
  have h6 : a4 = b4 := funext fun r => funext fun i => h4 r i
  simp only [sP, sS, sV, sD] at h1 h2 h3 h5
  subst h1; subst h2; subst h3; subst h5; subst h6
  rfl
theorem sA_colS (x : St) (s n : Nat) (g : Nat → Nat) (r i : Nat) : sA (colS x s n g) r i = if r = 9 ∧ i % 6 = s ∧ i / 6 < n then g (i / 6) else sA x r i := rfl
theorem sA_colS_n (x : St) (s n : Nat) (g : Nat → Nat) {r : Nat} (i : Nat) (h : r ≠ 9) : sA (colS x s n g) r i = sA x r i := by
  rw [sA_colS, if_neg (fun q => h q.1)]
theorem colS_0 (x : St) (s : Nat) (g : Nat → Nat) : colS x s 0 g = x := by
  apply St_ext <;> try rfl
  intro r i
  rw [sA_colS, if_neg (by omega)]
theorem colS_1 {x : St} {s n : Nat} {g : Nat → Nat} (hs : s < 6) : uA (colS x s n g) 9 (n * 6 + s) (g n) = colS x s (n + 1) g := by
  apply St_ext <;> try rfl
  intro r i
  rw [sA_uA, sA_colS, sA_colS]
  by_cases h : r = 9 ∧ i = n * 6 + s
  · obtain ⟨rfl, rfl⟩ := h
    rw [if_pos ⟨rfl, rfl⟩, if_pos ⟨rfl, by omega, by omega⟩]
    congr 1
    omega
  · rw [if_neg h]
    by_cases h2 : r = 9 ∧ i % 6 = s ∧ i / 6 < n
    · rw [if_pos h2, if_pos ⟨h2.1, h2.2.1, by omega⟩]
    · rw [if_neg h2, if_neg (fun q => by
        obtain ⟨q1, q2, q3⟩ := q
        by_cases q4 : i / 6 < n
        · exact h2 ⟨q1, q2, q4⟩
        · exact h ⟨q1, by omega⟩)]
theorem uA_same {x : St} {k i v : Nat} (h : sA x k i = v) : uA x k i v = x := by
  apply St_ext <;> try rfl
  intro r j
  rw [sA_uA]
  split
  · rename_i q
    obtain ⟨rfl, rfl⟩ := q
    exact h.symm
  · rfl
theorem colS_at (x : St) {s : Nat} (n : Nat) (g : Nat → Nat) {p : Nat} (hs : s < 6) : sA (colS x s n g) 9 (p * 6 + s) = if p < n then g p else sA x 9 (p * 6 + s) := by
  rw [sA_colS]
  have e1 : (p * 6 + s) % 6 = s := by omega
  have e2 : (p * 6 + s) / 6 = p := by omega
  rw [e1, e2]
  by_cases h : p < n
  · rw [if_pos h, if_pos ⟨rfl, rfl, h⟩]
  · rw [if_neg h, if_neg (fun q => h q.2.2)]
theorem colS_colS (x : St) (s n : Nat) (f g : Nat → Nat) : colS (colS x s n f) s n g = colS x s n g := by
  apply St_ext <;> try rfl
  intro r i
  rw [sA_colS, sA_colS, sA_colS]
  split <;> simp_all
theorem colS_congr {x : St} {s n : Nat} {f g : Nat → Nat} (h : ∀ p, p < n → f p = g p) : colS x s n f = colS x s n g := by
  apply St_ext <;> try rfl
  intro r i
  rw [sA_colS, sA_colS]
  split
  · rename_i q
    exact h _ q.2.2
  · rfl
theorem holdN_congr {x y : St} {p hd : Nat} (h0 : sA x 0 p = sA y 0 p) (h1 : sA x 1 p = sA y 1 p) (h2 : sA x 2 p = sA y 2 p) (h3 : sA x 3 p = sA y 3 p) (hw : sV x 2 = sV y 2) : holdN x p hd = holdN y p hd := by
  unfold holdN
  rw [h0, h1, h2, h3, hw]
theorem besF_congr {x y : St} : ∀ n, (∀ p, p < n → sA x 2 p = sA y 2 p) → besF x n = besF y n
  | 0, _ => rfl
  | n + 1, h => by
    have ih := besF_congr n (fun p hp => h p (by omega))
    have hl := besF_le y n
    unfold besF
    rw [ih, h n (by omega)]
    by_cases q : besF y n = 0
    · rw [if_pos (Or.inl q), if_pos (Or.inl q)]
    · rw [h (besF y n - 1) (by omega)]
/-- alike for one song -/
def EqS (s : Nat) (x y : St) : Prop := sP x = sP y ∧ sS x = sS y ∧ sV x 2 = sV y 2 ∧ sV x 3 = sV y 3 ∧ sV x 5 = sV y 5 ∧ (∀ k, k < 7 → k ≠ 4 → ∀ i, i < ln k → sA x k i = sA y k i) ∧ sA x 7 s = sA y 7 s ∧ (∀ p, p < sP x → sA x 9 (p * 6 + s) = sA y 9 (p * 6 + s)) ∧ (∀ p, p < sP x → ∀ o, o < sP x → tb (sA x 4 p) o = tb (sA y 4 p) o)
theorem EqS.rf (s : Nat) (x : St) : EqS s x x := ⟨rfl, rfl, rfl, rfl, rfl, fun _ _ _ _ _ => rfl, rfl, fun _ _ => rfl, fun _ _ _ _ => rfl⟩
theorem EqA.S {x y : St} (E : EqA x y) {s : Nat} (hs : s < sS x) (h6 : sS x ≤ 6) (h8 : sP x ≤ 8) : EqS s x y := by
  obtain ⟨e1, e2, e3, e4, e5, e6, e7, e8⟩ := E
  exact ⟨e1, e2, e3, e4, e5, fun k hk _ i hi => e7 k (by omega) i hi, e7 7 (by decide) s (by show s < 6; omega), fun p hp => e8 p hp s hs, fun p hp o _ => by rw [e7 4 (by decide) p (by show p < 8; omega)]⟩
theorem EqS.r {s : Nat} {x y : St} (E : EqS s x y) (k : Nat) (hk : k < 7) (h4 : k ≠ 4) {i : Nat} (hi : i < ln k) : sA x k i = sA y k i := E.2.2.2.2.2.1 k hk h4 i hi
theorem EqS_fgt {s : Nat} {x y : St} (E : EqS s x y) (hs : s < 6) {p : Nat} (hp : p < sP x) (hP : sP x ≤ 8) : fgt x s p = fgt y s p := by
  have hp8 : p < 8 := by omega
  unfold fgt
  rw [E.2.2.2.2.2.2.2.1 p hp, E.2.2.2.2.1, E.r 5 (by decide) (by decide) hs, holdN_congr (E.r 0 (by decide) (by decide) hp8) (E.r 1 (by decide) (by decide) hp8) (E.r 2 (by decide) (by decide) hp8) (E.r 3 (by decide) (by decide) hp8) E.2.2.1]
theorem EqS_sng {s : Nat} {x y : St} (E : EqS s x y) (hs : s < 6) (hP : sP x ≤ 8) : sng x s = sng y s := by
  unfold sng
  rw [← E.1]
  exact bsN_congr _ (fun p hp => by rw [EqS_fgt E hs hp hP])
theorem sng_lt (x : St) (s : Nat) : sng x s < 2 ^ sP x := bsN_lt _ _
theorem EqS_pck {s : Nat} {x y : St} (E : EqS s x y) (hs : s < 6) {p : Nat} (hp : p < sP x) (hP : sP x ≤ 8) : pck x s p = pck y s p := by
  have e : (sA x 4 p &&& sng x s = 0) ↔ (sA y 4 p &&& sng x s = 0) := by
    rw [and0 _ (sng_lt x s), and0 _ (sng_lt x s)]
    constructor
    · intro q o ho
      rw [← E.2.2.2.2.2.2.2.2 p hp o ho]
      exact q o ho
    · intro q o ho
      rw [E.2.2.2.2.2.2.2.2 p hp o ho]
      exact q o ho
  have e0 := E.r 0 (by decide) (by decide) (show p < 8 by omega)
  unfold pck
  rw [← EqS_sng E hs hP, ← EqS_fgt E hs hp hP, ← e0]
  by_cases q : tb (sng x s) p = 0 ∧ sA x 0 p = 5 ∧ sA x 4 p &&& sng x s ≠ 0
  · rw [if_pos q, if_pos ⟨q.1, q.2.1, fun f => q.2.2 (e.mpr f)⟩]
  · rw [if_neg q, if_neg (fun f => q ⟨f.1, f.2.1, fun g => f.2.2 (e.mp g)⟩)]
theorem EqS_bes {s : Nat} {x y : St} (E : EqS s x y) (hP : sP x ≤ 8) : besN x = besN y := by
  unfold besN
  rw [← E.1]
  exact besF_congr _ (fun p hp => E.r 2 (by decide) (by decide) (show p < 8 by omega))
theorem EqS_fnd {s : Nat} {x y : St} (E : EqS s x y) (hs : s < 6) (hP : sP x ≤ 8) : fnd x s = fnd y s := by
  unfold fnd
  rw [EqS_bes E hP, E.2.2.2.2.2.2.1, E.r 6 (by decide) (by decide) hs, E.2.2.2.1]
theorem EqS_col {s : Nat} {x y : St} (E : EqS s x y) (hs : s < 6) {p : Nat} (hp : p < sP x) (hP : sP x ≤ 8) : col x s p = col y s p := by
  unfold col
  rw [EqS_fnd E hs hP, EqS_bes E hP, EqS_pck E hs hp hP]
theorem EqS_sge {s : Nat} {x y : St} (E : EqS s x y) (hs : s < 6) (hP : sP x ≤ 8) : sge x s = sge y s := by
  unfold sge
  rw [← E.1]
  exact bsN_congr _ (fun p hp => by rw [EqS_col E hs hp hP])
theorem EqS_stt {s : Nat} {x y : St} (E : EqS s x y) (hs : s < 6) (hP : sP x ≤ 8) : stt x s = stt y s := by
  unfold stt
  rw [EqS_fnd E hs hP, EqS_sge E hs hP, E.2.2.2.2.2.2.1]
theorem fgt_le (x : St) (s p : Nat) : fgt x s p ≤ 100 := by
  unfold fgt
  split
  · omega
  · split
    · omega
    · omega
theorem pck_le (x : St) (s p : Nat) : pck x s p ≤ 100 := by
  unfold pck
  split
  · decide
  · exact fgt_le x s p
theorem col_le (x : St) (s p : Nat) : col x s p ≤ 100 := by
  unfold col
  split
  · decide
  · exact pck_le x s p
theorem stt_lt {x : St} (O : Ok x) {s : Nat} (hs : s < 6) : stt x s < 3 := by
  have := O.b 7 s (by decide) hs
  unfold stt
  split
  · decide
  · split
    · decide
    · exact this
theorem Ok_yr1 {x : St} (O : Ok x) : Ok (yr1 x) := Ok_uV O (fun q => by cases q) (fun _ => by omega) (fun q => by cases q)
theorem Ok_colS {x : St} (O : Ok x) {s n : Nat} {g : Nat → Nat} (hg : ∀ p, g p ≤ 100) : Ok (colS x s n g) := by
  obtain ⟨o1, o2, o3, o4, o5, o6, o7⟩ := O
  refine ⟨o1, o2, o3, o4, o5, fun k hk i hi => ?_, fun p hp s hs => ?_⟩
  · rw [sA_colS_n _ _ _ _ _ (by omega)]
    exact o6 k hk i hi
  · rw [sA_colS]
    split
    · exact hg _
    · exact o7 p hp s hs
theorem Ok_stpN {x : St} (O : Ok x) (n : Nat) : Ok (stpN x n) := by
  have O' := O
  obtain ⟨o1, o2, o3, o4, o5, o6, o7⟩ := O
  refine ⟨o1, o2, o3, o4, o5, fun k hk i hi => ?_, fun p hp s hs => ?_⟩
  · show (if k = 9 ∧ i % 6 < n ∧ i / 6 < sP x then col x (i % 6) (i / 6) else if k = 7 ∧ i < n then stt x i else sA x k i) < _
    rw [if_neg (by omega)]
    split
    · rename_i q
      obtain ⟨rfl, q⟩ := q
      exact stt_lt O' hi
    · exact o6 k hk i hi
  · show (if 9 = 9 ∧ (p * 6 + s) % 6 < n ∧ (p * 6 + s) / 6 < sP x then col x ((p * 6 + s) % 6) ((p * 6 + s) / 6) else if 9 = 7 ∧ (p * 6 + s) < n then stt x (p * 6 + s) else sA x 9 (p * 6 + s)) ≤ 100
    split
    · exact col_le _ _ _
    · rw [if_neg (by omega)]
      exact o7 p hp s hs
theorem Ok_stepS {x : St} (O : Ok x) (s : Nat) : Ok (stepS x s) := Ok_uA (Ok_colS O (fun p => col_le x s p)) (by decide) (fun hi => stt_lt O hi)
theorem Ok_yearS {x : St} (O : Ok x) : Ok (yearS x) := Ok_stpN (Ok_yr1 O) _
theorem sA_stpN (x : St) (n r i : Nat) : sA (stpN x n) r i = if r = 9 ∧ i % 6 < n ∧ i / 6 < sP x then col x (i % 6) (i / 6) else if r = 7 ∧ i < n then stt x i else sA x r i := rfl
theorem stpN_0 (x : St) : stpN x 0 = x := by
  apply St_ext <;> try rfl
  intro r i
  show (if r = 9 ∧ i % 6 < 0 ∧ i / 6 < sP x then _ else if r = 7 ∧ i < 0 then stt x i else sA x r i) = _
  rw [if_neg (by omega), if_neg (by omega)]
/-- the songs behind are as they were -/
theorem EqS_stpN (x : St) {n s : Nat} (h : n ≤ s) (hs : s < 6) : EqS s (stpN x n) x := by
  refine ⟨rfl, rfl, rfl, rfl, rfl, fun k hk h4 i hi => ?_, ?_, fun p hp => ?_, fun p hp o ho => ?_⟩
  · rw [sA_stpN, if_neg (by omega), if_neg (by omega)]
  · rw [sA_stpN, if_neg (by omega), if_neg (by omega)]
  · rw [sA_stpN, if_neg (by omega), if_neg (by omega)]
  · rw [sA_stpN, if_neg (by omega), if_neg (by omega)]
theorem stpN_1 {x : St} {n : Nat} (hn : n < 6) (hP : sP x ≤ 8) : stepS (stpN x n) n = stpN x (n + 1) := by
  have E := EqS_stpN x (Nat.le_refl n) hn
  apply St_ext <;> try rfl
  intro r i
  unfold stepS
  rw [sA_uA, sA_colS, EqS_stt E hn hP]
  show (if r = 7 ∧ i = n then stt x n else if r = 9 ∧ i % 6 = n ∧ i / 6 < sP x then col (stpN x n) n (i / 6) else if r = 9 ∧ i % 6 < n ∧ i / 6 < sP x then col x (i % 6) (i / 6) else if r = 7 ∧ i < n then stt x i else sA x r i) = (if r = 9 ∧ i % 6 < n + 1 ∧ i / 6 < sP x then col x (i % 6) (i / 6) else if r = 7 ∧ i < n + 1 then stt x i else sA x r i)
  by_cases h1 : r = 7 ∧ i = n
  · rw [if_pos h1, if_neg (by omega), if_pos ⟨h1.1, by omega⟩, h1.2]
  · rw [if_neg h1]
    by_cases h2 : r = 9 ∧ i % 6 = n ∧ i / 6 < sP x
    · rw [if_pos h2, if_pos ⟨h2.1, by omega, h2.2.2⟩, EqS_col E hn h2.2.2 hP, h2.2.1]
    · rw [if_neg h2]
      by_cases h3 : r = 9 ∧ i % 6 < n ∧ i / 6 < sP x
      · rw [if_pos h3, if_pos ⟨h3.1, by omega, h3.2.2⟩]
      · rw [if_neg h3, if_neg (show ¬ (r = 9 ∧ i % 6 < n + 1 ∧ i / 6 < sP x) from fun q => by
          obtain ⟨q1, q2, q3⟩ := q
          by_cases q4 : i % 6 = n
          · exact h2 ⟨q1, q4, q3⟩
          · exact h3 ⟨q1, by omega, q3⟩)]
        by_cases h4 : r = 7 ∧ i < n
        · rw [if_pos h4, if_pos ⟨h4.1, by omega⟩]
        · rw [if_neg h4, if_neg (show ¬ (r = 7 ∧ i < n + 1) from fun q => by
            by_cases q4 : i = n
            · exact h1 ⟨q.1, q4⟩
            · exact h4 ⟨q.1, by omega⟩)]
theorem EqS_yr1 {s : Nat} {x y : St} (E : EqS s x y) : EqS s (yr1 x) (yr1 y) := by
  obtain ⟨e1, e2, e3, e4, e5, e6, e7, e8, e9⟩ := E
  refine ⟨e1, e2, e3, ?_, e5, e6, e7, e8, e9⟩
  show min 999 (sV x 3 + 1) = min 999 (sV y 3 + 1)
  rw [e4]
/-- what a year of all songs leaves of one -/
theorem EqS_all {x : St} {s : Nat} (hs : s < sS x) (hS : sS x ≤ 6) : EqS s (yearS x) (stepS (yr1 x) s) := by
  refine ⟨rfl, rfl, rfl, rfl, rfl, fun k hk h4 i hi => ?_, ?_, fun p hp => ?_, fun p hp o ho => ?_⟩
  · unfold stepS
    rw [sA_uA, sA_colS, if_neg (by omega), if_neg (by omega)]
    unfold yearS
    rw [sA_stpN, if_neg (by omega), if_neg (by omega)]
  · unfold stepS
    rw [sA_uA, if_pos ⟨rfl, rfl⟩]
    unfold yearS
    rw [sA_stpN, if_neg (by omega), if_pos ⟨rfl, hs⟩]
  · have hp' : p < sP (yr1 x) := hp
    unfold stepS
    rw [sA_uA, if_neg (by omega), colS_at _ _ _ (by omega), if_pos hp']
    unfold yearS
    rw [sA_stpN, if_pos ⟨rfl, by omega, by omega⟩]
    congr 1 <;> omega
  · unfold stepS
    rw [sA_uA, sA_colS, if_neg (by omega), if_neg (by omega)]
    unfold yearS
    rw [sA_stpN, if_neg (by omega), if_neg (by omega)]
theorem EqS_stepS {x y : St} {s : Nat} (E : EqS s x y) (hs : s < 6) (hP : sP x ≤ 8) : EqS s (stepS x s) (stepS y s) := by
  refine ⟨E.1, E.2.1, E.2.2.1, E.2.2.2.1, E.2.2.2.2.1, fun k hk h4 i hi => ?_, ?_, fun p hp => ?_, fun p hp o ho => ?_⟩
  · unfold stepS
    rw [sA_uA, sA_colS, if_neg (by omega), if_neg (by omega), sA_uA, sA_colS, if_neg (by omega), if_neg (by omega)]
    exact E.r k hk h4 hi
  · unfold stepS
    rw [sA_uA, sA_uA, if_pos ⟨rfl, rfl⟩, if_pos ⟨rfl, rfl⟩]
    exact EqS_stt E hs hP
  · have hp' : p < sP x := hp
    have hp2 : p < sP y := by rw [← E.1]; exact hp'
    unfold stepS
    rw [sA_uA, if_neg (by omega), colS_at _ _ _ hs, if_pos hp', sA_uA, if_neg (by omega), colS_at _ _ _ hs, if_pos hp2]
    exact EqS_col E hs hp' hP
  · unfold stepS
    rw [sA_uA, sA_colS, if_neg (by omega), if_neg (by omega), sA_uA, sA_colS, if_neg (by omega), if_neg (by omega)]
    exact E.2.2.2.2.2.2.2.2 p hp o ho
theorem EqS.tr {s : Nat} {x y z : St} (E : EqS s x y) (G : EqS s y z) : EqS s x z := by
  obtain ⟨e1, e2, e3, e4, e5, e6, e7, e8, e9⟩ := E
  obtain ⟨g1, g2, g3, g4, g5, g6, g7, g8, g9⟩ := G
  exact ⟨e1.trans g1, e2.trans g2, e3.trans g3, e4.trans g4, e5.trans g5, fun k hk h4 i hi => (e6 k hk h4 i hi).trans (g6 k hk h4 i hi), e7.trans g7, fun p hp => (e8 p hp).trans (g8 p (e1 ▸ hp)), fun p hp o ho => (e9 p hp o ho).trans (g9 p (e1 ▸ hp) o (e1 ▸ ho))⟩
/-- a year of all songs, and a year of one -/
theorem EqS_year {s : Nat} {x y : St} (E : EqS s x y) (O : Ok x) (hs : s < sS x) : EqS s (yearS x) (stepS (yr1 y) s) :=
  (EqS_all hs O.2.1).tr (EqS_stepS (EqS_yr1 E) (by have := O.2.1; omega) O.1)
theorem EqS_year2 {s : Nat} {x y : St} (E : EqS s x y) (O : Ok x) (O2 : Ok y) (hs : s < sS x) : EqS s (yearS x) (yearS y) := by
  have h2 : s < sS y := by rw [← E.2.1]; exact hs
  have G := EqS_all h2 O2.2.1
  have G' : EqS s (stepS (yr1 y) s) (yearS y) := by
    obtain ⟨g1, g2, g3, g4, g5, g6, g7, g8, g9⟩ := G
    exact ⟨g1.symm, g2.symm, g3.symm, g4.symm, g5.symm, fun k hk h4 i hi => (g6 k hk h4 i hi).symm, g7.symm, fun p hp => (g8 p (g1 ▸ hp)).symm, fun p hp o ho => (g9 p (g1 ▸ hp) o (g1 ▸ ho)).symm⟩
  exact (EqS_year E O hs).tr G'
