/-! ANSWERS: rules for what is due -/
def Ret {α : Type} (o : Option (α × HP)) (v : α) (Q : HP → Prop) : Prop := ∃ h', o = some (v, h') ∧ Q h'
theorem Ret.mk {α : Type} {v : α} {h : HP} {Q : HP → Prop} (q : Q h) : Ret (some (v, h)) v Q := ⟨h, rfl, q⟩
theorem Ret.pure {α : Type} {o : Option (α × HP)} {v : α} {h : HP} {Q : HP → Prop} (e : o = some (v, h)) (q : Q h) : Ret o v Q := ⟨h, e, q⟩
theorem Ret.call {α β : Type} {o : Option (α × HP)} {v : α} {Q : HP → Prop} {G : α → HP → Option (β × HP)} {w : β} {R : HP → Prop} (r : Ret o v Q) (kk : ∀ h', Q h' → Ret (G v h') w R) : Ret (ob o G) w R := by
  obtain ⟨h', e, q⟩ := r
  rw [e]
  exact kk h' q
theorem Ret.icall {α β : Type} {c a : Nat} {h : HP} {o : Option (α × HP)} {v : α} {Q : HP → Prop} {G : α → HP → Option (β × HP)} {w : β} {R : HP → Prop} (H : OA c h a) (r : Ret o v Q) (kk : ∀ h', Q h' → Ret (G v h') w R) : Ret (ob (inv c a h o) G) w R := by
  rw [inv_ok H]
  exact r.call kk
theorem Ret.mono {α : Type} {o : Option (α × HP)} {v : α} {Q R : HP → Prop} (r : Ret o v Q) (f : ∀ h, Q h → R h) : Ret o v R := by
  obtain ⟨h', e, q⟩ := r
  exact ⟨h', e, f h' q⟩
theorem Ret.rz1 {h : HP} {Q : HP → Prop} (q : Q h) : Ret (rZ 1 h) 1 Q := ⟨h, rZ1, q⟩
theorem Ret.rz0 {h : HP} {Q : HP → Prop} (q : Q h) : Ret (rZ 0 h) 0 Q := ⟨h, rZ0, q⟩
theorem Ret.gen {α σ : Type} {v : α} {Q : HP → Prop} {run : Nat → σ → Option (α × HP)} (J : Nat → σ → Prop) (n : Nat) (hs : ∀ k i s, i < n → J i s → (∀ s', J (i + 1) s' → Ret (run k s') v Q) → Ret (run (k + 1) s) v Q) (hx : ∀ k s, J n s → Ret (run (k + 1) s) v Q) : ∀ (j i k : Nat) (s : σ), i + j = n → j < k → J i s → Ret (run k s) v Q := by
  intro j
  induction j with
  | zero =>
    intro i k s h1 h2 hJ
    obtain ⟨k, rfl⟩ : ∃ k', k = k' + 1 := ⟨k - 1, by omega⟩
    have : i = n := by omega
    subst this
    exact hx k s hJ
  | succ j ih =>
    intro i k s h1 h2 hJ
    obtain ⟨k, rfl⟩ : ∃ k', k = k' + 1 := ⟨k - 1, by omega⟩
    exact hs k i s (by omega) hJ (fun s' hs' => ih (i + 1) k s' (by omega) (by omega) hs')
/-- a number and the heap -/
theorem Ret.loop {α : Type} {v : α} {Q : HP → Prop} {lp : Nat → Int32 → HP → Option (α × HP)} {h : HP} (J : Nat → HP → Prop) (n : Nat) (hn : n < 1000) (h0 : J 0 h) (hs : ∀ k i h1, i < n → J i h1 → (∀ h2, J (i + 1) h2 → Ret (lp k (nI (i + 1)) h2) v Q) → Ret (lp (k + 1) (nI i) h1) v Q) (hx : ∀ k h1, J n h1 → Ret (lp (k + 1) (nI n) h1) v Q) : Ret (lp 1000 0 h) v Q := by
  refine Ret.gen (run := fun k (q : Int32 × HP) => lp k q.1 q.2) (fun i q => q.1 = nI i ∧ J i q.2) n ?_ ?_ n 0 1000 (0, h) (by omega) hn ⟨rfl, h0⟩
  · rintro k i ⟨i', h1⟩ hi ⟨rfl, hJ⟩ kk
    exact hs k i h1 hi hJ (fun h2 hJ2 => kk (nI (i + 1), h2) ⟨rfl, hJ2⟩)
  · rintro k ⟨i', h1⟩ ⟨rfl, hJ⟩
    exact hx k h1 hJ
/-- what is gathered, a number and the heap -/
theorem Ret.loopA {α : Type} {v : α} {Q : HP → Prop} {lp : Nat → Int32 → Int32 → HP → Option (α × HP)} {h : HP} (acc : Nat → Int32) (J : Nat → HP → Prop) (n : Nat) (hn : n < 1000) {a0 : Int32} (ha : acc 0 = a0) (h0 : J 0 h) (hs : ∀ k i h1, i < n → J i h1 → (∀ h2, J (i + 1) h2 → Ret (lp k (acc (i + 1)) (nI (i + 1)) h2) v Q) → Ret (lp (k + 1) (acc i) (nI i) h1) v Q) (hx : ∀ k h1, J n h1 → Ret (lp (k + 1) (acc n) (nI n) h1) v Q) : Ret (lp 1000 a0 0 h) v Q := by
  refine Ret.gen (run := fun k (q : Int32 × Int32 × HP) => lp k q.1 q.2.1 q.2.2) (fun i q => q.1 = acc i ∧ q.2.1 = nI i ∧ J i q.2.2) n ?_ ?_ n 0 1000 (a0, 0, h) (by omega) hn ⟨ha.symm, rfl, h0⟩
  · rintro k i ⟨a, i', h1⟩ hi ⟨rfl, rfl, hJ⟩ kk
    exact hs k i h1 hi hJ (fun h2 hJ2 => kk (acc (i + 1), nI (i + 1), h2) ⟨rfl, rfl, hJ2⟩)
  · rintro k ⟨a, i', h1⟩ ⟨rfl, rfl, hJ⟩
    exact hx k h1 hJ
theorem Ret.loopB {α : Type} {v : α} {Q : HP → Prop} {lp : Nat → Int32 → Int32 → Int32 → HP → Option (α × HP)} {h : HP} (acc : Nat → Int32 × Int32) (J : Nat → HP → Prop) (n : Nat) (hn : n < 1000) {a0 b0 : Int32} (ha : acc 0 = (a0, b0)) (h0 : J 0 h) (hs : ∀ k i h1, i < n → J i h1 → (∀ h2, J (i + 1) h2 → Ret (lp k (acc (i + 1)).1 (acc (i + 1)).2 (nI (i + 1)) h2) v Q) → Ret (lp (k + 1) (acc i).1 (acc i).2 (nI i) h1) v Q) (hx : ∀ k h1, J n h1 → Ret (lp (k + 1) (acc n).1 (acc n).2 (nI n) h1) v Q) : Ret (lp 1000 a0 b0 0 h) v Q := by
  refine Ret.gen (run := fun k (q : Int32 × Int32 × Int32 × HP) => lp k q.1 q.2.1 q.2.2.1 q.2.2.2) (fun i q => q.1 = (acc i).1 ∧ q.2.1 = (acc i).2 ∧ q.2.2.1 = nI i ∧ J i q.2.2.2) n ?_ ?_ n 0 1000 (a0, b0, 0, h) (by omega) hn ⟨by rw [ha], by rw [ha], rfl, h0⟩
  · rintro k i ⟨a, b, i', h1⟩ hi ⟨rfl, rfl, rfl, hJ⟩ kk
    exact hs k i h1 hi hJ (fun h2 hJ2 => kk ((acc (i + 1)).1, (acc (i + 1)).2, nI (i + 1), h2) ⟨rfl, rfl, rfl, hJ2⟩)
  · rintro k ⟨a, b, i', h1⟩ ⟨rfl, rfl, rfl, hJ⟩
    exact hx k h1 hJ
theorem rem5 {y : Nat} (h : y ≤ 100000) : nI y - nI y / 5 * 5 = nI (y % 5) := pk_rem (d := 5) (by omega) (by decide) (by decide)
theorem minN {h : HP} {a b : Nat} (ha : a ≤ 100000) (hb : b ≤ 100000) : f_J9_min_7cf53 (nI a) (nI b) h = some (nI (min a b), h) := by
  rw [f_min]
  by_cases q : b < a
  · rw [if_pos (ltY q ha), Nat.min_eq_right (by omega)]
  · rw [if_neg (ltN (by omega) hb), Nat.min_eq_left (by omega)]
