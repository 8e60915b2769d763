/-! NUMBERS, CELLS, THE ISLE IN THOUGHT -/
theorem vpiN {k n : Nat} (h : k < n) (hn : n ≤ 100000) : vpi (nI k) n = true := by
  unfold vpi
  exact decide_eq_true (show vp_in (nI k) n from vp_in_nI h (by omega))
theorem tcN {k : Nat} (h : k ≤ 100000) : (nI k).toNatClampNeg = k := nI_clamp (by omega)
theorem idx6 (p s : Nat) : nI p * 6 + nI s = nI (p * 6 + s) := by
  rw [show (6 : Int32) = nI 6 from rfl, pk_mul, nI_add]
theorem idx8 (s i : Nat) : nI s * 8 + nI i = nI (s * 8 + i) := by
  rw [show (8 : Int32) = nI 8 from rfl, pk_mul, nI_add]
/-- an int array of n at b; a long array -/
def IA (h : HP) (b n : Nat) : Prop := b < hN h ∧ hS h b = (7, n)
def LA (h : HP) (b n : Nat) : Prop := b < hN h ∧ hS h b = (8, n)
/-- an object of class c at b -/
def OA (c : Nat) (h : HP) (b : Nat) : Prop := b < hN h ∧ (hS h b).1 = c
theorem IA.o {h : HP} {b n : Nat} (H : IA h b n) : oC 7 h b = true := by unfold oC; rw [H.2]; simp [H.1]
theorem IA.l {h : HP} {b n : Nat} (H : IA h b n) : (hS h b).2 = n := by rw [H.2]
theorem LA.o {h : HP} {b n : Nat} (H : LA h b n) : oC 8 h b = true := by unfold oC; rw [H.2]; simp [H.1]
theorem LA.l {h : HP} {b n : Nat} (H : LA h b n) : (hS h b).2 = n := by rw [H.2]
theorem OA.o {c : Nat} {h : HP} {b : Nat} (H : OA c h b) : oC c h b = true := by unfold oC; rw [H.2]; simp [H.1]
theorem lI_ok {h : HP} {b n k : Nat} (H : IA h b n) (hk : k < n) (hn : n ≤ 100000) : lI b (nI k) h = some (hI h b k) := by
  unfold lI
  rw [if_pos ⟨H.o, by rw [H.l]; exact vpiN hk hn⟩, tcN (by omega)]
theorem sI_ok {h : HP} {b n k : Nat} {x : Int32} (H : IA h b n) (hk : k < n) (hn : n ≤ 100000) : sI b (nI k) x h = some (wI h b (upd (hI h b) k x)) := by
  unfold sI
  rw [if_pos ⟨H.o, by rw [H.l]; exact vpiN hk hn⟩, tcN (by omega)]
theorem lJ_ok {h : HP} {b n k : Nat} (H : LA h b n) (hk : k < n) (hn : n ≤ 100000) : lJ b (nI k) h = some (hJ h b k) := by
  unfold lJ
  rw [if_pos ⟨H.o, by rw [H.l]; exact vpiN hk hn⟩, tcN (by omega)]
theorem sJ_ok {h : HP} {b n k : Nat} {x : Int64} (H : LA h b n) (hk : k < n) (hn : n ≤ 100000) : sJ b (nI k) x h = some (wJ h b (vp_updL (hJ h b) k x)) := by
  unfold sJ
  rw [if_pos ⟨H.o, by rw [H.l]; exact vpiN hk hn⟩, tcN (by omega)]
theorem gI_ok {c k : Nat} {h : HP} {b : Nat} (H : OA c h b) : gI c k b h = some (hI h b k) := by unfold gI; rw [if_pos H.o]
theorem gR_ok {c k x : Nat} {h : HP} {b : Nat} (H : OA c h b) (hx : hR h b k = some x) : gR c k b h = some x := by unfold gR; rw [if_pos H.o]; exact hx
theorem pI_ok {c k : Nat} {x : Int32} {h : HP} {b : Nat} (H : OA c h b) : pI c k b x h = some (wI h b (upd (hI h b) k x)) := by unfold pI; rw [if_pos H.o]
theorem inv_ok {σ : Type} {c : Nat} {h : HP} {b : Nat} {o : Option (σ × HP)} (H : OA c h b) : inv c b h o = o := by unfold inv; rw [if_pos H.o]
theorem ob_ok {σ τ : Type} {v : σ} {h : HP} {f : σ → HP → Option τ} : ob (some (v, h)) f = f v h := rfl
theorem bd_ok {α β : Type} {v : α} {f : α → Option β} : (some v).bind f = f v := rfl
theorem rZ1 {h : HP} : rZ 1 h = some (1, h) := by unfold rZ; rw [if_pos (Or.inr rfl)]
theorem rZ0 {h : HP} : rZ 0 h = some (0, h) := by unfold rZ; rw [if_pos (Or.inl rfl)]
/-- the same cells, all but the ints of the cells from a on, fewer than n -/
def Fr (a n : Nat) (h h' : HP) : Prop := hN h' = hN h ∧ hL h' = hL h ∧ hS h' = hS h ∧ hR h' = hR h ∧ hJ h' = hJ h ∧ ∀ q, (q < a ∨ a + n ≤ q) → hI h' q = hI h q
theorem Fr.rf (a n : Nat) (h : HP) : Fr a n h h := ⟨rfl, rfl, rfl, rfl, rfl, fun _ _ => rfl⟩
theorem Fr.tr {a n : Nat} {h h1 h2 : HP} (f : Fr a n h h1) (g : Fr a n h1 h2) : Fr a n h h2 :=
  ⟨g.1.trans f.1, g.2.1.trans f.2.1, g.2.2.1.trans f.2.2.1, g.2.2.2.1.trans f.2.2.2.1, g.2.2.2.2.1.trans f.2.2.2.2.1, fun q hq => (g.2.2.2.2.2 q hq).trans (f.2.2.2.2.2 q hq)⟩
theorem Fr.w {a n b : Nat} {h : HP} {g : Nat → Int32} (h1 : a ≤ b) (h2 : b < a + n) : Fr a n h (wI h b g) := ⟨rfl, rfl, rfl, rfl, rfl, fun q hq => upA_n _ _ (by omega)⟩
theorem Fr.wide {a n b k : Nat} {h h' : HP} (f : Fr a n h h') (h1 : b ≤ a) (h2 : a + n ≤ b + k) : Fr b k h h' :=
  ⟨f.1, f.2.1, f.2.2.1, f.2.2.2.1, f.2.2.2.2.1, fun q hq => f.2.2.2.2.2 q (by omega)⟩
theorem Fr.IA {a n b k : Nat} {h h' : HP} (f : Fr a n h h') (H : IA h b k) : IA h' b k := ⟨by rw [f.1]; exact H.1, by rw [f.2.2.1]; exact H.2⟩
theorem Fr.LA {a n b k : Nat} {h h' : HP} (f : Fr a n h h') (H : LA h b k) : LA h' b k := ⟨by rw [f.1]; exact H.1, by rw [f.2.2.1]; exact H.2⟩
theorem Fr.OA {a n b c : Nat} {h h' : HP} (f : Fr a n h h') (H : OA c h b) : OA c h' b := ⟨by rw [f.1]; exact H.1, by rw [f.2.2.1]; exact H.2⟩
theorem hI_w (h : HP) (b : Nat) (g : Nat → Int32) : hI (wI h b g) b = g := upA_s _ _ _
theorem hI_wn (h : HP) {b q : Nat} (g : Nat → Int32) (hq : q ≠ b) : hI (wI h b g) q = hI h q := upA_n _ _ hq
theorem upd_s (f : Nat → Int32) (k : Nat) (x : Int32) : upd f k x k = x := if_pos rfl
theorem upd_n (f : Nat → Int32) {k j : Nat} (x : Int32) (h : j ≠ k) : upd f k x j = f j := if_neg h
/-- the isle in thought: people, songs, numbers (2 work, 3 year, 5 hums), rows (0 kind, 1 a, 2 memory, 3 grief, 4 beside, 5 hard, 6 sound, 7 state, 8 tune, 9 held: 0 not, k + 1 for k years), the seed -/
abbrev St : Type := Nat × Nat × (Nat → Nat) × (Nat → Nat → Nat) × Int32
def sP (x : St) : Nat := x.1
def sS (x : St) : Nat := x.2.1
def sV (x : St) : Nat → Nat := x.2.2.1
def sA (x : St) : Nat → Nat → Nat := x.2.2.2.1
def sD (x : St) : Int32 := x.2.2.2.2
def uV (x : St) (k v : Nat) : St := (x.1, x.2.1, upA x.2.2.1 k v, x.2.2.2.1, x.2.2.2.2)
def uA (x : St) (k i v : Nat) : St := (x.1, x.2.1, x.2.2.1, upA x.2.2.2.1 k (upA (x.2.2.2.1 k) i v), x.2.2.2.2)
def uR (x : St) (k : Nat) (g : Nat → Nat) : St := (x.1, x.2.1, x.2.2.1, upA x.2.2.2.1 k g, x.2.2.2.2)
def uD (x : St) (d : Int32) : St := (x.1, x.2.1, x.2.2.1, x.2.2.2.1, d)
def ln (k : Nat) : Nat := [8, 8, 8, 8, 8, 6, 6, 6, 48, 48].getD k 0
/-- how the years stand in a cell -/
def hv (c : Nat) : Int32 := if c = 0 then -1 else nI (c - 1)
theorem hv0 : hv 0 = -1 := rfl
theorem hvS (k : Nat) : hv (k + 1) = nI k := by unfold hv; rw [if_neg (by omega)]; rfl
theorem nI_nm1 {k : Nat} (h : k ≤ 100000) : ¬ nI k = -1 := by
  intro e
  have := congrArg Int32.toInt e
  rw [nI_toInt (by omega)] at this
  have h2 : (-1 : Int32).toInt = -1 := rfl
  omega
theorem hv_m1 {c : Nat} (h : c ≤ 100000) : hv c = -1 ↔ c = 0 := by
  cases c with
  | zero => simp [hv0]
  | succ k => rw [hvS]; simp [nI_nm1 (show k ≤ 100000 by omega)]
theorem hv_inj {a b : Nat} (ha : a ≤ 100000) (hb : b ≤ 100000) : hv a = hv b ↔ a = b := by
  cases a with
  | zero => rw [hv0, eq_comm, hv_m1 hb]; omega
  | succ a =>
    cases b with
    | zero => rw [hv0, hv_m1 ha]
    | succ b => rw [hvS, hvS, nI_eq (by omega) (by omega)]; omega
theorem nI0 {k : Nat} (h : k ≤ 100000) : nI k = 0 ↔ k = 0 := nI_eq (a := k) (b := 0) (by omega) (by omega)
theorem nIe {a b : Nat} (ha : a ≤ 100000) (hb : b ≤ 100000) : nI a = nI b ↔ a = b := nI_eq (by omega) (by omega)
theorem nIl {a b : Nat} (ha : a ≤ 100000) (hb : b ≤ 100000) : nI a ≤ nI b ↔ a ≤ b := nI_leI (by omega) (by omega)
theorem nIt {a b : Nat} (ha : a ≤ 100000) (hb : b ≤ 100000) : nI a < nI b ↔ a < b := nI_ltI (by omega) (by omega)
theorem nI1 (i : Nat) : nI i + 1 = nI (i + 1) := nI_add i 1
theorem leN {b m : Nat} (h : b < m) (hm : m ≤ 100000) : ¬ nI m ≤ nI b := by rw [nIl hm (by omega)]; omega
theorem leY {b m : Nat} (h : m ≤ b) (hb : b ≤ 100000) : nI m ≤ nI b := by rw [nIl (by omega) hb]; omega
theorem ltN {b m : Nat} (h : b ≤ m) (hm : m ≤ 100000) : ¬ nI m < nI b := by rw [nIt hm (by omega)]; omega
theorem ltY {b m : Nat} (h : m < b) (hb : b ≤ 100000) : nI m < nI b := by rw [nIt (by omega) hb]; omega
theorem eqN {b m : Nat} (h : b ≠ m) (hm : m ≤ 100000) (hb : b ≤ 100000) : ¬ nI b = nI m := by rw [nIe hb hm]; exact h
/-- the numbers' bounds -/
def bnd (k : Nat) : Nat := [6, 10, 10, 10, 256, 10, 5, 3, 5, 101].getD k 0
def Ok (x : St) : Prop := sP x ≤ 8 ∧ sS x ≤ 6 ∧ sV x 2 < 10 ∧ sV x 3 < 1000 ∧ sV x 5 < 256 ∧ (∀ k, k < 9 → ∀ i, i < ln k → sA x k i < bnd k) ∧ (∀ p, p < sP x → ∀ s, s < sS x → sA x 9 (p * 6 + s) ≤ 100)
/-- an Isle's cells at a -/
def IsI (h : HP) (a : Nat) : Prop := OA 0 h a ∧ (∀ k, k < 10 → IA h (a + 1 + k) (ln k)) ∧ (∀ k, k < 10 → hR h a (6 + k) = some (a + 1 + k))
theorem IsI.r {h : HP} {a : Nat} (H : IsI h a) (k : Nat) (hk : k < 10) {j : Nat} (hj : 6 + k = j) {b : Nat} (hb : a + 1 + k = b) : gR 0 j a h = some b := by
  subst hj; subst hb
  exact gR_ok H.1 (H.2.2 k hk)
theorem IsI.a {h : HP} {a : Nat} (H : IsI h a) (k : Nat) (hk : k < 10) {b : Nat} (hb : a + 1 + k = b) {n : Nat} (hn : ln k = n) : IA h b n := by
  subst hb; subst hn
  exact H.2.1 k hk
theorem Fr.I {a n b : Nat} {h h' : HP} (f : Fr a n h h') (H : IsI h b) : IsI h' b :=
  ⟨f.OA H.1, fun k hk => f.IA (H.2.1 k hk), fun k hk => by rw [f.2.2.2.1]; exact H.2.2 k hk⟩
/-- the cells at o (numbers, by their places φ) and from b on (rows) are the isle x -/
def VG (φ : Nat → Nat) (o b : Nat) (h : HP) (x : St) : Prop := hI h o (φ 0) = nI (sP x) ∧ hI h o (φ 1) = nI (sS x) ∧ hI h o (φ 2) = nI (sV x 2) ∧ hI h o (φ 3) = nI (sV x 3) ∧ hI h o (φ 4) = sD x ∧ hI h o (φ 5) = nI (sV x 5) ∧ (∀ k, k < 9 → ∀ i, i < ln k → hI h (b + k) i = nI (sA x k i)) ∧
  (∀ p, p < sP x → ∀ s, s < sS x → hI h (b + 9) (p * 6 + s) = hv (sA x 9 (p * 6 + s)))
theorem VG.fr {φ : Nat → Nat} {o b a n : Nat} {h h' : HP} {x : St} (f : Fr a n h h') (ho : o < a ∨ a + n ≤ o) (hd : b + 10 ≤ a ∨ a + n ≤ b) (V : VG φ o b h x) : VG φ o b h' x := by
  have e : ∀ q, b ≤ q → q < b + 10 → hI h' q = hI h q := fun q h1 h2 => f.2.2.2.2.2 q (by omega)
  have e0 : hI h' o = hI h o := f.2.2.2.2.2 o ho
  obtain ⟨v1, v2, v3, v4, v5, v6, v7, v8⟩ := V
  refine ⟨by rw [e0]; exact v1, by rw [e0]; exact v2, by rw [e0]; exact v3, by rw [e0]; exact v4, by rw [e0]; exact v5, by rw [e0]; exact v6, fun k hk i hi => by rw [e _ (by omega) (by omega)]; exact v7 k hk i hi, fun p hp s hs => by rw [e _ (by omega) (by omega)]; exact v8 p hp s hs⟩
/-- alike wherever it matters -/
def EqA (x y : St) : Prop := sP x = sP y ∧ sS x = sS y ∧ sV x 2 = sV y 2 ∧ sV x 3 = sV y 3 ∧ sV x 5 = sV y 5 ∧ sD x = sD y ∧ (∀ k, k < 9 → ∀ i, i < ln k → sA x k i = sA y k i) ∧ (∀ p, p < sP x → ∀ s, s < sS x → sA x 9 (p * 6 + s) = sA y 9 (p * 6 + s))
theorem EqA.rf (x : St) : EqA x x := ⟨rfl, rfl, rfl, rfl, rfl, rfl, fun _ _ _ _ => rfl, fun _ _ _ _ => rfl⟩
theorem EqA.sy {x y : St} (E : EqA x y) : EqA y x := by
  obtain ⟨e1, e2, e3, e4, e5, e6, e7, e8⟩ := E
  exact ⟨e1.symm, e2.symm, e3.symm, e4.symm, e5.symm, e6.symm, fun k hk i hi => (e7 k hk i hi).symm, fun p hp s hs => (e8 p (by omega) s (by omega)).symm⟩
theorem VG.ext {φ : Nat → Nat} {o b : Nat} {h : HP} {x y : St} (V : VG φ o b h x) (E : EqA x y) : VG φ o b h y := by
  obtain ⟨v1, v2, v3, v4, v5, v6, v7, v8⟩ := V
  obtain ⟨e1, e2, e3, e4, e5, e6, e7, e8⟩ := E
  exact ⟨by rw [v1, e1], by rw [v2, e2], by rw [v3, e3], by rw [v4, e4], by rw [v5, e6], by rw [v6, e5], fun k hk i hi => by rw [v7 k hk i hi, e7 k hk i hi], fun p hp s hs => by rw [v8 p (by omega) s (by omega), e8 p (by omega) s (by omega)]⟩
theorem sP_uV (x : St) (k v : Nat) : sP (uV x k v) = sP x := rfl
theorem sP_uA (x : St) (k i v : Nat) : sP (uA x k i v) = sP x := rfl
theorem sP_uD (x : St) (d : Int32) : sP (uD x d) = sP x := rfl
theorem sS_uV (x : St) (k v : Nat) : sS (uV x k v) = sS x := rfl
theorem sS_uA (x : St) (k i v : Nat) : sS (uA x k i v) = sS x := rfl
theorem sS_uD (x : St) (d : Int32) : sS (uD x d) = sS x := rfl
theorem sD_uV (x : St) (k v : Nat) : sD (uV x k v) = sD x := rfl
theorem sD_uA (x : St) (k i v : Nat) : sD (uA x k i v) = sD x := rfl
theorem sD_uD (x : St) (d : Int32) : sD (uD x d) = d := rfl
theorem sV_uA (x : St) (k i v j : Nat) : sV (uA x k i v) j = sV x j := rfl
theorem sV_uD (x : St) (d : Int32) (j : Nat) : sV (uD x d) j = sV x j := rfl
theorem sA_uV (x : St) (k v r i : Nat) : sA (uV x k v) r i = sA x r i := rfl
theorem sA_uD (x : St) (d : Int32) (r i : Nat) : sA (uD x d) r i = sA x r i := rfl
theorem sA_uA (x : St) (k i v k' i' : Nat) : sA (uA x k i v) k' i' = if k' = k ∧ i' = i then v else sA x k' i' := by
  show upA (sA x) k (upA (sA x k) i v) k' i' = _
  unfold upA
  by_cases h1 : k' = k
  · subst h1
    by_cases h2 : i' = i
    · simp [h2]
    · simp [h2]
  · simp [h1]
theorem sV_uV (x : St) (k v k' : Nat) : sV (uV x k v) k' = if k' = k then v else sV x k' := rfl
/-- a cell of a row is another -/
theorem VG.row {φ : Nat → Nat} {o b : Nat} {h : HP} {x : St} (V : VG φ o b h x) (hob : o < b ∨ b + 10 ≤ o) {k i v : Nat} (hk : k < 9) {q : Nat} (hq : b + k = q) : VG φ o b (wI h q (upd (hI h q) i (nI v))) (uA x k i v) := by
  subst hq
  obtain ⟨v1, v2, v3, v4, v5, v6, v7, v8⟩ := V
  have e0 : hI (wI h (b + k) (upd (hI h (b + k)) i (nI v))) o = hI h o := hI_wn h _ (by omega)
  refine ⟨by rw [e0]; exact v1, by rw [e0]; exact v2, by rw [e0]; exact v3, by rw [e0]; exact v4, by rw [e0]; exact v5, by rw [e0]; exact v6, fun k' hk' i' hi' => ?_, fun p hp s hs => ?_⟩
  · rw [sA_uA]
    by_cases h1 : k' = k
    · subst h1
      rw [hI_w]
      by_cases h2 : i' = i
      · subst h2
        rw [upd_s, if_pos ⟨rfl, rfl⟩]
      · rw [upd_n _ _ h2, if_neg (fun q => h2 q.2)]
        exact v7 k' hk' i' hi'
    · rw [hI_wn h _ (by omega), if_neg (fun q => h1 q.1)]
      exact v7 k' hk' i' hi'
  · rw [hI_wn h _ (by omega), sA_uA, if_neg (by omega)]
    exact v8 p hp s hs
theorem VG.held {φ : Nat → Nat} {o b : Nat} {h : HP} {x : St} (V : VG φ o b h x) (hob : o < b ∨ b + 10 ≤ o) {j c : Nat} {q : Nat} (hq : b + 9 = q) : VG φ o b (wI h q (upd (hI h q) j (hv c))) (uA x 9 j c) := by
  subst hq
  obtain ⟨v1, v2, v3, v4, v5, v6, v7, v8⟩ := V
  have e0 : hI (wI h (b + 9) (upd (hI h (b + 9)) j (hv c))) o = hI h o := hI_wn h _ (by omega)
  refine ⟨by rw [e0]; exact v1, by rw [e0]; exact v2, by rw [e0]; exact v3, by rw [e0]; exact v4, by rw [e0]; exact v5, by rw [e0]; exact v6, fun k' hk' i' hi' => ?_, fun p' hp' s' hs' => ?_⟩
  · rw [hI_wn h _ (by omega), sA_uA, if_neg (by omega)]
    exact v7 k' hk' i' hi'
  · rw [hI_w, sA_uA]
    by_cases h2 : p' * 6 + s' = j
    · rw [h2, upd_s, if_pos ⟨rfl, rfl⟩]
    · rw [upd_n _ _ h2, if_neg (fun q => h2 q.2)]
      exact v8 p' hp' s' hs'
/-- the places of the numbers are apart -/
def Apart (φ : Nat → Nat) : Prop := ∀ i, i < 6 → ∀ j, j < 6 → φ i = φ j → i = j
theorem VG.num {φ : Nat → Nat} {o b : Nat} {h : HP} {x : St} (V : VG φ o b h x) (hφ : Apart φ) (hob : o < b ∨ b + 10 ≤ o) {k v : Nat} (hk : k = 2 ∨ k = 3 ∨ k = 5) {q : Nat} (hq : φ k = q) : VG φ o b (wI h o (upd (hI h o) q (nI v))) (uV x k v) := by
  subst hq
  obtain ⟨v1, v2, v3, v4, v5, v6, v7, v8⟩ := V
  have er : ∀ q, q ≠ o → hI (wI h o (upd (hI h o) (φ k) (nI v))) q = hI h q := fun q hq => hI_wn h _ hq
  have ne : ∀ j, j < 6 → j ≠ k → φ j ≠ φ k := fun j hj h1 h2 => h1 (hφ j hj k (by omega) h2)
  refine ⟨?_, ?_, ?_, ?_, ?_, ?_, fun k' hk' i' hi' => by rw [er _ (by omega)]; exact v7 k' hk' i' hi', fun p hp s hs => by rw [er _ (by omega)]; exact v8 p hp s hs⟩
  · rw [hI_w, upd_n _ _ (ne 0 (by omega) (by omega))]; exact v1
  · rw [hI_w, upd_n _ _ (ne 1 (by omega) (by omega))]; exact v2
  · rw [hI_w, sV_uV]
    by_cases e : 2 = k
    · rw [← e, upd_s, if_pos rfl]
    · rw [upd_n _ _ (ne 2 (by omega) e), if_neg e]; exact v3
  · rw [hI_w, sV_uV]
    by_cases e : 3 = k
    · rw [← e, upd_s, if_pos rfl]
    · rw [upd_n _ _ (ne 3 (by omega) e), if_neg e]; exact v4
  · rw [hI_w, upd_n _ _ (ne 4 (by omega) (by omega))]; exact v5
  · rw [hI_w, sV_uV]
    by_cases e : 5 = k
    · rw [← e, upd_s, if_pos rfl]
    · rw [upd_n _ _ (ne 5 (by omega) e), if_neg e]; exact v6
theorem VG.seed {φ : Nat → Nat} {o b : Nat} {h : HP} {x : St} (V : VG φ o b h x) (hφ : Apart φ) (hob : o < b ∨ b + 10 ≤ o) {d : Int32} {q : Nat} (hq : φ 4 = q) : VG φ o b (wI h o (upd (hI h o) q d)) (uD x d) := by
  subst hq
  obtain ⟨v1, v2, v3, v4, v5, v6, v7, v8⟩ := V
  have er : ∀ q, q ≠ o → hI (wI h o (upd (hI h o) (φ 4) d)) q = hI h q := fun q hq => hI_wn h _ hq
  have ne : ∀ j, j < 6 → j ≠ 4 → φ j ≠ φ 4 := fun j hj h1 h2 => h1 (hφ j hj 4 (by omega) h2)
  refine ⟨?_, ?_, ?_, ?_, ?_, ?_, fun k' hk' i' hi' => by rw [er _ (by omega)]; exact v7 k' hk' i' hi', fun p hp s hs => by rw [er _ (by omega)]; exact v8 p hp s hs⟩
  · rw [hI_w, upd_n _ _ (ne 0 (by omega) (by omega))]; exact v1
  · rw [hI_w, upd_n _ _ (ne 1 (by omega) (by omega))]; exact v2
  · rw [hI_w, upd_n _ _ (ne 2 (by omega) (by omega))]; exact v3
  · rw [hI_w, upd_n _ _ (ne 3 (by omega) (by omega))]; exact v4
  · rw [hI_w, upd_s]; rfl
  · rw [hI_w, upd_n _ _ (ne 5 (by omega) (by omega))]; exact v6
/-- the class's Isle at a is x -/
def φC : Nat → Nat := fun k => k
def VC (h : HP) (a : Nat) (x : St) : Prop := VG φC a (a + 1) h x
theorem φC_ap : Apart φC := fun _ _ _ _ h => h
theorem VC.p {h : HP} {a : Nat} {x : St} (V : VC h a x) : hI h a 0 = nI (sP x) := V.1
theorem VC.s {h : HP} {a : Nat} {x : St} (V : VC h a x) : hI h a 1 = nI (sS x) := V.2.1
theorem VC.w {h : HP} {a : Nat} {x : St} (V : VC h a x) : hI h a 2 = nI (sV x 2) := V.2.2.1
theorem VC.y {h : HP} {a : Nat} {x : St} (V : VC h a x) : hI h a 3 = nI (sV x 3) := V.2.2.2.1
theorem VC.d {h : HP} {a : Nat} {x : St} (V : VC h a x) : hI h a 4 = sD x := V.2.2.2.2.1
theorem VC.hm {h : HP} {a : Nat} {x : St} (V : VC h a x) : hI h a 5 = nI (sV x 5) := V.2.2.2.2.2.1
theorem VC.fr {a n b : Nat} {h h' : HP} {x : St} (f : Fr a n h h') (hd : b + 11 ≤ a ∨ a + n ≤ b) (V : VC h b x) : VC h' b x := VG.fr f (by omega) (by omega) V
theorem VC_row {h : HP} {a : Nat} {x : St} (V : VC h a x) {k i v : Nat} (hk : k < 9) {b : Nat} (hb : a + 1 + k = b) : VC (wI h b (upd (hI h b) i (nI v))) a (uA x k i v) := VG.row V (by omega) hk hb
theorem VC_held {h : HP} {a : Nat} {x : St} (V : VC h a x) {j c : Nat} : VC (wI h (a + 10) (upd (hI h (a + 10)) j (hv c))) a (uA x 9 j c) := VG.held V (by omega) (by omega)
theorem VC_num {h : HP} {a : Nat} {x : St} (V : VC h a x) {k v : Nat} (hk : k = 2 ∨ k = 3 ∨ k = 5) : VC (wI h a (upd (hI h a) k (nI v))) a (uV x k v) := VG.num V φC_ap (by omega) hk rfl
theorem VC_seed {h : HP} {a : Nat} {x : St} (V : VC h a x) {d : Int32} : VC (wI h a (upd (hI h a) 4 d)) a (uD x d) := VG.seed V φC_ap (by omega) rfl
theorem VC.ext {h : HP} {a : Nat} {x y : St} (V : VC h a x) (E : EqA x y) : VC h a y := VG.ext V E
/-- a loop: a turn is due for every number below n, and the way out at n -/
theorem loop_gen {α ρ : Type} (run : Nat → α → Option ρ) (J : Nat → α → Prop) (n : Nat) (out : α → Option ρ) (hx : ∀ k a, J n a → run (k + 1) a = out a) (hs : ∀ k i a, i < n → J i a → ∃ a', run (k + 1) a = run k a' ∧ J (i + 1) a') :
    ∀ (j i k : Nat) (a : α), i + j = n → j < k → J i a → ∃ a', run k a = out a' ∧ J n a' := by
  intro j
  induction j with
  | zero =>
    intro i k a h1 h2 hJ
    obtain ⟨k, rfl⟩ : ∃ k', k = k' + 1 := ⟨k - 1, by omega⟩
    have : i = n := by omega
    subst this
    exact ⟨a, hx k a hJ, hJ⟩
  | succ j ih =>
    intro i k a h1 h2 hJ
    obtain ⟨k, rfl⟩ : ∃ k', k = k' + 1 := ⟨k - 1, by omega⟩
    obtain ⟨a', e, hJ'⟩ := hs k i a (by omega) hJ
    obtain ⟨a'', e2, hJ''⟩ := ih (i + 1) k a' (by omega) (by omega) hJ'
    exact ⟨a'', e.trans e2, hJ''⟩
/-- from the number 0 on, with fuel 1000 -/
theorem loop_0' {α ρ : Type} (run : Nat → α → Option ρ) (J : Nat → α → Prop) (n : Nat) (hn : n < 1000) (out : α → Option ρ) (a : α) (h0 : J 0 a) (hx : ∀ k a, J n a → run (k + 1) a = out a) (hs : ∀ k i a, i < n → J i a → ∃ a', run (k + 1) a = run k a' ∧ J (i + 1) a') :
    ∃ a', run 1000 a = out a' ∧ J n a' := loop_gen run J n out hx hs n 0 1000 a (by omega) hn h0

theorem loop_hp {ρ : Type} {lp : Nat → Int32 → HP → Option ρ} (J : Nat → HP → Prop) (n : Nat) (hn : n < 1000) {h : HP} (h0 : J 0 h) {K : HP → Option ρ} (hx : ∀ k h1, J n h1 → lp (k + 1) (nI n) h1 = K h1) (hs : ∀ k i h1, i < n → J i h1 → ∃ h2, lp (k + 1) (nI i) h1 = lp k (nI (i + 1)) h2 ∧ J (i + 1) h2) :
    ∃ h', lp 1000 0 h = K h' ∧ J n h' := by
  obtain ⟨a', e, -, hJ⟩ := loop_0' (fun k (q : Int32 × HP) => lp k q.1 q.2) (fun i q => q.1 = nI i ∧ J i q.2) n hn (fun q => K q.2) (0, h) ⟨rfl, h0⟩ (fun k q hq => by obtain ⟨i, q⟩ := q; obtain ⟨rfl, hq⟩ := hq; exact hx k q hq) (fun k i q hi hq => by
    obtain ⟨i', q⟩ := q
    obtain ⟨rfl, hq⟩ := hq
    obtain ⟨h2, e, hJ⟩ := hs k i q hi hq
    exact ⟨(nI (i + 1), h2), e, rfl, hJ⟩)
  exact ⟨a'.2, e, hJ⟩
theorem loop_ha {ρ : Type} {lp : Nat → Int32 → Int32 → HP → Option ρ} (acc : Nat → Int32) (J : Nat → HP → Prop) (n : Nat) (hn : n < 1000) {h : HP} (h0 : J 0 h) {K : Int32 → HP → Option ρ} (hx : ∀ k h1, J n h1 → lp (k + 1) (acc n) (nI n) h1 = K (acc n) h1) (hs : ∀ k i h1, i < n → J i h1 → ∃ h2, lp (k + 1) (acc i) (nI i) h1 = lp k (acc (i + 1)) (nI (i + 1)) h2 ∧ J (i + 1) h2) :
    ∃ h', lp 1000 (acc 0) 0 h = K (acc n) h' ∧ J n h' := by
  obtain ⟨a', e, e1, e2, hJ⟩ := loop_0' (fun k (q : Int32 × Int32 × HP) => lp k q.1 q.2.1 q.2.2) (fun i q => q.1 = acc i ∧ q.2.1 = nI i ∧ J i q.2.2) n hn (fun q => K q.1 q.2.2) (acc 0, 0, h) ⟨rfl, rfl, h0⟩ (fun k q hq => by obtain ⟨a, i, q⟩ := q; obtain ⟨rfl, rfl, hq⟩ := hq; exact hx k q hq) (fun k i q hi hq => by
    obtain ⟨a, i', q⟩ := q
    obtain ⟨rfl, rfl, hq⟩ := hq
    obtain ⟨h2, e, hJ⟩ := hs k i q hi hq
    exact ⟨(acc (i + 1), nI (i + 1), h2), e, rfl, rfl, hJ⟩)
  refine ⟨a'.2.2, ?_, hJ⟩
  rw [← e1]
  exact e
/-- a cell of held that nobody looks at -/
theorem VG.free {φ : Nat → Nat} {o b : Nat} {h : HP} {x : St} (V : VG φ o b h x) (hob : o < b ∨ b + 10 ≤ o) {j : Nat} {v : Int32} {q : Nat} (hq : b + 9 = q) (hj : ∀ p, p < sP x → ∀ s, s < sS x → p * 6 + s ≠ j) : VG φ o b (wI h q (upd (hI h q) j v)) x := by
  subst hq
  obtain ⟨v1, v2, v3, v4, v5, v6, v7, v8⟩ := V
  have e0 : hI (wI h (b + 9) (upd (hI h (b + 9)) j v)) o = hI h o := hI_wn h _ (by omega)
  refine ⟨by rw [e0]; exact v1, by rw [e0]; exact v2, by rw [e0]; exact v3, by rw [e0]; exact v4, by rw [e0]; exact v5, by rw [e0]; exact v6, fun k' hk' i' hi' => ?_, fun p' hp' s' hs' => ?_⟩
  · rw [hI_wn h _ (by omega)]
    exact v7 k' hk' i' hi'
  · rw [hI_w, upd_n _ _ (hj p' hp' s' hs')]
    exact v8 p' hp' s' hs'
def newP (x : St) : St := (sP x + 1, sS x, sV x, fun r i => if r = 9 ∧ i / 6 = sP x then 0 else sA x r i, sD x)
def newS (x : St) : St := (sP x, sS x + 1, sV x, fun r i => if r = 9 ∧ i % 6 = sS x then 0 else sA x r i, sD x)
theorem VG.newP {φ : Nat → Nat} {o b : Nat} {h : HP} {x : St} (V : VG φ o b h x) (hφ : Apart φ) (hob : o < b ∨ b + 10 ≤ o) (hS : sS x ≤ 6) (hr : ∀ s, s < 6 → hI h (b + 9) (sP x * 6 + s) = -1) {q : Nat} (hq : φ 0 = q) : VG φ o b (wI h o (upd (hI h o) q (nI (sP x + 1)))) (newP x) := by
  subst hq
  obtain ⟨v1, v2, v3, v4, v5, v6, v7, v8⟩ := V
  have er : ∀ q, q ≠ o → hI (wI h o (upd (hI h o) (φ 0) (nI (sP x + 1)))) q = hI h q := fun q hq => hI_wn h _ hq
  have ne : ∀ j, j < 6 → j ≠ 0 → φ j ≠ φ 0 := fun j hj h1 h2 => h1 (hφ j hj 0 (by omega) h2)
  refine ⟨by rw [hI_w, upd_s]; rfl, by rw [hI_w, upd_n _ _ (ne 1 (by omega) (by omega))]; exact v2, by rw [hI_w, upd_n _ _ (ne 2 (by omega) (by omega))]; exact v3, by rw [hI_w, upd_n _ _ (ne 3 (by omega) (by omega))]; exact v4, by rw [hI_w, upd_n _ _ (ne 4 (by omega) (by omega))]; exact v5, by rw [hI_w, upd_n _ _ (ne 5 (by omega) (by omega))]; exact v6, fun k hk i hi => ?_, fun p hp s hs => ?_⟩
  · rw [er _ (by omega), v7 k hk i hi]
    show _ = nI (if k = 9 ∧ i / 6 = sP x then 0 else sA x k i)
    rw [if_neg (by omega)]
  · rw [er _ (by omega)]
    have hs' : s < sS x := hs
    have hp' : p < sP x + 1 := hp
    show _ = hv (if 9 = 9 ∧ (p * 6 + s) / 6 = sP x then 0 else sA x 9 (p * 6 + s))
    by_cases e : p = sP x
    · subst e
      rw [if_pos ⟨rfl, by omega⟩, hr s (by omega)]
      rfl
    · rw [if_neg (by omega)]
      exact v8 p (by omega) s hs'
theorem VG.newS {φ : Nat → Nat} {o b : Nat} {h : HP} {x : St} (V : VG φ o b h x) (hφ : Apart φ) (hob : o < b ∨ b + 10 ≤ o) (hS : sS x < 6) (hr : ∀ p, p < sP x → hI h (b + 9) (p * 6 + sS x) = -1) {q : Nat} (hq : φ 1 = q) : VG φ o b (wI h o (upd (hI h o) q (nI (sS x + 1)))) (newS x) := by
  subst hq
  obtain ⟨v1, v2, v3, v4, v5, v6, v7, v8⟩ := V
  have er : ∀ q, q ≠ o → hI (wI h o (upd (hI h o) (φ 1) (nI (sS x + 1)))) q = hI h q := fun q hq => hI_wn h _ hq
  have ne : ∀ j, j < 6 → j ≠ 1 → φ j ≠ φ 1 := fun j hj h1 h2 => h1 (hφ j hj 1 (by omega) h2)
  refine ⟨by rw [hI_w, upd_n _ _ (ne 0 (by omega) (by omega))]; exact v1, by rw [hI_w, upd_s]; rfl, by rw [hI_w, upd_n _ _ (ne 2 (by omega) (by omega))]; exact v3, by rw [hI_w, upd_n _ _ (ne 3 (by omega) (by omega))]; exact v4, by rw [hI_w, upd_n _ _ (ne 4 (by omega) (by omega))]; exact v5, by rw [hI_w, upd_n _ _ (ne 5 (by omega) (by omega))]; exact v6, fun k hk i hi => ?_, fun p hp s hs => ?_⟩
  · rw [er _ (by omega), v7 k hk i hi]
    show _ = nI (if k = 9 ∧ i % 6 = sS x then 0 else sA x k i)
    rw [if_neg (by omega)]
  · rw [er _ (by omega)]
    have hs' : s < sS x + 1 := hs
    have hp' : p < sP x := hp
    show _ = hv (if 9 = 9 ∧ (p * 6 + s) % 6 = sS x then 0 else sA x 9 (p * 6 + s))
    by_cases e : s = sS x
    · subst e
      rw [if_pos ⟨rfl, by omega⟩, hr p hp']
      rfl
    · rw [if_neg (by omega)]
      exact v8 p hp' s (by omega)
