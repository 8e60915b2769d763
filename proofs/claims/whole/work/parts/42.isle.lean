/-! THE CLASS'S ISLE: what its questions answer -/
/-- one has a song -/
def has (x : St) (p s : Nat) : Bool := decide (sA x 9 (p * 6 + s) ≠ 0)
def havN (x : St) (s : Nat) : Nat := bsN (fun p => has x p s) (sP x)
def repN (x : St) (p : Nat) : Nat := bsN (fun s => has x p s) (sS x)
def kacc (x : St) : Nat → Nat
  | 0 => 0
  | p + 1 => kacc x p ||| repN x p
def knoN (x : St) : Nat := kacc x (sP x)
def staN (x : St) (w : Nat) : Nat := bsN (fun s => decide (sA x 7 s = w)) (sS x)
def nonN (x : St) : Nat := bsN (fun p => decide (repN x p = 0)) (sP x)
def allN (x : St) (w : Nat) : Nat := bsN (fun p => decide (repN x p &&& w = w)) (sP x)
/-- the best so far (0: none) and its count -/
def mosF (x : St) : Nat → Nat × Nat
  | 0 => (0, 0)
  | s + 1 => if (mosF x s).1 = 0 ∨ (mosF x s).2 < pop (havN x s) then (s + 1, pop (havN x s)) else mosF x s
def leaF (x : St) : Nat → Nat × Nat
  | 0 => (0, 9)
  | s + 1 => if pop (havN x s) < (leaF x s).2 then (s + 1, pop (havN x s)) else leaF x s
/-- the table: one turn over the others, one after the other -/
def tabF (x : St) (m : Nat) : Nat → Nat
  | 0 => m
  | o + 1 => if tb (tabF x m o) o = 1 then tabF x m o ||| sA x 4 o else tabF x m o
def tabR (x : St) (m : Nat) : Nat → Nat
  | 0 => m
  | r + 1 => tabF x (tabR x m r) (sP x)
def tabN (x : St) (p : Nat) : Nat := tabR x (2 ^ p) (sP x)
/-- HOLD -/
def holdN (x : St) (p hd : Nat) : Nat :=
  let b := sA x 2 p + hd - sA x 3 p
  if sA x 0 p = 1 then b - sA x 1 p else if sA x 0 p = 3 then (b - sA x 1 p + 1) / 2 else if sA x 0 p = 2 then b - sV x 2 else if sA x 0 p = 4 then b - sV x 2 + 5 else if sA x 0 p = 5 then 2 * b else b
def cntN (x : St) (w : Nat) : Nat → Nat
  | 0 => 0
  | p + 1 => if sA x 0 p = w then cntN x w p + 1 else cntN x w p
/-- the one of greatest memory (0: none, else his number and 1) -/
def besF (x : St) : Nat → Nat
  | 0 => 0
  | p + 1 => if besF x p = 0 ∨ sA x 2 (besF x p - 1) < sA x 2 p then p + 1 else besF x p
def besN (x : St) : Nat := besF x (sP x)
theorem besF_le (x : St) : ∀ n, besF x n ≤ n
  | 0 => Nat.le_refl _
  | n + 1 => by
    have := besF_le x n
    unfold besF
    split <;> omega
theorem Ok.b {x : St} (O : Ok x) (k i : Nat) (hk : k < 9) (hi : i < ln k) : sA x k i < bnd k := O.2.2.2.2.2.1 k hk i hi
theorem Ok.h {x : St} (O : Ok x) {p s : Nat} (hp : p < sP x) (hs : s < sS x) : sA x 9 (p * 6 + s) ≤ 100 := O.2.2.2.2.2.2 p hp s hs
theorem Ok.i {x : St} (O : Ok x) {p s : Nat} (hp : p < sP x) (hs : s < sS x) : p * 6 + s < 48 := by
  have := O.1
  have := O.2.1
  omega
theorem havN_lt {x : St} (O : Ok x) (s : Nat) : havN x s < 256 := Nat.lt_of_lt_of_le (bsN_le O.1) (by decide)
theorem repN_lt {x : St} (O : Ok x) (p : Nat) : repN x p < 64 := Nat.lt_of_lt_of_le (bsN_le O.2.1) (by decide)
theorem kacc_lt {x : St} (O : Ok x) : ∀ n, kacc x n < 64
  | 0 => show 0 < 64 by decide
  | n + 1 => Nat.or_lt_two_pow (n := 6) (kacc_lt O n) (repN_lt O n)
theorem knoN_lt {x : St} (O : Ok x) : knoN x < 64 := kacc_lt O _
section ISLE
variable {h : HP} {a : Nat} {x : St}
theorem V_arr (V : VC h a x) (k : Nat) (hk : k < 9) {i : Nat} (hi : i < ln k) {b : Nat} (hb : a + 1 + k = b) : hI h b i = nI (sA x k i) := by
  subst hb
  exact V.2.2.2.2.2.2.1 k hk i hi
theorem V_has (V : VC h a x) {p s : Nat} (hp : p < sP x) (hs : s < sS x) : hI h (a + 10) (p * 6 + s) = hv (sA x 9 (p * 6 + s)) := V.2.2.2.2.2.2.2 p hp s hs
/-- a cell of a row -/
theorem I_ld (H : IsI h a) (V : VC h a x) (k : Nat) (hk : k < 9) {i : Nat} (hi : i < ln k) {b : Nat} (hb : a + 1 + k = b) : lI b (nI i) h = some (nI (sA x k i)) := by
  have hl : ln k ≤ 100000 := by
    have : ∀ k, k < 10 → ln k ≤ 48 := by decide
    have := this k (by omega)
    omega
  rw [lI_ok (H.a k (by omega) hb rfl) hi hl, V_arr V k hk hi hb]
theorem s_heldFor (H : IsI h a) (O : Ok x) (V : VC h a x) {p s : Nat} (hp : p < sP x) (hs : s < sS x) : f_X0_heldFor a (nI p) (nI s) h = some (hv (sA x 9 (p * 6 + s)), h) := by
  unfold f_X0_heldFor
  rw [H.r 9 (by decide) rfl rfl, bd_ok, idx6, lI_ok (H.a 9 (by decide) rfl rfl) (O.i hp hs) (by decide), bd_ok, V_has V hp hs]
theorem has_iff (O : Ok x) {p s : Nat} (hp : p < sP x) (hs : s < sS x) : hv (sA x 9 (p * 6 + s)) = -1 ↔ ¬ has x p s = true := by
  rw [hv_m1 (by have := O.h hp hs; omega)]
  unfold has
  simp
theorem loop_acc {ρ : Type} {lp : Nat → Int32 → Int32 → HP → Option ρ} (n : Nat) (hn : n < 1000) (acc : Nat → Int32) (h : HP) {K : Int32 → HP → Option ρ} (hx : ∀ k, lp (k + 1) (acc n) (nI n) h = K (acc n) h) (hs : ∀ k i, i < n → lp (k + 1) (acc i) (nI i) h = lp k (acc (i + 1)) (nI (i + 1)) h) : lp 1000 (acc 0) 0 h = K (acc n) h := by
  obtain ⟨a', e, rfl⟩ := loop_0' (fun k (q : Int32 × Int32) => lp k q.1 q.2 h) (fun i q => q = (acc i, nI i)) n hn (fun q => K q.1 h) (acc 0, 0) rfl (fun k q hq => by subst hq; exact hx k) (fun k i q hi hq => by subst hq; exact ⟨_, hs k i hi, rfl⟩)
  exact e
theorem s_havers (H : IsI h a) (O : Ok x) (V : VC h a x) {s : Nat} (hs : s < sS x) : f_X0_havers a (nI s) h = some (nI (havN x s), h) := by
  have hP := O.1
  refine loop_acc (lp := lp_X0_havers_4 a (nI s) _) (sP x) (by omega) (fun i => nI (bsN (fun p => has x p s) i)) h (K := fun v h => some (v, h)) (fun k => ?_) (fun k i hi => ?_)
  · show lb_X0_havers_4 a (nI s) _ _ _ _ h = _
    unfold lb_X0_havers_4
    rw [gI_ok H.1, bd_ok, V.p, iY (by omega)]
  · show lb_X0_havers_4 a (nI s) _ _ _ _ h = _
    unfold lb_X0_havers_4
    rw [gI_ok H.1, bd_ok, V.p, iN hi (by omega), inv_ok H.1, s_heldFor H O V hi hs, ob_ok, nI_1]
    by_cases q : has x i s = true
    · rw [if_neg (by rw [has_iff O hi hs]; exact fun e => e q), bs_or (f := fun p => has x p s) (by omega) q]
    · rw [if_pos ((has_iff O hi hs).mpr q), bs_no (f := fun p => has x p s) q]
theorem s_repertoire (H : IsI h a) (O : Ok x) (V : VC h a x) {p : Nat} (hp : p < sP x) : f_X0_repertoire a (nI p) h = some (nI (repN x p), h) := by
  have hS := O.2.1
  refine loop_acc (lp := lp_X0_repertoire_4 a (nI p) _) (sS x) (by omega) (fun i => nI (bsN (fun s => has x p s) i)) h (K := fun v h => some (v, h)) (fun k => ?_) (fun k i hi => ?_)
  · show lb_X0_repertoire_4 a (nI p) _ _ _ _ h = _
    unfold lb_X0_repertoire_4
    rw [gI_ok H.1, bd_ok, V.s, iY (by omega)]
  · show lb_X0_repertoire_4 a (nI p) _ _ _ _ h = _
    unfold lb_X0_repertoire_4
    rw [gI_ok H.1, bd_ok, V.s, iN hi (by omega), inv_ok H.1, s_heldFor H O V hp hi, ob_ok, nI_1]
    by_cases q : has x p i = true
    · rw [if_neg (by rw [has_iff O hp hi]; exact fun e => e q), bs_or (f := fun s => has x p s) (by omega) q]
    · rw [if_pos ((has_iff O hp hi).mpr q), bs_no (f := fun s => has x p s) q]
theorem s_known (H : IsI h a) (O : Ok x) (V : VC h a x) : f_X0_knownSongs a h = some (nI (knoN x), h) := by
  have hP := O.1
  refine loop_acc (lp := lp_X0_knownSongs_4 a _) (sP x) (by omega) (fun i => nI (kacc x i)) h (K := fun v h => some (v, h)) (fun k => ?_) (fun k i hi => ?_)
  · show lb_X0_knownSongs_4 a _ _ _ _ h = _
    unfold lb_X0_knownSongs_4
    rw [gI_ok H.1, bd_ok, V.p, iY (by omega)]
  · show lb_X0_knownSongs_4 a _ _ _ _ h = _
    unfold lb_X0_knownSongs_4
    rw [gI_ok H.1, bd_ok, V.p, iN hi (by omega), inv_ok H.1, s_repertoire H O V hi, ob_ok, nI_1, nI_or]
    rfl
theorem s_ofState (H : IsI h a) (O : Ok x) (V : VC h a x) {w : Nat} (hw : w ≤ 100) : f_X0_songsOfState a (nI w) h = some (nI (staN x w), h) := by
  have hS := O.2.1
  refine loop_acc (lp := lp_X0_songsOfState_4 a (nI w) _) (sS x) (by omega) (fun i => nI (bsN (fun s => decide (sA x 7 s = w)) i)) h (K := fun v h => some (v, h)) (fun k => ?_) (fun k i hi => ?_)
  · show lb_X0_songsOfState_4 a (nI w) _ _ _ _ h = _
    unfold lb_X0_songsOfState_4
    rw [gI_ok H.1, bd_ok, V.s, iY (by omega)]
  · show lb_X0_songsOfState_4 a (nI w) _ _ _ _ h = _
    have hi6 : i < ln 7 := by show i < 6; omega
    have hb : sA x 7 i < 3 := O.b 7 i (by decide) hi6
    unfold lb_X0_songsOfState_4
    rw [gI_ok H.1, bd_ok, V.s, iN hi (by omega), H.r 7 (by decide) rfl rfl, bd_ok, I_ld H V 7 (by decide) hi6 rfl, bd_ok, nI_1]
    by_cases q : sA x 7 i = w
    · rw [if_pos (by rw [q]), bs_or (f := fun s => decide (sA x 7 s = w)) (by omega) (decide_eq_true q)]
    · rw [if_neg (by rw [nIe (by omega) (by omega)]; exact q), bs_no (f := fun s => decide (sA x 7 s = w)) (by simpa using q)]
theorem s_none (H : IsI h a) (O : Ok x) (V : VC h a x) : f_X0_peopleWithNone a h = some (nI (nonN x), h) := by
  have hP := O.1
  refine loop_acc (lp := lp_X0_peopleWithNone_4 a _) (sP x) (by omega) (fun i => nI (bsN (fun p => decide (repN x p = 0)) i)) h (K := fun v h => some (v, h)) (fun k => ?_) (fun k i hi => ?_)
  · show lb_X0_peopleWithNone_4 a _ _ _ _ h = _
    unfold lb_X0_peopleWithNone_4
    rw [gI_ok H.1, bd_ok, V.p, iY (by omega)]
  · show lb_X0_peopleWithNone_4 a _ _ _ _ h = _
    have hr := repN_lt O i
    unfold lb_X0_peopleWithNone_4
    rw [gI_ok H.1, bd_ok, V.p, iN hi (by omega), inv_ok H.1, s_repertoire H O V hi, ob_ok, nI_1]
    by_cases q : repN x i = 0
    · rw [if_pos ((nI0 (by omega)).mpr q), bs_or (f := fun p => decide (repN x p = 0)) (by omega) (decide_eq_true q)]
    · rw [if_neg (by rw [nI0 (by omega)]; exact q), bs_no (f := fun p => decide (repN x p = 0)) (by simpa using q)]
theorem s_all (H : IsI h a) (O : Ok x) (V : VC h a x) {w : Nat} (hw : w < 64) : f_X0_peopleWithAll a (nI w) h = some (nI (allN x w), h) := by
  have hP := O.1
  refine loop_acc (lp := lp_X0_peopleWithAll_4 a (nI w) _) (sP x) (by omega) (fun i => nI (bsN (fun p => decide (repN x p &&& w = w)) i)) h (K := fun v h => some (v, h)) (fun k => ?_) (fun k i hi => ?_)
  · show lb_X0_peopleWithAll_4 a (nI w) _ _ _ _ h = _
    unfold lb_X0_peopleWithAll_4
    rw [gI_ok H.1, bd_ok, V.p, iY (by omega)]
  · show lb_X0_peopleWithAll_4 a (nI w) _ _ _ _ h = _
    have hr := repN_lt O i
    have hq : repN x i &&& w ≤ repN x i := Nat.and_le_left
    unfold lb_X0_peopleWithAll_4
    rw [gI_ok H.1, bd_ok, V.p, iN hi (by omega), inv_ok H.1, s_repertoire H O V hi, ob_ok, nI_1, nI_and]
    by_cases q : repN x i &&& w = w
    · rw [if_pos (by rw [q]), bs_or (f := fun p => decide (repN x p &&& w = w)) (by omega) (decide_eq_true q)]
    · rw [if_neg (by rw [nIe (by omega) (by omega)]; exact q), bs_no (f := fun p => decide (repN x p &&& w = w)) (by simpa using q)]
theorem s_count (H : IsI h a) (O : Ok x) (V : VC h a x) {w : Nat} (hw : w ≤ 100) : f_X0_countKind a (nI w) h = some (nI (cntN x w (sP x)), h) := by
  have hP := O.1
  refine loop_acc (lp := lp_X0_countKind_4 a (nI w) _) (sP x) (by omega) (fun i => nI (cntN x w i)) h (K := fun v h => some (v, h)) (fun k => ?_) (fun k i hi => ?_)
  · show lb_X0_countKind_4 a (nI w) _ _ _ _ h = _
    unfold lb_X0_countKind_4
    rw [gI_ok H.1, bd_ok, V.p, iY (by omega)]
  · show lb_X0_countKind_4 a (nI w) _ _ _ _ h = _
    have hi8 : i < ln 0 := by show i < 8; omega
    have hb : sA x 0 i < 6 := O.b 0 i (by decide) hi8
    unfold lb_X0_countKind_4
    rw [gI_ok H.1, bd_ok, V.p, iN hi (by omega), H.r 0 (by decide) rfl rfl, bd_ok, I_ld H V 0 (by decide) hi8 rfl, bd_ok, nI_1, nI_1]
    show _ = lp_X0_countKind_4 a (nI w) _ k (nI (if sA x 0 i = w then cntN x w i + 1 else cntN x w i)) _ h
    by_cases q : sA x 0 i = w
    · rw [if_pos (by rw [q]), if_pos q]
    · rw [if_neg (by rw [nIe (by omega) (by omega)]; exact q), if_neg q]
theorem s_best (H : IsI h a) (O : Ok x) (V : VC h a x) : f_X0_bestMemory a h = some (hv (besN x), h) := by
  have hP := O.1
  refine loop_acc (lp := lp_X0_bestMemory_4 a _) (sP x) (by omega) (fun i => hv (besF x i)) h (K := fun v h => some (v, h)) (fun k => ?_) (fun k i hi => ?_)
  · show lb_X0_bestMemory_4 a _ _ _ _ h = _
    unfold lb_X0_bestMemory_4
    rw [gI_ok H.1, bd_ok, V.p, iY (by omega)]
  · show lb_X0_bestMemory_4 a _ _ _ _ h = _
    have hl := besF_le x i
    unfold lb_X0_bestMemory_4
    rw [gI_ok H.1, bd_ok, V.p, iN hi (by omega), nI_1]
    show _ = lp_X0_bestMemory_4 a _ k (hv (if besF x i = 0 ∨ sA x 2 (besF x i - 1) < sA x 2 i then i + 1 else besF x i)) _ h
    by_cases q : besF x i = 0
    · rw [if_pos ((hv_m1 (by omega)).mpr q), if_pos (Or.inl q), hvS]
    · rw [if_neg (by rw [hv_m1 (by omega)]; exact q)]
      have hi8 : i < ln 2 := by show i < 8; omega
      have hj8 : besF x i - 1 < ln 2 := by show besF x i - 1 < 8; omega
      have b1 : sA x 2 i < 10 := O.b 2 i (by decide) hi8
      have b2 : sA x 2 (besF x i - 1) < 10 := O.b 2 _ (by decide) hj8
      have e : hv (besF x i) = nI (besF x i - 1) := by unfold hv; rw [if_neg q]
      rw [H.r 2 (by decide) rfl rfl, bd_ok, I_ld H V 2 (by decide) hi8 rfl, bd_ok, bd_ok, e, I_ld H V 2 (by decide) hj8 rfl, bd_ok]
      by_cases q2 : sA x 2 (besF x i - 1) < sA x 2 i
      · rw [if_neg (by rw [nIl (by omega) (by omega)]; omega), if_pos (Or.inr q2), hvS]
      · rw [if_pos (by rw [nIl (by omega) (by omega)]; omega), if_neg (by omega), e]
end ISLE
