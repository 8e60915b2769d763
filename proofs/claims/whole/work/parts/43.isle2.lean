/-! THE CLASS'S ISLE: hold, weakest, most, table; what changes it -/
/-- the least what is left so far (0: none) -/
def weaF (x : St) (s : Nat) : Nat → Nat × Int
  | 0 => (0, 0)
  | p + 1 => if has x p s = true ∧ ((weaF x s p).1 = 0 ∨ (holdN x p (sA x 5 s) : Int) - ((sA x 9 (p * 6 + s) : Int) - 1) < (weaF x s p).2) then (p + 1, (holdN x p (sA x 5 s) : Int) - ((sA x 9 (p * 6 + s) : Int) - 1)) else weaF x s p
/-- a whole number, small -/
def zI (z : Int) : Int32 := Int32.ofInt z
theorem zI_n (n : Nat) : nI n = zI n := rfl
theorem zI_toInt {z : Int} (h1 : -100000 ≤ z) (h2 : z ≤ 100000) : (zI z).toInt = z := by
  unfold zI
  rw [Int32.toInt_ofInt]
  have e : ((Int32.size : Nat) : Int) = 4294967296 := rfl
  exact Int.bmod_eq_of_le (by omega) (by omega)
theorem zI_add (a b : Int) : zI a + zI b = zI (a + b) := by
  unfold zI
  exact (Int32.ofInt_add a b).symm
theorem zI_sub (a b : Int) : zI a - zI b = zI (a - b) := by
  unfold zI
  exact (Int32.ofInt_sub a b).symm
theorem zI_mul (a b : Int) : zI a * zI b = zI (a * b) := by
  unfold zI
  exact (Int32.ofInt_mul a b).symm
theorem zI_le {a b : Int} (h1 : -100000 ≤ a) (h2 : a ≤ 100000) (h3 : -100000 ≤ b) (h4 : b ≤ 100000) : zI a ≤ zI b ↔ a ≤ b := by
  rw [Int32.le_iff_toInt_le, zI_toInt h1 h2, zI_toInt h3 h4]
theorem zI_lt {a b : Int} (h1 : -100000 ≤ a) (h2 : a ≤ 100000) (h3 : -100000 ≤ b) (h4 : b ≤ 100000) : zI a < zI b ↔ a < b := by
  rw [Int32.lt_iff_toInt_lt, zI_toInt h1 h2, zI_toInt h3 h4]
theorem zI_eq {a b : Int} (h1 : -100000 ≤ a) (h2 : a ≤ 100000) (h3 : -100000 ≤ b) (h4 : b ≤ 100000) : zI a = zI b ↔ a = b := by
  rw [← Int32.toInt_inj, zI_toInt h1 h2, zI_toInt h3 h4]
theorem hv_z (c : Nat) : hv c = zI ((c : Int) - 1) := by
  cases c with
  | zero => rfl
  | succ k =>
    rw [hvS, zI_n]
    congr 1
    omega
theorem dz2 : dz 2 = some () := rfl
theorem dz5 : dz 5 = some () := rfl
theorem half (n : Nat) (h : n ≤ 100000) : nI n / 2 = nI (n / 2) := pk_div (d := 2) (by omega) (by decide) (by decide)
theorem holdN_le {x : St} (O : Ok x) {p hd : Nat} (hp : p < sP x) (hh : hd < 10) : holdN x p hd ≤ 100 := by
  have h8 := O.1
  have b2 : sA x 2 p < 10 := O.b 2 p (by decide) (by show p < 8; omega)
  unfold holdN
  simp only
  repeat' split
  all_goals omega
section ISLE2
variable {h : HP} {a : Nat} {x : St}
theorem s_hold (H : IsI h a) (O : Ok x) (V : VC h a x) {p hd : Nat} (hp : p < sP x) (hh : hd < 10) : f_X0_holdOn a (nI p) (nI hd) h = some (nI (holdN x p hd), h) := by
  have h8 := O.1
  have hp8 : p < 8 := by omega
  have b0 : sA x 0 p < 6 := O.b 0 p (by decide) hp8
  have b1 : sA x 1 p < 10 := O.b 1 p (by decide) hp8
  have b2 : sA x 2 p < 10 := O.b 2 p (by decide) hp8
  have b3 : sA x 3 p < 10 := O.b 3 p (by decide) hp8
  have bw : sV x 2 < 10 := O.2.2.1
  have k1 : ∀ m : Nat, m < 10 → (nI (sA x 2 p) + nI hd - nI (sA x 3 p) - nI m) = zI ((sA x 2 p : Int) + hd - sA x 3 p - m) := fun m _ => by
    rw [zI_n, zI_n, zI_n, zI_n, zI_add, zI_sub, zI_sub]
  have k0 : (nI (sA x 2 p) + nI hd - nI (sA x 3 p)) = zI ((sA x 2 p : Int) + hd - sA x 3 p) := by
    rw [zI_n, zI_n, zI_n, zI_add, zI_sub]
  have z0 : (0 : Int32) = zI 0 := rfl
  have pos : ∀ z : Int, 0 ≤ z → zI z = nI z.toNat := fun z hz => by
    rw [zI_n]
    congr 1
    omega
  unfold f_X0_holdOn
  rw [H.r 2 (by decide) rfl rfl, bd_ok, I_ld H V 2 (by decide) hp8 rfl, bd_ok, H.r 3 (by decide) rfl rfl, bd_ok, I_ld H V 3 (by decide) hp8 rfl, bd_ok, H.r 0 (by decide) rfl rfl, bd_ok, I_ld H V 0 (by decide) hp8 rfl, bd_ok,
    H.r 1 (by decide) rfl rfl, bd_ok, I_ld H V 1 (by decide) hp8 rfl, bd_ok, gI_ok H.1, bd_ok, V.w, k1 _ b1, k1 _ bw, k0]
  have c1 : (nI (sA x 0 p) = 1) ↔ sA x 0 p = 1 := nIe (b := 1) (by omega) (by decide)
  have c2 : (nI (sA x 0 p) = 2) ↔ sA x 0 p = 2 := nIe (b := 2) (by omega) (by decide)
  have c3 : (nI (sA x 0 p) = 3) ↔ sA x 0 p = 3 := nIe (b := 3) (by omega) (by decide)
  have c4 : (nI (sA x 0 p) = 4) ↔ sA x 0 p = 4 := nIe (b := 4) (by omega) (by decide)
  have c5 : (nI (sA x 0 p) = 5) ↔ sA x 0 p = 5 := nIe (b := 5) (by omega) (by decide)
  simp only [c1, c2, c3, c4, c5, dz2, Option.bind_some]
  unfold holdN
  simp only
  by_cases q1 : sA x 0 p = 1
  · simp only [q1, if_true, show ¬ (1 : Nat) = 3 from by decide, show ¬ (1 : Nat) = 4 from by decide, show ¬ (1 : Nat) = 5 from by decide, if_false]
    by_cases g : (0 : Int) ≤ (sA x 2 p : Int) + hd - sA x 3 p - sA x 1 p
    · rw [if_pos (by rw [z0, zI_le (by omega) (by omega) (by omega) (by omega)]; exact g), pos _ g]
      congr 3
      omega
    · rw [if_neg (by rw [z0, zI_le (by omega) (by omega) (by omega) (by omega)]; exact g)]
      rw [show sA x 2 p + hd - sA x 3 p - sA x 1 p = 0 by omega]
      rfl
  · simp only [q1, if_false]
    by_cases q3 : sA x 0 p = 3
    · simp only [q3, if_true]
      by_cases g : (0 : Int) ≤ (sA x 2 p : Int) + hd - sA x 3 p - sA x 1 p
      · rw [if_pos (by rw [z0, zI_le (by omega) (by omega) (by omega) (by omega)]; exact g), pos _ g, nI_1, half _ (by omega)]
        congr 3
        omega
      · rw [if_neg (by rw [z0, zI_le (by omega) (by omega) (by omega) (by omega)]; exact g)]
        rw [show sA x 2 p + hd - sA x 3 p - sA x 1 p = 0 by omega]
        rfl
    · simp only [q3, if_false]
      by_cases q2 : sA x 0 p = 2
      · simp only [q2, if_true, show ¬ (2 : Nat) = 4 from by decide, show ¬ (2 : Nat) = 5 from by decide, if_false]
        by_cases g : (0 : Int) ≤ (sA x 2 p : Int) + hd - sA x 3 p - sV x 2
        · rw [if_pos (by rw [z0, zI_le (by omega) (by omega) (by omega) (by omega)]; exact g), pos _ g]
          congr 3
          omega
        · rw [if_neg (by rw [z0, zI_le (by omega) (by omega) (by omega) (by omega)]; exact g)]
          rw [show sA x 2 p + hd - sA x 3 p - sV x 2 = 0 by omega]
          rfl
      · simp only [q2, if_false]
        by_cases q4 : sA x 0 p = 4
        · simp only [q4, if_true]
          by_cases g : (0 : Int) ≤ (sA x 2 p : Int) + hd - sA x 3 p - sV x 2
          · rw [if_pos (by rw [z0, zI_le (by omega) (by omega) (by omega) (by omega)]; exact g), pos _ g, show (5 : Int32) = nI 5 from rfl, nI_add]
            congr 3
            omega
          · rw [if_neg (by rw [z0, zI_le (by omega) (by omega) (by omega) (by omega)]; exact g)]
            rw [show sA x 2 p + hd - sA x 3 p - sV x 2 = 0 by omega]
            rfl
        · simp only [q4, if_false]
          by_cases g : (0 : Int) ≤ (sA x 2 p : Int) + hd - sA x 3 p
          · rw [if_pos (by rw [z0, zI_le (by omega) (by omega) (by omega) (by omega)]; exact g), pos _ g, show (2 : Int32) = nI 2 from rfl, pk_mul]
            have e : ((sA x 2 p : Int) + hd - sA x 3 p).toNat = sA x 2 p + hd - sA x 3 p := by omega
            rw [e]
            split <;> rfl
          · rw [if_neg (by rw [z0, zI_le (by omega) (by omega) (by omega) (by omega)]; exact g)]
            rw [show sA x 2 p + hd - sA x 3 p = 0 by omega]
            split <;> rfl
theorem loop_acc2 {ρ : Type} {lp : Nat → Int32 → Int32 → Int32 → HP → Option ρ} (n : Nat) (hn : n < 1000) (acc : Nat → Int32 × Int32) (h : HP) {K : Int32 → HP → Option ρ} (hx : ∀ k, lp (k + 1) (acc n).1 (acc n).2 (nI n) h = K (acc n).1 h) (hs : ∀ k i, i < n → lp (k + 1) (acc i).1 (acc i).2 (nI i) h = lp k (acc (i + 1)).1 (acc (i + 1)).2 (nI (i + 1)) h) : lp 1000 (acc 0).1 (acc 0).2 0 h = K (acc n).1 h := by
  obtain ⟨a', e, rfl⟩ := loop_0' (fun k (q : Int32 × Int32 × Int32) => lp k q.1 q.2.1 q.2.2 h) (fun i q => q = ((acc i).1, (acc i).2, nI i)) n hn (fun q => K q.1 h) ((acc 0).1, (acc 0).2, 0) rfl (fun k q hq => by subst hq; exact hx k) (fun k i q hi hq => by subst hq; exact ⟨_, hs k i hi, rfl⟩)
  exact e
theorem mosF_le (x : St) : ∀ n, (mosF x n).1 ≤ n ∧ (mosF x n).2 ≤ 8
  | 0 => ⟨Nat.le_refl _, show 0 ≤ 8 by decide⟩
  | n + 1 => by
    have h1 := mosF_le x n
    have h2 := pop_le (havN x n)
    unfold mosF
    split
    · exact ⟨Nat.le_refl _, h2⟩
    · exact ⟨by omega, h1.2⟩
theorem leaF_le (x : St) : ∀ n, (leaF x n).1 ≤ n ∧ (leaF x n).2 ≤ 9
  | 0 => ⟨Nat.le_refl _, show 9 ≤ 9 by decide⟩
  | n + 1 => by
    have h1 := leaF_le x n
    have h2 := pop_le (havN x n)
    unfold leaF
    split
    · exact ⟨Nat.le_refl _, by omega⟩
    · exact ⟨by omega, h1.2⟩
/-- the count stands one higher, -1 at first -/
def mc (q : Nat × Nat) : Int32 := if q.1 = 0 then -1 else nI q.2
theorem s_most (H : IsI h a) (O : Ok x) (V : VC h a x) : f_X0_mostHeld a h = some (hv (mosF x (sS x)).1, h) := by
  have hS := O.2.1
  refine loop_acc2 (lp := lp_X0_mostHeld_6 a _) (sS x) (by omega) (fun i => (hv (mosF x i).1, mc (mosF x i))) h (K := fun v h => some (v, h)) (fun k => ?_) (fun k i hi => ?_)
  · show lb_X0_mostHeld_6 a _ _ _ _ _ h = _
    unfold lb_X0_mostHeld_6
    rw [gI_ok H.1, bd_ok, V.s, iY (by omega)]
  · show lb_X0_mostHeld_6 a _ _ _ _ _ h = _
    have hl := mosF_le x i
    have hp8 := pop_le (havN x i)
    unfold lb_X0_mostHeld_6
    rw [gI_ok H.1, bd_ok, V.s, iN hi (by omega), inv_ok H.1, s_havers H O V hi, ob_ok, f_bitCount h _ (havN_lt O i), ob_ok, nI_1]
    show _ = lp_X0_mostHeld_6 a _ k (hv (if (mosF x i).1 = 0 ∨ (mosF x i).2 < pop (havN x i) then (i + 1, pop (havN x i)) else mosF x i).1) (mc (if (mosF x i).1 = 0 ∨ (mosF x i).2 < pop (havN x i) then (i + 1, pop (havN x i)) else mosF x i)) _ h
    have e9 : mc (i + 1, pop (havN x i)) = nI (pop (havN x i)) := by unfold mc; rw [if_neg (by simp)]
    by_cases q : (mosF x i).1 = 0
    · have e : mc (mosF x i) = -1 := by unfold mc; rw [if_pos q]
      have e2 : ¬ nI (pop (havN x i)) ≤ -1 := by
        rw [Int32.le_iff_toInt_le, nI_toInt (by omega)]
        have : (-1 : Int32).toInt = -1 := rfl
        omega
      rw [if_pos (Or.inl q), e, if_neg e2, e9, hvS]
    · have e : mc (mosF x i) = nI (mosF x i).2 := by unfold mc; rw [if_neg q]
      rw [e]
      by_cases q2 : (mosF x i).2 < pop (havN x i)
      · rw [if_pos (Or.inr q2), if_neg (by rw [nIl (by omega) (by omega)]; omega), e9, hvS]
      · rw [if_neg (show ¬ ((mosF x i).1 = 0 ∨ (mosF x i).2 < pop (havN x i)) by omega), if_pos (by rw [nIl (by omega) (by omega)]; omega), e]
theorem s_least (H : IsI h a) (O : Ok x) (V : VC h a x) : f_X0_leastHeld a h = some (hv (leaF x (sS x)).1, h) := by
  have hS := O.2.1
  refine loop_acc2 (lp := lp_X0_leastHeld_7 a _) (sS x) (by omega) (fun i => (hv (leaF x i).1, nI (leaF x i).2)) h (K := fun v h => some (v, h)) (fun k => ?_) (fun k i hi => ?_)
  · show lb_X0_leastHeld_7 a _ _ _ _ _ h = _
    unfold lb_X0_leastHeld_7
    rw [gI_ok H.1, bd_ok, V.s, iY (by omega)]
  · show lb_X0_leastHeld_7 a _ _ _ _ _ h = _
    have hl := leaF_le x i
    have hp8 := pop_le (havN x i)
    unfold lb_X0_leastHeld_7
    rw [gI_ok H.1, bd_ok, V.s, iN hi (by omega), inv_ok H.1, s_havers H O V hi, ob_ok, f_bitCount h _ (havN_lt O i), ob_ok, nI_1]
    show _ = lp_X0_leastHeld_7 a _ k (hv (if pop (havN x i) < (leaF x i).2 then (i + 1, pop (havN x i)) else leaF x i).1) (nI (if pop (havN x i) < (leaF x i).2 then (i + 1, pop (havN x i)) else leaF x i).2) _ h
    by_cases q2 : pop (havN x i) < (leaF x i).2
    · rw [if_pos q2, if_neg (by rw [nIl (by omega) (by omega)]; omega), hvS]
    · rw [if_neg q2, if_pos (by rw [nIl (by omega) (by omega)]; omega)]
theorem tabF_lt (O : Ok x) {m : Nat} (hm : m < 256) : ∀ n, n ≤ 8 → tabF x m n < 256
  | 0, _ => hm
  | n + 1, hn => by
    have ih := tabF_lt O hm n (by omega)
    unfold tabF
    split
    · exact or_lt8 ih (O.b 4 n (by decide) (by show n < 8; omega))
    · exact ih
theorem tabR_lt (O : Ok x) {m : Nat} (hm : m < 256) : ∀ n, tabR x m n < 256
  | 0 => hm
  | n + 1 => tabF_lt O (tabR_lt O hm n) _ O.1
theorem s_table (H : IsI h a) (O : Ok x) (V : VC h a x) {p : Nat} (hp : p < sP x) : f_X0_tableOf a (nI p) h = some (nI (tabN x p), h) := by
  have hP := O.1
  have b0 := bit_one p (by omega)
  unfold f_X0_tableOf
  rw [b0.1]
  refine loop_acc (lp := lp_X0_tableOf_6 a _) (sP x) (by omega) (fun i => nI (tabR x (2 ^ p) i)) h (K := fun v h => some (v, h)) (fun k => ?_) (fun k r hr => ?_)
  · show lb_X0_tableOf_6 a _ _ _ _ h = _
    unfold lb_X0_tableOf_6
    rw [gI_ok H.1, bd_ok, V.p, iY (by omega)]
  · show lb_X0_tableOf_6 a _ _ _ _ h = _
    have hm := tabR_lt O b0.2 r
    unfold lb_X0_tableOf_6
    rw [gI_ok H.1, bd_ok, V.p, iN hr (by omega), nI_1]
    refine loop_acc (lp := lp_X0_tableOf_17 a (nI r) _) (sP x) (by omega) (fun i => nI (tabF x (tabR x (2 ^ p) r) i)) h (K := fun v h => lp_X0_tableOf_6 a _ k v (nI (r + 1)) h) (fun k => ?_) (fun k i hi => ?_)
    · show lb_X0_tableOf_17 a _ _ _ _ _ h = _
      unfold lb_X0_tableOf_17
      rw [gI_ok H.1, bd_ok, V.p, iY (by omega)]
    · show lb_X0_tableOf_17 a _ _ _ _ _ h = _
      have hi8 : i < ln 4 := by show i < 8; omega
      have ht := tabF_lt O hm i (by omega)
      unfold lb_X0_tableOf_17
      rw [gI_ok H.1, bd_ok, V.p, iN hi (by omega), bit_tst i (by omega) _ ht, H.r 4 (by decide) rfl rfl, bd_ok, I_ld H V 4 (by decide) hi8 rfl, bd_ok, nI_1, nI_or]
      show _ = lp_X0_tableOf_17 a _ _ _ (nI (if tb (tabF x (tabR x (2 ^ p) r) i) i = 1 then tabF x (tabR x (2 ^ p) r) i ||| sA x 4 i else tabF x (tabR x (2 ^ p) r) i)) _ h
      have := tb_lt (tabF x (tabR x (2 ^ p) r) i) i
      by_cases q : tb (tabF x (tabR x (2 ^ p) r) i) i = 1
      · rw [if_pos (by rw [q]; rfl), if_pos q]
      · rw [if_neg (fun e : nI (tb (tabF x (tabR x (2 ^ p) r) i) i) = 1 => q ((nIe (b := 1) (by omega) (by decide)).mp e)), if_neg q]
theorem weaF_le (O : Ok x) {s : Nat} (hs : s < sS x) : ∀ n, n ≤ sP x → (weaF x s n).1 ≤ n ∧ -1000 ≤ (weaF x s n).2 ∧ (weaF x s n).2 ≤ 1000
  | 0, _ => ⟨Nat.le_refl _, show (-1000 : Int) ≤ 0 by decide, show (0 : Int) ≤ 1000 by decide⟩
  | n + 1, hn => by
    have h1 := weaF_le O hs n (by omega)
    have hS := O.2.1
    have b5 : sA x 5 s < 10 := O.b 5 s (by decide) (by show s < 6; omega)
    have h2 := holdN_le O (p := n) (by omega) b5
    have h3 := O.h (p := n) (by omega) hs
    unfold weaF
    split
    · exact ⟨Nat.le_refl _, by dsimp only; omega, by dsimp only; omega⟩
    · exact ⟨by omega, h1.2⟩
theorem s_weakest (H : IsI h a) (O : Ok x) (V : VC h a x) {s : Nat} (hs : s < sS x) : f_X0_weakestOn a (nI s) h = some (hv (weaF x s (sP x)).1, h) := by
  have hP := O.1
  have hS := O.2.1
  have hs6 : s < ln 5 := by show s < 6; omega
  have b5 : sA x 5 s < 10 := O.b 5 s (by decide) hs6
  refine loop_acc2 (lp := lp_X0_weakestOn_7 a (nI s) _) (sP x) (by omega) (fun i => (hv (weaF x s i).1, zI (weaF x s i).2)) h (K := fun v h => some (v, h)) (fun k => ?_) (fun k i hi => ?_)
  · show lb_X0_weakestOn_7 a _ _ _ _ _ _ h = _
    unfold lb_X0_weakestOn_7
    rw [gI_ok H.1, bd_ok, V.p, iY (by omega)]
  · show lb_X0_weakestOn_7 a _ _ _ _ _ _ h = _
    have hl := weaF_le O hs i (by omega)
    have h2 := holdN_le O hi b5
    have h3 := O.h hi hs
    unfold lb_X0_weakestOn_7
    rw [gI_ok H.1, bd_ok, V.p, iN hi (by omega), inv_ok H.1, s_heldFor H O V hi hs, ob_ok, H.r 5 (by decide) rfl rfl, bd_ok, I_ld H V 5 (by decide) hs6 rfl, bd_ok, inv_ok H.1, s_hold H O V hi b5, ob_ok, nI_1]
    have e1 : nI (holdN x i (sA x 5 s)) - hv (sA x 9 (i * 6 + s)) = zI ((holdN x i (sA x 5 s) : Int) - ((sA x 9 (i * 6 + s) : Int) - 1)) := by rw [hv_z, zI_n, zI_sub]
    rw [e1]
    show _ = lp_X0_weakestOn_7 a _ _ k (hv (if has x i s = true ∧ ((weaF x s i).1 = 0 ∨ (holdN x i (sA x 5 s) : Int) - ((sA x 9 (i * 6 + s) : Int) - 1) < (weaF x s i).2) then (i + 1, (holdN x i (sA x 5 s) : Int) - ((sA x 9 (i * 6 + s) : Int) - 1)) else weaF x s i).1) (zI (if has x i s = true ∧ ((weaF x s i).1 = 0 ∨ (holdN x i (sA x 5 s) : Int) - ((sA x 9 (i * 6 + s) : Int) - 1) < (weaF x s i).2) then (i + 1, (holdN x i (sA x 5 s) : Int) - ((sA x 9 (i * 6 + s) : Int) - 1)) else weaF x s i).2) _ h
    by_cases q : has x i s = true
    · rw [if_neg (by rw [has_iff O hi hs]; exact fun e => e q)]
      by_cases q2 : (weaF x s i).1 = 0
      · rw [if_pos ((hv_m1 (by omega)).mpr q2), if_pos ⟨q, Or.inl q2⟩, hvS]
      · rw [if_neg (by rw [hv_m1 (by omega)]; exact q2)]
        by_cases q3 : (holdN x i (sA x 5 s) : Int) - ((sA x 9 (i * 6 + s) : Int) - 1) < (weaF x s i).2
        · rw [if_neg (by rw [zI_le (by omega) (by omega) (by omega) (by omega)]; omega), if_pos ⟨q, Or.inr q3⟩, hvS]
        · rw [if_pos (by rw [zI_le (by omega) (by omega) (by omega) (by omega)]; omega), if_neg (by rintro ⟨-, e | e⟩ <;> omega)]
    · rw [if_pos ((has_iff O hi hs).mpr q), if_neg (fun e => q e.1)]
end ISLE2
