/-! BITS: sets of at most 8 as numbers below 256 -/
theorem iN {α : Type} {a b : Nat} {u v : α} (h : b < a) (ha : a ≤ 100000) : (if nI a ≤ nI b then u else v) = v := if_neg (by rw [nIl ha (by omega)]; omega)
theorem iY {α : Type} {a : Nat} {u v : α} (ha : a ≤ 100000) : (if nI a ≤ nI a then u else v) = u := if_pos (by rw [nIl ha ha]; omega)
def bsN (f : Nat → Bool) : Nat → Nat
  | 0 => 0
  | k + 1 => if f k = true then bsN f k + 2 ^ k else bsN f k
theorem bsN_lt (f : Nat → Bool) : ∀ n, bsN f n < 2 ^ n
  | 0 => Nat.one_pos
  | n + 1 => by
    have := bsN_lt f n
    unfold bsN
    split <;> omega
theorem bsN_le {f : Nat → Bool} {n m : Nat} (h : n ≤ m) : bsN f n < 2 ^ m := Nat.lt_of_lt_of_le (bsN_lt f n) (Nat.pow_le_pow_right (by decide) h)
theorem bsN_congr {f g : Nat → Bool} : ∀ n, (∀ k, k < n → f k = g k) → bsN f n = bsN g n
  | 0, _ => rfl
  | n + 1, h => by
    unfold bsN
    rw [h n (by omega), bsN_congr n (fun k hk => h k (by omega))]
/-- is k in the set m -/
def tb (m k : Nat) : Nat := m / 2 ^ k % 2
theorem tb_bs (f : Nat → Bool) : ∀ n k, tb (bsN f n) k = if k < n ∧ f k = true then 1 else 0
  | 0, k => by simp [bsN, tb]
  | n + 1, k => by
    have ih := tb_bs f n k
    have hlt := bsN_lt f n
    unfold bsN
    by_cases hk : k = n
    · subst hk
      have e0 : tb (bsN f k) k = 0 := by unfold tb; rw [Nat.div_eq_of_lt hlt]
      by_cases hf : f k = true
      · rw [if_pos hf, if_pos ⟨by omega, hf⟩]
        unfold tb
        rw [Nat.add_div_right _ (Nat.two_pow_pos k), Nat.div_eq_of_lt hlt]
      · rw [if_neg hf, if_neg (fun q => hf q.2)]
        exact e0
    · by_cases hf : f n = true
      · rw [if_pos hf]
        have : tb (bsN f n + 2 ^ n) k = tb (bsN f n) k := by
          unfold tb
          by_cases hkn : k < n
          · obtain ⟨d, rfl⟩ : ∃ d, n = k + (d + 1) := ⟨n - k - 1, by omega⟩
            rw [Nat.pow_add, Nat.add_mul_div_left _ _ (Nat.two_pow_pos k), Nat.pow_succ, Nat.mul_comm _ 2, Nat.add_mul_mod_self_left]
          · have h2 : bsN f n + 2 ^ n < 2 ^ k := by
              have : 2 ^ (n + 1) ≤ 2 ^ k := Nat.pow_le_pow_right (by decide) (by omega)
              have : 2 ^ (n + 1) = 2 ^ n + 2 ^ n := by rw [Nat.pow_succ]; omega
              omega
            rw [Nat.div_eq_of_lt h2, Nat.div_eq_of_lt (by omega)]
        rw [this, ih]
        by_cases h : k < n ∧ f k = true
        · rw [if_pos h, if_pos ⟨by omega, h.2⟩]
        · rw [if_neg h, if_neg (fun q => h ⟨by omega, q.2⟩)]
      · rw [if_neg hf, ih]
        by_cases h : k < n ∧ f k = true
        · rw [if_pos h, if_pos ⟨by omega, h.2⟩]
        · rw [if_neg h, if_neg (fun q => h ⟨by omega, q.2⟩)]
def setb (m k : Nat) : Nat := if tb m k = 1 then m else m + 2 ^ k
def clrb (m k : Nat) : Nat := if tb m k = 1 then m - 2 ^ k else m
theorem bit_or : ∀ k, k < 8 → ∀ m, m < 256 → (nI m ||| ((1 : Int32) <<< (nI k &&& 31)) = nI (setb m k) ∧ setb m k < 256) := by decide +kernel
theorem bit_clr : ∀ k, k < 8 → ∀ m, m < 256 → (nI m &&& (((1 : Int32) <<< (nI k &&& 31)) ^^^ (-1)) = nI (clrb m k) ∧ clrb m k < 256) := by decide +kernel
theorem bit_tst : ∀ k, k < 8 → ∀ m, m < 256 → (nI m >>> (nI k &&& 31)) &&& 1 = nI (tb m k) := by decide +kernel
theorem bit_one : ∀ k, k < 8 → (1 : Int32) <<< (nI k &&& 31) = nI (2 ^ k) ∧ 2 ^ k < 256 := by decide +kernel
theorem setb_new {m k : Nat} (h : m < 2 ^ k) : setb m k = m + 2 ^ k := by
  unfold setb tb
  rw [Nat.div_eq_of_lt h]
  rfl
theorem tb_lt (m k : Nat) : tb m k < 2 := Nat.mod_lt _ (by decide)
theorem nI_or (a b : Nat) : nI a ||| nI b = nI (a ||| b) := by
  apply Int32.toBitVec_inj.mp
  show BitVec.ofNat 32 a ||| BitVec.ofNat 32 b = BitVec.ofNat 32 (a ||| b)
  apply BitVec.eq_of_toNat_eq
  simp only [BitVec.toNat_or, BitVec.toNat_ofNat]
  exact Nat.or_mod_two_pow.symm
theorem nI_and (a b : Nat) : nI a &&& nI b = nI (a &&& b) := by
  apply Int32.toBitVec_inj.mp
  show BitVec.ofNat 32 a &&& BitVec.ofNat 32 b = BitVec.ofNat 32 (a &&& b)
  apply BitVec.eq_of_toNat_eq
  simp only [BitVec.toNat_and, BitVec.toNat_ofNat]
  exact Nat.and_mod_two_pow.symm
theorem or_lt8 {a b : Nat} (ha : a < 256) (hb : b < 256) : a ||| b < 256 := Nat.or_lt_two_pow (n := 8) ha hb
theorem and_lt8 {a b : Nat} (ha : a < 256) : a &&& b < 256 := Nat.lt_of_le_of_lt Nat.and_le_left ha
/-- one more in the set -/
theorem bs_or {f : Nat → Bool} {k : Nat} (hk : k < 8) (hf : f k = true) : nI (bsN f k) ||| ((1 : Int32) <<< (nI k &&& 31)) = nI (bsN f (k + 1)) := by
  rw [(bit_or k hk _ (Nat.lt_of_lt_of_le (bsN_lt f k) (Nat.pow_le_pow_right (n := 2) (by decide) (show k ≤ 8 by omega)))).1, setb_new (bsN_lt f k)]
  show _ = nI (if f k = true then bsN f k + 2 ^ k else bsN f k)
  rw [if_pos hf]
theorem bs_no {f : Nat → Bool} {k : Nat} (hf : ¬ f k = true) : nI (bsN f k) = nI (bsN f (k + 1)) := by
  show _ = nI (if f k = true then bsN f k + 2 ^ k else bsN f k)
  rw [if_neg hf]
/-- how many -/
def pop (m : Nat) : Nat := tb m 0 + tb m 1 + tb m 2 + tb m 3 + tb m 4 + tb m 5 + tb m 6 + tb m 7
theorem pop_le (m : Nat) : pop m ≤ 8 := by
  have h := tb_lt m
  unfold pop
  have := h 0; have := h 1; have := h 2; have := h 3; have := h 4; have := h 5; have := h 6; have := h 7
  omega
theorem f_bitCount (h : HP) : ∀ m, m < 256 → f_J6_bitCount_0f7a4 (nI m) h = some (nI (pop m), h) := by
  have key : ∀ m, m < 256 → (f_J6_bitCount_0f7a4 (nI m) (0, 0, fun _ => (0, 0), fun _ _ => none, fun _ _ => 0, fun _ _ => 0)).map (·.1) = some (nI (pop m)) := by decide +kernel
  intro m hm
  have k := key m hm
  unfold f_J6_bitCount_0f7a4 at k ⊢
  exact congrArg (fun v : Option Int32 => v.map fun v => (v, h)) k
theorem f_min {a b : Int32} (h : HP) : f_J9_min_7cf53 a b h = some (if b < a then b else a, h) := by
  unfold f_J9_min_7cf53
  split <;> rfl
