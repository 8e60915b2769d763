/-! THE TAPE IN THOUGHT: tokens -/
def lttB (T : Nat → Nat) (i : Nat) : Bool := decide (97 ≤ T i ∧ T i ≤ 122)
def dgtB (T : Nat → Nat) (i : Nat) : Bool := decide (48 ≤ T i ∧ T i ≤ 57)
def spcB (T : Nat → Nat) (i : Nat) : Bool := decide (T i = 32)
/-- where a run ends that begins at i -/
def rnE (P : Nat → Bool) (n i : Nat) : Nat := i + fstN (fun k => !(P (i + k))) (n - i)
theorem rnE_spec (P : Nat → Bool) {n i : Nat} (h : i ≤ n) : i ≤ rnE P n i ∧ rnE P n i ≤ n ∧ (∀ k, i ≤ k → k < rnE P n i → P k = true) ∧ (rnE P n i < n → ¬ P (rnE P n i) = true) := by
  obtain ⟨g1, g2, g3⟩ := fstN_spec (fun k => !(P (i + k))) (n - i)
  unfold rnE
  refine ⟨by omega, by omega, fun k h1 h2 => ?_, fun h1 => ?_⟩
  · have := g2 (k - i) (by omega)
    rw [show i + (k - i) = k by omega] at this
    simpa using this
  · have := g3 (by omega)
    simpa using this
def tS (T : Nat → Nat) (n e : Nat) : Nat := rnE (spcB T) n e
def tK (T : Nat → Nat) (n e : Nat) : Nat := if n ≤ tS T n e then 0 else if lttB T (tS T n e) = true then 1 else if dgtB T (tS T n e) = true then 2 else if T (tS T n e) = 59 then 3 else 4
def tE (T : Nat → Nat) (n e : Nat) : Nat := if n ≤ tS T n e then tS T n e else if lttB T (tS T n e) = true then rnE (lttB T) n (tS T n e) else if dgtB T (tS T n e) = true then rnE (dgtB T) n (tS T n e) else tS T n e + 1
def nmN (T : Nat → Nat) (s : Nat) : Nat → Nat
  | 0 => 0
  | k + 1 => if k < 3 then nmN T s k * 10 + T (s + k) - 48 else 1000
def tN (T : Nat → Nat) (n e : Nat) : Nat := nmN T (tS T n e) (tE T n e - tS T n e)
theorem nmN_le {T : Nat → Nat} (hT : ∀ i, T i < 256) (s : Nat) : ∀ k, nmN T s k ≤ 30000 ∧ (k = 0 → nmN T s k = 0) ∧ (k = 1 → nmN T s k ≤ 255) ∧ (k = 2 → nmN T s k ≤ 2805)
  | 0 => ⟨Nat.zero_le _, fun _ => rfl, fun h => absurd h (by omega), fun h => absurd h (by omega)⟩
  | k + 1 => by
    obtain ⟨h1, h2, h3, h4⟩ := nmN_le hT s k
    have h := hT (s + k)
    have e : nmN T s (k + 1) = if k < 3 then nmN T s k * 10 + T (s + k) - 48 else 1000 := rfl
    rw [e]
    by_cases q : k < 3
    · rw [if_pos q]
      have hk : k = 0 ∨ k = 1 ∨ k = 2 := by omega
      refine ⟨?_, fun h => absurd h (by omega), fun h => ?_, fun h => ?_⟩
      · rcases hk with hk | hk | hk
        · have := h2 hk; omega
        · have := h3 hk; omega
        · have := h4 hk; omega
      · have := h2 (by omega); omega
      · have := h3 (by omega); omega
    · rw [if_neg q]
      exact ⟨by omega, fun h => absurd h (by omega), fun h => absurd h (by omega), fun h => absurd h (by omega)⟩
theorem tS_spec (T : Nat → Nat) {n e : Nat} (h : e ≤ n) : e ≤ tS T n e ∧ tS T n e ≤ n := ⟨(rnE_spec _ h).1, (rnE_spec _ h).2.1⟩
theorem tE_spec (T : Nat → Nat) {n e : Nat} (h : e ≤ n) : tS T n e ≤ tE T n e ∧ tE T n e ≤ n ∧ (tK T n e ≠ 0 → tS T n e < tE T n e) := by
  have hs := tS_spec T h
  unfold tE tK
  by_cases q : n ≤ tS T n e
  · rw [if_pos q, if_pos q]
    exact ⟨Nat.le_refl _, hs.2, fun h => absurd rfl h⟩
  · rw [if_neg q, if_neg q]
    by_cases q1 : lttB T (tS T n e) = true
    · rw [if_pos q1, if_pos q1]
      have g := rnE_spec (lttB T) (n := n) (i := tS T n e) (by omega)
      refine ⟨g.1, g.2.1, fun _ => ?_⟩
      by_cases q3 : tS T n e < rnE (lttB T) n (tS T n e)
      · exact q3
      · have e1 : rnE (lttB T) n (tS T n e) = tS T n e := by omega
        have := g.2.2.2 (by omega)
        rw [e1] at this
        exact absurd q1 this
    · rw [if_neg q1, if_neg q1]
      by_cases q2 : dgtB T (tS T n e) = true
      · rw [if_pos q2, if_pos q2]
        have g := rnE_spec (dgtB T) (n := n) (i := tS T n e) (by omega)
        refine ⟨g.1, g.2.1, fun _ => ?_⟩
        by_cases q3 : tS T n e < rnE (dgtB T) n (tS T n e)
        · exact q3
        · have e1 : rnE (dgtB T) n (tS T n e) = tS T n e := by omega
          have := g.2.2.2 (by omega)
          rw [e1] at this
          exact absurd q2 this
      · rw [if_neg q2, if_neg q2]
        exact ⟨by omega, by omega, fun _ => by omega⟩
theorem tN_le {T : Nat → Nat} (hT : ∀ i, T i < 256) (n e : Nat) : tN T n e ≤ 30000 := (nmN_le hT _ _).1
/-! THE READER -/
def RdI (h : HP) (r : Nat) : Prop := OA 2 h r ∧ hR h r 0 = some (r + 1) ∧ hR h r 1 = some (r + 2) ∧ IA h (r + 1) 250 ∧ IA h (r + 2) 4
theorem Fr.Rd {b n r : Nat} {h h' : HP} (f : Fr b n h h') (H : RdI h r) : RdI h' r :=
  ⟨f.OA H.1, by rw [f.2.2.2.1]; exact H.2.1, by rw [f.2.2.2.1]; exact H.2.2.1, f.IA H.2.2.2.1, f.IA H.2.2.2.2⟩
theorem RdI.t {h : HP} {r : Nat} (H : RdI h r) : gR 2 0 r h = some (r + 1) := gR_ok H.1 H.2.1
theorem RdI.g {h : HP} {r : Nat} (H : RdI h r) : gR 2 1 r h = some (r + 2) := gR_ok H.1 H.2.2.1
def TpI (h : HP) (t : Nat) (T : Nat → Nat) (n : Nat) : Prop := n ≤ 250 ∧ (∀ i, T i < 256) ∧ ∀ i, i < n → hI h t i = nI (T i)
theorem Fr.Tp {b n t z : Nat} {T : Nat → Nat} {h h' : HP} (f : Fr b n h h') (hd : t < b ∨ b + n ≤ t) (H : TpI h t T z) : TpI h' t T z :=
  ⟨H.1, H.2.1, fun i hi => by rw [f.2.2.2.2.2 t hd]; exact H.2.2 i hi⟩
def LkI (h : HP) (r : Nat) (T : Nat → Nat) (n e : Nat) : Prop := hI h r 3 = nI (tK T n e) ∧ hI h r 5 = nI (tS T n e) ∧ hI h r 6 = nI (tE T n e) ∧ (tK T n e = 2 → hI h r 4 = nI (tN T n e))
def pw (h : HP) (r k : Nat) (x : Int32) : HP := wI h r (upd (hI h r) k x)
theorem pw_s (h : HP) (r k : Nat) (x : Int32) : hI (pw h r k x) r k = x := by unfold pw; rw [hI_w, upd_s]
theorem pw_n (h : HP) (r : Nat) {k j : Nat} (x : Int32) (hj : j ≠ k) : hI (pw h r k x) r j = hI h r j := by unfold pw; rw [hI_w, upd_n _ _ hj]
theorem pI_pw {c k : Nat} {x : Int32} {h : HP} {b : Nat} (H : OA c h b) : pI c k b x h = some (pw h b k x) := pI_ok H
theorem Fr.pw {a n b : Nat} {h : HP} {k : Nat} {x : Int32} (h1 : a ≤ b) (h2 : b < a + n) : Fr a n h (pw h b k x) := Fr.w h1 h2
theorem f_let {h : HP} {c : Nat} (hc : c < 256) : f_X2_isLetter (nI c) h = some (if 97 ≤ c ∧ c ≤ 122 then 1 else 0, h) := by
  unfold f_X2_isLetter
  rw [rZ0, rZ1]
  by_cases g1 : c < 97
  · rw [if_pos (show nI c < 97 from ltY (b := 97) g1 (by decide)), if_neg (by omega)]
  · rw [if_neg (show ¬ nI c < 97 from ltN (b := 97) (by omega) (by omega))]
    by_cases g2 : 122 < c
    · rw [if_pos (show (122 : Int32) < nI c from ltY (m := 122) g2 (by omega)), if_neg (by omega)]
    · rw [if_neg (show ¬ (122 : Int32) < nI c from ltN (m := 122) (by omega) (by decide)), if_pos (by omega)]
theorem f_dig {h : HP} {c : Nat} (hc : c < 256) : f_X2_isDigit (nI c) h = some (if 48 ≤ c ∧ c ≤ 57 then 1 else 0, h) := by
  unfold f_X2_isDigit
  rw [rZ0, rZ1]
  by_cases g1 : c < 48
  · rw [if_pos (show nI c < 48 from ltY (b := 48) g1 (by decide)), if_neg (by omega)]
  · rw [if_neg (show ¬ nI c < 48 from ltN (b := 48) (by omega) (by omega))]
    by_cases g2 : 57 < c
    · rw [if_pos (show (57 : Int32) < nI c from ltY (m := 57) g2 (by omega)), if_neg (by omega)]
    · rw [if_neg (show ¬ (57 : Int32) < nI c from ltN (m := 57) (by omega) (by decide)), if_pos (by omega)]
section READ
variable {h : HP} {r n e : Nat} {T : Nat → Nat}
theorem RdI.l {h : HP} {r n : Nat} {T : Nat → Nat} (H : RdI h r) (HT : TpI h (r + 1) T n) {i : Nat} (hi : i < n) : lI (r + 1) (nI i) h = some (nI (T i)) := by
  have := HT.1
  rw [lI_ok H.2.2.2.1 (by omega) (by decide), HT.2.2 i hi]
theorem s_num (H : RdI h r) (HT : TpI h (r + 1) T n) (h2 : hI h r 2 = nI n) {s : Nat} (hs : s ≤ n) (h5 : hI h r 5 = nI s) (h6 : hI h r 6 = nI s) {k3 : Int32} (h3 : hI h r 3 = k3) : Ret (f_X2_readNumber r h) () (fun h' => Fr r 1 h h' ∧ hI h' r 2 = nI n ∧ hI h' r 3 = k3 ∧ hI h' r 5 = nI s ∧ hI h' r 6 = nI (rnE (dgtB T) n s) ∧ hI h' r 4 = nI (nmN T s (rnE (dgtB T) n s - s))) := by
  have hn := HT.1
  have sp := rnE_spec (dgtB T) hs
  unfold f_X2_readNumber
  rw [pI_pw H.1, bd_ok]
  refine Ret.gen (run := fun k q => lp_X2_readNumber_5 r _ k q) (fun i q => Fr r 1 h q ∧ hI q r 2 = nI n ∧ hI q r 3 = k3 ∧ hI q r 5 = nI s ∧ hI q r 6 = nI (s + i) ∧ hI q r 4 = nI (nmN T s i)) (rnE (dgtB T) n s - s) ?_ ?_ (rnE (dgtB T) n s - s) 0 1000 _ (by omega) (by omega) ⟨Fr.pw (by omega) (by omega), by rw [pw_n _ _ _ (by decide)]; exact h2, by rw [pw_n _ _ _ (by decide)]; exact h3, by rw [pw_n _ _ _ (by decide)]; exact h5, by rw [pw_n _ _ _ (by decide)]; exact h6, by rw [pw_s]; rfl⟩
  · rintro k i q hi ⟨F, c2, c3, c5, c6, c4⟩ kk
    have H1 := F.Rd H
    have T1 := F.Tp (by omega) HT
    have hd : dgtB T (s + i) = true := sp.2.2.1 (s + i) (by omega) (by omega)
    have hd2 := of_decide_eq_true hd
    have ht := HT.2.1 (s + i)
    have l1 := H1.l T1 (i := s + i) (by omega)
    have a6 : gI 2 6 r q = some (nI (s + i)) := by rw [gI_ok H1.1, c6]
    have a2 : gI 2 2 r q = some (nI n) := by rw [gI_ok H1.1, c2]
    have a5 : gI 2 5 r q = some (nI s) := by rw [gI_ok H1.1, c5]
    have a4 : gI 2 4 r q = some (nI (nmN T s i)) := by rw [gI_ok H1.1, c4]
    have fd : f_X2_isDigit (nI (T (s + i))) q = some (1, q) := by rw [f_dig ht, if_pos hd2]
    show Ret (lb_X2_readNumber_5 r _ _ q) _ _
    unfold lb_X2_readNumber_5
    simp only [a6, a2, a5, a4, H1.t, l1, fd, Option.bind_some, ob_ok]
    rw [if_neg (leN (show s + i < n by omega) (by omega)), if_neg (show ¬ (1 : Int32) = 0 by decide), pk_sub (by omega), show s + i - s = i by omega]
    have em : nmN T s (i + 1) = if i < 3 then nmN T s i * 10 + T (s + i) - 48 else 1000 := rfl
    by_cases g : i < 3
    · rw [if_neg (show ¬ (3 : Int32) ≤ nI i from leN (m := 3) g (by decide)), show (10 : Int32) = nI 10 from rfl, show (48 : Int32) = nI 48 from rfl, pk_mul, nI_add, pk_sub (by omega), pI_pw H1.1, bd_ok, gI_ok (show OA 2 (pw q r 4 _) r from (Fr.pw (a := r) (n := 1) (Nat.le_refl _) (by omega)).OA H1.1), bd_ok, pw_n _ _ _ (by decide), c6, nI1, pI_pw ((Fr.pw (a := r) (n := 1) (Nat.le_refl _) (by omega)).OA H1.1), bd_ok]
      refine kk _ ⟨(F.tr (Fr.pw (by omega) (by omega))).tr (Fr.pw (by omega) (by omega)), ?_, ?_, ?_, ?_, ?_⟩
      · rw [pw_n _ _ _ (by decide), pw_n _ _ _ (by decide)]; exact c2
      · rw [pw_n _ _ _ (by decide), pw_n _ _ _ (by decide)]; exact c3
      · rw [pw_n _ _ _ (by decide), pw_n _ _ _ (by decide)]; exact c5
      · rw [pw_s]; rfl
      · rw [pw_n _ _ _ (by decide), pw_s, em, if_pos g]
    · rw [if_pos (show (3 : Int32) ≤ nI i from leY (m := 3) (by omega) (by omega)), show (1000 : Int32) = nI 1000 from rfl, pI_pw H1.1, bd_ok, gI_ok (show OA 2 (pw q r 4 _) r from (Fr.pw (a := r) (n := 1) (Nat.le_refl _) (by omega)).OA H1.1), bd_ok, pw_n _ _ _ (by decide), c6, nI1, pI_pw ((Fr.pw (a := r) (n := 1) (Nat.le_refl _) (by omega)).OA H1.1), bd_ok]
      refine kk _ ⟨(F.tr (Fr.pw (by omega) (by omega))).tr (Fr.pw (by omega) (by omega)), ?_, ?_, ?_, ?_, ?_⟩
      · rw [pw_n _ _ _ (by decide), pw_n _ _ _ (by decide)]; exact c2
      · rw [pw_n _ _ _ (by decide), pw_n _ _ _ (by decide)]; exact c3
      · rw [pw_n _ _ _ (by decide), pw_n _ _ _ (by decide)]; exact c5
      · rw [pw_s]; rfl
      · rw [pw_n _ _ _ (by decide), pw_s, em, if_neg g]
  · rintro k q ⟨F, c2, c3, c5, c6, c4⟩
    have H1 := F.Rd H
    have T1 := F.Tp (by omega) HT
    have ee : s + (rnE (dgtB T) n s - s) = rnE (dgtB T) n s := by omega
    rw [ee] at c6
    show Ret (lb_X2_readNumber_5 r _ _ q) _ _
    have a6 : gI 2 6 r q = some (nI (rnE (dgtB T) n s)) := by rw [gI_ok H1.1, c6]
    have a2 : gI 2 2 r q = some (nI n) := by rw [gI_ok H1.1, c2]
    unfold lb_X2_readNumber_5
    simp only [a6, a2, H1.t, Option.bind_some]
    by_cases g : n ≤ rnE (dgtB T) n s
    · rw [if_pos (leY g (by omega))]
      exact Ret.mk ⟨F, c2, c3, c5, c6, c4⟩
    · have hd : ¬ dgtB T (rnE (dgtB T) n s) = true := sp.2.2.2 (by omega)
      have hd2 : ¬ (48 ≤ T (rnE (dgtB T) n s) ∧ T (rnE (dgtB T) n s) ≤ 57) := fun e => hd (decide_eq_true e)
      rw [if_neg (leN (by omega) (by omega)), H1.l T1 (by omega), bd_ok, f_dig (HT.2.1 _), ob_ok, if_neg hd2, if_pos rfl]
      exact Ret.mk ⟨F, c2, c3, c5, c6, c4⟩
theorem s_adv (H : RdI h r) (HT : TpI h (r + 1) T n) (h2 : hI h r 2 = nI n) (h6 : hI h r 6 = nI e) (he : e ≤ n) : Ret (f_X2_advance r h) () (fun h' => Fr r 1 h h' ∧ hI h' r 2 = nI n ∧ LkI h' r T n e) := by
  have hn := HT.1
  have sp := rnE_spec (spcB T) he
  have hOA : ∀ {q : HP} {k : Nat} {x : Int32}, OA 2 q r → OA 2 (pw q r k x) r := fun H => (Fr.pw (a := r) (n := 1) (Nat.le_refl _) (by omega)).OA H
  unfold f_X2_advance
  rw [gI_ok H.1, bd_ok, h6, pI_pw H.1, bd_ok]
  refine Ret.gen (run := fun k q => lp_X2_advance_8 r _ k q) (fun i q => Fr r 1 h q ∧ hI q r 2 = nI n ∧ hI q r 5 = nI (e + i)) (tS T n e - e) ?_ ?_ (tS T n e - e) 0 1000 _ (by omega) (by unfold tS; omega) ⟨Fr.pw (by omega) (by omega), by rw [pw_n _ _ _ (by decide)]; exact h2, by rw [pw_s]; rfl⟩
  · rintro k i q hi ⟨F, c2, c5⟩ kk
    have H1 := F.Rd H
    have T1 := F.Tp (by omega) HT
    have hi' : e + i < tS T n e := by omega
    have hd : spcB T (e + i) = true := sp.2.2.1 (e + i) (by omega) hi'
    have hd2 : T (e + i) = 32 := of_decide_eq_true hd
    have htS := (tS_spec T he).2
    have l1 := H1.l T1 (i := e + i) (by omega)
    have a5 : gI 2 5 r q = some (nI (e + i)) := by rw [gI_ok H1.1, c5]
    have a2 : gI 2 2 r q = some (nI n) := by rw [gI_ok H1.1, c2]
    show Ret (lb_X2_advance_8 r _ _ q) _ _
    unfold lb_X2_advance_8
    simp only [a5, a2, H1.t, l1, Option.bind_some]
    rw [if_neg (leN (show e + i < n by omega) (by omega)), hd2, if_pos (show nI 32 = 32 from rfl), nI1, pI_pw H1.1, bd_ok]
    refine kk _ ⟨F.tr (Fr.pw (by omega) (by omega)), ?_, ?_⟩
    · rw [pw_n _ _ _ (by decide)]; exact c2
    · rw [pw_s]; rfl
  · rintro k q ⟨F, c2, c5⟩
    have htS := tS_spec T he
    have ee : e + (tS T n e - e) = tS T n e := by omega
    rw [ee] at c5
    have H1 := F.Rd H
    have T1 := F.Tp (by omega) HT
    have next : Ret (Option.bind (gI 2 5 r q) fun x48 => (pI 2 6 r x48 q).bind fun h51 => (gI 2 5 r h51).bind fun x55 => (gI 2 2 r h51).bind fun x59 => if x55 < x59 then (gR 2 0 r h51).bind fun x74 => (gI 2 5 r h51).bind fun x78 => (lI x74 x78 h51).bind fun x81 => ob (f_X2_isLetter x81 h51) fun x82 h82 => if x82 = 0 then (gR 2 0 r h82).bind fun x133 => (gI 2 5 r h82).bind fun x137 => (lI x133 x137 h82).bind fun x140 => ob (f_X2_isDigit x140 h82) fun x141 h141 => if x141 = 0 then (gR 2 0 r h141).bind fun x161 => (gI 2 5 r h141).bind fun x165 => (lI x161 x165 h141).bind fun x168 => if x168 = 59 then (pI 2 3 r 3 h141).bind fun h179 => (gI 2 6 r h179).bind fun x184 => (pI 2 6 r (x184 + 1) h179).bind fun h189 => some ((), h189) else (pI 2 3 r 4 h141).bind fun h179 => (gI 2 6 r h179).bind fun x184 => (pI 2 6 r (x184 + 1) h179).bind fun h189 => some ((), h189) else (pI 2 3 r 2 h141).bind fun h149 => ob (inv 2 r h149 (f_X2_readNumber r h149)) fun _ h153 => some ((), h153) else (pI 2 3 r 1 h82).bind fun h90 => lp_X2_advance_93 r (fun h93_ => some ((), h93_)) 1000 h90 else (pI 2 3 r 0 h51).bind fun h67 => some ((), h67)) () (fun h' => Fr r 1 h h' ∧ hI h' r 2 = nI n ∧ LkI h' r T n e) := by
      rw [gI_ok H1.1, bd_ok, c5, pI_pw H1.1, bd_ok]
      have F2 := F.tr (Fr.pw (a := r) (n := 1) (h := q) (k := 6) (x := nI (tS T n e)) (Nat.le_refl r) (by omega))
      have d2 : hI (pw q r 6 (nI (tS T n e))) r 2 = nI n := by rw [pw_n _ _ _ (by decide)]; exact c2
      have d5 : hI (pw q r 6 (nI (tS T n e))) r 5 = nI (tS T n e) := by rw [pw_n _ _ _ (by decide)]; exact c5
      have d6 : hI (pw q r 6 (nI (tS T n e))) r 6 = nI (tS T n e) := pw_s _ _ _ _
      generalize pw q r 6 (nI (tS T n e)) = g at F2 d2 d5 d6 ⊢
      have H2 := F2.Rd H
      have T2 := F2.Tp (by omega) HT
      have a5 : gI 2 5 r g = some (nI (tS T n e)) := by rw [gI_ok H2.1, d5]
      have a2 : gI 2 2 r g = some (nI n) := by rw [gI_ok H2.1, d2]
      rw [a5, bd_ok, a2, bd_ok]
      by_cases q0 : n ≤ tS T n e
      · rw [if_neg (ltN q0 (by omega)), pI_pw H2.1, bd_ok]
        have k0 : tK T n e = 0 := by unfold tK; rw [if_pos q0]
        have e0 : tE T n e = tS T n e := by unfold tE; rw [if_pos q0]
        refine Ret.mk ⟨F2.tr (Fr.pw (by omega) (by omega)), by rw [pw_n _ _ _ (by decide)]; exact d2, by rw [pw_s, k0]; rfl, by rw [pw_n _ _ _ (by decide)]; exact d5, by rw [pw_n _ _ _ (by decide), e0]; exact d6, fun c => absurd c (by omega)⟩
      · have ht := HT.2.1 (tS T n e)
        have l1 := H2.l T2 (i := tS T n e) (by omega)
        rw [if_pos (ltY (by omega) (by omega)), H2.t, bd_ok, bd_ok, l1, bd_ok, f_let ht, ob_ok]
        by_cases q1 : lttB T (tS T n e) = true
        · have q1' := of_decide_eq_true q1
          have k1 : tK T n e = 1 := by unfold tK; rw [if_neg q0, if_pos q1]
          have e1 : tE T n e = rnE (lttB T) n (tS T n e) := by unfold tE; rw [if_neg q0, if_pos q1]
          rw [if_pos q1', if_neg (by decide), pI_pw H2.1, bd_ok]
          have sp1 := rnE_spec (lttB T) htS.2
          refine Ret.gen (run := fun k q => lp_X2_advance_93 r _ k q) (fun i g => Fr r 1 h g ∧ hI g r 2 = nI n ∧ hI g r 3 = nI 1 ∧ hI g r 5 = nI (tS T n e) ∧ hI g r 6 = nI (tS T n e + i)) (rnE (lttB T) n (tS T n e) - tS T n e) ?_ ?_ (rnE (lttB T) n (tS T n e) - tS T n e) 0 1000 _ (by omega) (by omega) ⟨F2.tr (Fr.pw (by omega) (by omega)), by rw [pw_n _ _ _ (by decide)]; exact d2, by rw [pw_s]; rfl, by rw [pw_n _ _ _ (by decide)]; exact d5, by rw [pw_n _ _ _ (by decide)]; exact d6⟩
          · rintro k i g hi ⟨F3, c2, c3, c5, c6⟩ kk
            have H3 := F3.Rd H
            have T3 := F3.Tp (by omega) HT
            have hd : lttB T (tS T n e + i) = true := sp1.2.2.1 (tS T n e + i) (by omega) (by omega)
            have hd2 := of_decide_eq_true hd
            have l1 := H3.l T3 (i := tS T n e + i) (by omega)
            have a6 : gI 2 6 r g = some (nI (tS T n e + i)) := by rw [gI_ok H3.1, c6]
            have a2 : gI 2 2 r g = some (nI n) := by rw [gI_ok H3.1, c2]
            have fl : f_X2_isLetter (nI (T (tS T n e + i))) g = some (1, g) := by rw [f_let (HT.2.1 _), if_pos hd2]
            show Ret (lb_X2_advance_93 r _ _ g) _ _
            unfold lb_X2_advance_93
            simp only [a6, a2, H3.t, l1, fl, Option.bind_some, ob_ok]
            rw [if_neg (leN (show tS T n e + i < n by omega) (by omega)), if_neg (show ¬ (1 : Int32) = 0 by decide), nI1, pI_pw H3.1, bd_ok]
            refine kk _ ⟨F3.tr (Fr.pw (by omega) (by omega)), ?_, ?_, ?_, ?_⟩
            · rw [pw_n _ _ _ (by decide)]; exact c2
            · rw [pw_n _ _ _ (by decide)]; exact c3
            · rw [pw_n _ _ _ (by decide)]; exact c5
            · rw [pw_s]; rfl
          · rintro k g ⟨F3, c2, c3, c5, c6⟩
            have H3 := F3.Rd H
            have T3 := F3.Tp (by omega) HT
            have ee : tS T n e + (rnE (lttB T) n (tS T n e) - tS T n e) = rnE (lttB T) n (tS T n e) := by omega
            rw [ee] at c6
            have fin : Ret (some ((), g)) () (fun h' => Fr r 1 h h' ∧ hI h' r 2 = nI n ∧ LkI h' r T n e) :=
              Ret.mk ⟨F3, c2, by rw [k1]; exact c3, c5, by rw [e1]; exact c6, fun c => absurd c (by omega)⟩
            have a6 : gI 2 6 r g = some (nI (rnE (lttB T) n (tS T n e))) := by rw [gI_ok H3.1, c6]
            have a2 : gI 2 2 r g = some (nI n) := by rw [gI_ok H3.1, c2]
            show Ret (lb_X2_advance_93 r _ _ g) _ _
            unfold lb_X2_advance_93
            simp only [a6, a2, H3.t, Option.bind_some]
            by_cases w : n ≤ rnE (lttB T) n (tS T n e)
            · rw [if_pos (leY w (by omega))]
              exact fin
            · have hd : ¬ lttB T (rnE (lttB T) n (tS T n e)) = true := sp1.2.2.2 (by omega)
              have hd2 : ¬ (97 ≤ T (rnE (lttB T) n (tS T n e)) ∧ T (rnE (lttB T) n (tS T n e)) ≤ 122) := fun e => hd (decide_eq_true e)
              rw [if_neg (leN (by omega) (by omega)), H3.l T3 (by omega), bd_ok, f_let (HT.2.1 _), ob_ok, if_neg hd2, if_pos rfl]
              exact fin
        · have q1' : ¬ (97 ≤ T (tS T n e) ∧ T (tS T n e) ≤ 122) := fun e => q1 (decide_eq_true e)
          rw [if_neg q1', if_pos rfl, H2.t, bd_ok, a5, bd_ok, l1, bd_ok, f_dig ht, ob_ok]
          by_cases q2 : dgtB T (tS T n e) = true
          · have q2' := of_decide_eq_true q2
            have k1 : tK T n e = 2 := by unfold tK; rw [if_neg q0, if_neg q1, if_pos q2]
            have e1 : tE T n e = rnE (dgtB T) n (tS T n e) := by unfold tE; rw [if_neg q0, if_neg q1, if_pos q2]
            rw [if_pos q2', if_neg (by decide), pI_pw H2.1, bd_ok]
            have F3 : Fr r 1 h (pw g r 3 2) := F2.tr (Fr.pw (by omega) (by omega))
            refine Ret.icall (F3.Rd H).1 (s_num (F3.Rd H) (F3.Tp (by omega) HT) (by rw [pw_n _ _ _ (by decide)]; exact d2) htS.2 (by rw [pw_n _ _ _ (by decide)]; exact d5) (by rw [pw_n _ _ _ (by decide)]; exact d6) (pw_s _ _ _ _)) fun h4 ⟨F4, c2, c3, c5, c6, c4⟩ => ?_
            refine Ret.mk ⟨F3.tr F4, c2, by rw [k1]; exact c3, c5, by rw [e1]; exact c6, fun _ => ?_⟩
            unfold tN
            rw [e1]
            exact c4
          · have q2' : ¬ (48 ≤ T (tS T n e) ∧ T (tS T n e) ≤ 57) := fun e => q2 (decide_eq_true e)
            have e1 : tE T n e = tS T n e + 1 := by unfold tE; rw [if_neg q0, if_neg q1, if_neg q2]
            have k1 : tK T n e = if T (tS T n e) = 59 then 3 else 4 := by unfold tK; rw [if_neg q0, if_neg q1, if_neg q2]
            rw [if_neg q2', if_pos rfl, H2.t, bd_ok, a5, bd_ok, l1, bd_ok]
            have fin : ∀ v : Nat, v = (if T (tS T n e) = 59 then 3 else 4) → Ret ((pI 2 3 r (nI v) g).bind fun h179 => (gI 2 6 r h179).bind fun x184 => (pI 2 6 r (x184 + 1) h179).bind fun h189 => some ((), h189)) () (fun h' => Fr r 1 h h' ∧ hI h' r 2 = nI n ∧ LkI h' r T n e) := by
              intro v hv
              rw [pI_pw H2.1, bd_ok, gI_ok (hOA H2.1), bd_ok, pw_n _ _ _ (by decide), d6, nI1, pI_pw (hOA H2.1), bd_ok]
              refine Ret.mk ⟨(F2.tr (Fr.pw (by omega) (by omega))).tr (Fr.pw (by omega) (by omega)), by rw [pw_n _ _ _ (by decide), pw_n _ _ _ (by decide)]; exact d2, by rw [pw_n _ _ _ (by decide), pw_s, k1, hv], by rw [pw_n _ _ _ (by decide), pw_n _ _ _ (by decide)]; exact d5, by rw [pw_s, e1], fun c => ?_⟩
              rw [k1] at c
              split at c <;> omega
            by_cases q3 : T (tS T n e) = 59
            · rw [if_pos (show nI (T (tS T n e)) = 59 by rw [q3]; rfl)]
              exact fin 3 (by rw [if_pos q3])
            · rw [if_neg (show ¬ nI (T (tS T n e)) = 59 from eqN (m := 59) q3 (by decide) (by omega))]
              exact fin 4 (by rw [if_neg q3])
    have a5 : gI 2 5 r q = some (nI (tS T n e)) := by rw [gI_ok H1.1, c5]
    have a2 : gI 2 2 r q = some (nI n) := by rw [gI_ok H1.1, c2]
    show Ret (lb_X2_advance_8 r _ _ q) _ _
    unfold lb_X2_advance_8
    rw [a5, bd_ok, a2, bd_ok]
    by_cases g : n ≤ tS T n e
    · rw [if_pos (leY g (by omega))]
      exact next
    · have hd : ¬ spcB T (tS T n e) = true := sp.2.2.2 (by unfold tS at g; omega)
      have hd2 : ¬ T (tS T n e) = 32 := fun e => hd (decide_eq_true e)
      rw [if_neg (leN (by omega) (by omega)), H1.t, bd_ok, bd_ok, H1.l T1 (by omega), bd_ok, if_neg (show ¬ nI (T (tS T n e)) = 32 from eqN (m := 32) hd2 (by decide) (by have := HT.2.1 (tS T n e); omega))]
      exact next
end READ
