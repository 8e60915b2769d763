/-! SHELVES: nothing (0), a row (1) of a sort and a size, one of the people (2) -/
abbrev Sh : Type := Nat × Nat × Nat × (Nat → Int64)
def cnt (q : Sh) : Int32 := if q.1 = 0 then -1 else if q.1 = 1 then nI q.2.1 else nI (10 + q.2.1)
def ShOk (P : Nat) (q : Sh) : Prop := q.1 ≤ 2 ∧ (q.1 = 1 → q.2.1 < 5 ∧ q.2.2.1 ≤ 40) ∧ (q.1 = 2 → q.2.1 < P)
def ShI (h : HP) (b : Nat) : Prop := OA 3 h b ∧ hR h b 2 = some (b + 1) ∧ LA h (b + 1) 40
def ShV (h : HP) (b : Nat) (q : Sh) : Prop := hI h b 0 = cnt q ∧ (q.1 = 1 → hI h b 1 = nI q.2.2.1 ∧ ∀ i, i < 40 → hJ h (b + 1) i = q.2.2.2 i)
theorem ShI.r {h : HP} {b : Nat} (H : ShI h b) : gR 3 2 b h = some (b + 1) := gR_ok H.1 H.2.1
/-- two cells and their longs may change, all else stays -/
def FrS (b : Nat) (h h' : HP) : Prop := hN h' = hN h ∧ hL h' = hL h ∧ hS h' = hS h ∧ hR h' = hR h ∧ (∀ q, q ≠ b + 1 → hJ h' q = hJ h q) ∧ ∀ q, q ≠ b → hI h' q = hI h q
theorem FrS.rf (b : Nat) (h : HP) : FrS b h h := ⟨rfl, rfl, rfl, rfl, fun _ _ => rfl, fun _ _ => rfl⟩
theorem FrS.tr {b : Nat} {h h1 h2 : HP} (f : FrS b h h1) (g : FrS b h1 h2) : FrS b h h2 :=
  ⟨g.1.trans f.1, g.2.1.trans f.2.1, g.2.2.1.trans f.2.2.1, g.2.2.2.1.trans f.2.2.2.1, fun q hq => (g.2.2.2.2.1 q hq).trans (f.2.2.2.2.1 q hq), fun q hq => (g.2.2.2.2.2 q hq).trans (f.2.2.2.2.2 q hq)⟩
theorem FrS.wi (b : Nat) (h : HP) (g : Nat → Int32) : FrS b h (wI h b g) := ⟨rfl, rfl, rfl, rfl, fun _ _ => rfl, fun q hq => upA_n _ _ hq⟩
theorem FrS.wj (b : Nat) (h : HP) (g : Nat → Int64) : FrS b h (wJ h (b + 1) g) := ⟨rfl, rfl, rfl, rfl, fun q hq => upA_n _ _ hq, fun _ _ => rfl⟩
theorem FrS.Sh {b c : Nat} {h h' : HP} (f : FrS b h h') (H : ShI h c) : ShI h' c :=
  ⟨⟨by rw [f.1]; exact H.1.1, by rw [f.2.2.1]; exact H.1.2⟩, by rw [f.2.2.2.1]; exact H.2.1, ⟨by rw [f.1]; exact H.2.2.1, by rw [f.2.2.1]; exact H.2.2.2⟩⟩
theorem hJ_w (h : HP) (b : Nat) (g : Nat → Int64) : hJ (wJ h b g) b = g := upA_s _ _ _
theorem hJ_wn (h : HP) {b q : Nat} (g : Nat → Int64) (hq : q ≠ b) : hJ (wJ h b g) q = hJ h q := upA_n _ _ hq
/-- what a row of a sort makes of a value -/
def fitV (k : Nat) (v : Int64) : Int64 := if k = 0 then v.toInt32.toInt8.toInt32.toInt64 else if k = 1 then v.toInt32.toInt16.toInt32.toInt64 else if k = 2 then v.toInt32.toInt64 else if k = 3 then v else if lg_cmp v 0 = 0 then 0 else 1
/-- refused as a row; as told of n -/
def rfR (q : Sh) : Int32 := if q.1 = 2 then -3 else if q.1 = 0 then -4 else 0
def rfTo (q : Sh) (n : Nat) : Int32 := if q.1 = 2 then -3 else if q.1 = 0 then -4 else if q.2.2.1 < n then -2 else 0
def lkB (z : Nat) (i n : Int32) : Bool := decide (¬ (0 ≤ i.toInt ∧ 0 ≤ n.toInt ∧ i.toInt + n.toInt ≤ z))
section SHELF
variable {h : HP} {b P : Nat} {q : Sh}
theorem cnt_neg (O : ShOk P q) (hP : P ≤ 8) : (cnt q = -1 ↔ q.1 = 0) ∧ (cnt q < 10 ↔ q.1 ≠ 2) := by
  obtain ⟨o1, o2, o3⟩ := O
  unfold cnt
  by_cases e0 : q.1 = 0
  · rw [if_pos e0]
    exact ⟨⟨fun _ => e0, fun _ => rfl⟩, ⟨fun _ => by omega, fun _ => by decide⟩⟩
  · rw [if_neg e0]
    by_cases e1 : q.1 = 1
    · have := (o2 e1).1
      rw [if_pos e1]
      exact ⟨⟨fun e => absurd e (nI_nm1 (by omega)), fun e => absurd e e0⟩, ⟨fun _ => by omega, fun _ => ltY (b := 10) (by omega) (by decide)⟩⟩
    · have e2 : q.1 = 2 := by omega
      have := o3 e2
      rw [if_neg e1]
      exact ⟨⟨fun e => absurd e (nI_nm1 (by omega)), fun e => absurd e e0⟩, ⟨fun e => absurd e (ltN (m := 10 + q.2.1) (b := 10) (by omega) (by omega)), fun e => absurd e2 e⟩⟩
theorem s_hasP (H : ShI h b) (O : ShOk P q) (hP : P ≤ 8) (V : ShV h b q) : f_X3_hasPerson b h = some (if q.1 = 2 then 1 else 0, h) := by
  have e := (cnt_neg O hP).2
  unfold f_X3_hasPerson
  rw [gI_ok H.1, bd_ok, V.1]
  by_cases g : q.1 = 2
  · rw [if_neg (fun f => e.mp f g), rZ1, if_pos g]
  · rw [if_pos (e.mpr g), rZ0, if_neg g]
theorem s_asRow (H : ShI h b) (O : ShOk P q) (hP : P ≤ 8) (V : ShV h b q) : f_X3_refusalAsRow b h = some (rfR q, h) := by
  have e := (cnt_neg O hP).1
  unfold f_X3_refusalAsRow rfR
  rw [inv_ok H.1, s_hasP H O hP V, ob_ok]
  by_cases g : q.1 = 2
  · rw [if_pos g, if_neg (by decide), if_pos g]
  · rw [if_neg g, if_pos rfl, gI_ok H.1, bd_ok, V.1, if_neg g]
    by_cases g2 : q.1 = 0
    · rw [if_pos (e.mpr g2), if_pos g2]
    · rw [if_neg (fun f => g2 (e.mp f)), if_neg g2]
theorem s_asTold (H : ShI h b) (O : ShOk P q) (hP : P ≤ 8) (V : ShV h b q) {n : Nat} (hn : n ≤ 1000) : f_X3_refusalAsTold b (nI n) h = some (rfTo q n, h) := by
  unfold f_X3_refusalAsTold
  rw [inv_ok H.1, s_asRow H O hP V, ob_ok]
  unfold rfR rfTo
  by_cases g : q.1 = 2
  · rw [if_pos g, if_neg (by decide), if_pos g]
  · rw [if_neg g, if_neg g]
    by_cases g2 : q.1 = 0
    · rw [if_pos g2, if_neg (by decide), if_pos g2]
    · have g1 : q.1 = 1 := by have := O.1; omega
      have hz := (O.2.1 g1).2
      rw [if_neg g2, if_pos rfl, gI_ok H.1, bd_ok, (V.2 g1).1, if_neg g2]
      by_cases g3 : q.2.2.1 < n
      · rw [if_neg (leN g3 (by omega)), if_pos g3]
      · rw [if_pos (leY (by omega) (by omega)), if_neg g3]
theorem s_lacks (H : ShI h b) {z : Nat} (hz : z ≤ 40) (e : hI h b 1 = nI z) (i n : Int32) : f_X3_lacks b i n h = some (if lkB z i n = true then 1 else 0, h) := by
  have z0 : (0 : Int32).toInt = 0 := rfl
  have zz : (nI z).toInt = z := nI_toInt (by omega)
  unfold f_X3_lacks lkB
  rw [gI_ok H.1, bd_ok, bd_ok, e, rZ0, rZ1]
  by_cases g1 : i < 0
  · rw [Int32.lt_iff_toInt_lt, z0] at g1
    rw [if_pos (Int32.lt_iff_toInt_lt.mpr g1), if_pos (by simp; omega)]
  · rw [if_neg g1]
    rw [Int32.lt_iff_toInt_lt, z0] at g1
    by_cases g2 : n < 0
    · rw [Int32.lt_iff_toInt_lt, z0] at g2
      rw [if_pos (Int32.lt_iff_toInt_lt.mpr g2), if_pos (by simp; omega)]
    · rw [if_neg g2]
      rw [Int32.lt_iff_toInt_lt, z0] at g2
      by_cases g3 : nI z < i
      · rw [Int32.lt_iff_toInt_lt, zz] at g3
        rw [if_pos (Int32.lt_iff_toInt_lt.mpr (by rw [zz]; exact g3)), if_pos (by simp; omega)]
      · rw [if_neg g3]
        rw [Int32.lt_iff_toInt_lt, zz] at g3
        have es : (nI z - i).toInt = z - i.toInt := by
          rw [Int32.toInt_sub, zz]
          exact Int.bmod_eq_of_le (by omega) (by omega)
        by_cases g4 : n ≤ nI z - i
        · rw [if_pos g4]
          rw [Int32.le_iff_toInt_le, es] at g4
          rw [if_neg (by simp; omega)]
        · rw [if_neg g4]
          rw [Int32.le_iff_toInt_le, es] at g4
          rw [if_pos (by simp; omega)]
theorem s_row (H : ShI h b) {k n : Nat} : Ret (f_X3_becomeRow b (nI k) (nI n) h) () (fun h' => FrS b h h' ∧ ShV h' b (1, k, n, fun _ => 0)) := by
  unfold f_X3_becomeRow
  rw [pI_ok H.1, bd_ok]
  have F1 := FrS.wi b h (upd (hI h b) 0 (nI k))
  rw [pI_ok (F1.Sh H).1, bd_ok]
  have F2 := F1.tr (FrS.wi b (wI h b (upd (hI h b) 0 (nI k))) (upd (hI (wI h b (upd (hI h b) 0 (nI k))) b) 1 (nI n)))
  have e0 : hI (wI (wI h b (upd (hI h b) 0 (nI k))) b (upd (hI (wI h b (upd (hI h b) 0 (nI k))) b) 1 (nI n))) b 0 = nI k := by rw [hI_w, upd_n _ _ (by decide), hI_w, upd_s]
  have e1 : hI (wI (wI h b (upd (hI h b) 0 (nI k))) b (upd (hI (wI h b (upd (hI h b) 0 (nI k))) b) 1 (nI n))) b 1 = nI n := by rw [hI_w, upd_s]
  generalize wI (wI h b (upd (hI h b) 0 (nI k))) b (upd (hI (wI h b (upd (hI h b) 0 (nI k))) b) 1 (nI n)) = h2 at F2 e0 e1 ⊢
  refine Ret.loop (lp := lp_X3_becomeRow_12 b _) (fun i g => FrS b h g ∧ hI g b 0 = nI k ∧ hI g b 1 = nI n ∧ ∀ j, j < i → hJ g (b + 1) j = 0) 40 (by decide) ⟨F2, e0, e1, fun j hj => absurd hj (by omega)⟩ ?_ ?_
  · rintro t i h1 hi ⟨F, c0, c1, hr⟩ kk
    have H1 := F.Sh H
    show Ret (lb_X3_becomeRow_12 b _ _ _ h1) _ _
    unfold lb_X3_becomeRow_12
    rw [if_neg (show ¬ (40 : Int32) ≤ nI i from leN (m := 40) (by omega) (by decide)), H1.r, bd_ok, sJ_ok H1.2.2 hi (by decide), bd_ok, nI1 i]
    refine kk _ ⟨F.tr (FrS.wj b h1 _), c0, c1, fun j hj => ?_⟩
    rw [hJ_w]
    by_cases e : j = i
    · rw [e, pk_uLs]
    · rw [pk_uLn e]
      exact hr j (by omega)
  · rintro t h1 ⟨F, c0, c1, hr⟩
    show Ret (lb_X3_becomeRow_12 b _ _ _ h1) _ _
    unfold lb_X3_becomeRow_12
    rw [if_pos (show (40 : Int32) ≤ nI 40 by decide)]
    exact Ret.mk ⟨F, c0, fun _ => ⟨c1, hr⟩⟩
theorem s_put (H : ShI h b) (O : ShOk P q) (V : ShV h b q) (g1 : q.1 = 1) {i : Nat} (hi : i < 40) {v : Int64} : Ret (f_X3_put b (nI i) v h) () (fun h' => FrS b h h' ∧ ShV h' b (1, q.2.1, q.2.2.1, vp_updL q.2.2.2 i (fitV q.2.1 v))) := by
  have hk := (O.2.1 g1).1
  have e0 : cnt q = nI q.2.1 := by unfold cnt; rw [if_neg (by omega), if_pos g1]
  have st : ∀ w, Ret ((sJ (b + 1) (nI i) w h).bind fun h49 => some ((), h49)) () (fun h' => FrS b h h' ∧ ShV h' b (1, q.2.1, q.2.2.1, vp_updL q.2.2.2 i w)) := by
    intro w
    rw [sJ_ok H.2.2 hi (by decide), bd_ok]
    refine Ret.mk ⟨FrS.wj b h _, V.1.trans e0, fun _ => ⟨(V.2 g1).1, fun j hj => ?_⟩⟩
    rw [hJ_w]
    show vp_updL (hJ h (b + 1)) i w j = vp_updL q.2.2.2 i w j
    by_cases e : j = i
    · rw [e, pk_uLs, pk_uLs]
    · rw [pk_uLn e, pk_uLn e]
      exact (V.2 g1).2 j hj
  unfold f_X3_put fitV
  rw [gI_ok H.1, bd_ok, V.1, e0]
  simp only [H.r, Option.bind_some]
  have c : ∀ m, m < 5 → ((nI q.2.1 = nI m) ↔ q.2.1 = m) := fun m hm => nIe (by omega) (by omega)
  have c0 : (nI q.2.1 = 0) ↔ q.2.1 = 0 := c 0 (by decide)
  have c1 : (nI q.2.1 = 1) ↔ q.2.1 = 1 := c 1 (by decide)
  have c2 : (nI q.2.1 = 2) ↔ q.2.1 = 2 := c 2 (by decide)
  have c3 : (nI q.2.1 = 3) ↔ q.2.1 = 3 := c 3 (by decide)
  have c4 : (nI q.2.1 = 4) ↔ q.2.1 = 4 := c 4 (by decide)
  simp only [c0, c1, c2, c3, c4]
  by_cases k0 : q.2.1 = 0
  · rw [if_pos k0, if_pos k0]; exact st _
  · rw [if_neg k0, if_neg k0]
    by_cases k1 : q.2.1 = 1
    · rw [if_pos k1, if_pos k1]; exact st _
    · rw [if_neg k1, if_neg k1]
      by_cases k2 : q.2.1 = 2
      · rw [if_pos k2, if_pos k2]; exact st _
      · rw [if_neg k2, if_neg k2]
        by_cases k3 : q.2.1 = 3
        · rw [if_pos k3, if_pos k3]; exact st _
        · rw [if_neg k3, if_neg k3, if_pos (by omega)]
          by_cases k4 : lg_cmp v 0 = 0
          · rw [if_pos k4, if_pos k4]; exact st _
          · rw [if_neg k4, if_neg k4]; exact st _
end SHELF
