/-! LONGS SET SIDE BY SIDE -/
theorem cmp_eq {x y : Int64} : lg_cmp x y = 0 ↔ x = y := by
  unfold lg_cmp
  by_cases h : x > y
  · rw [if_pos h]
    constructor
    · intro e; exact absurd e (by decide)
    · intro e
      have h2 := Int64.lt_iff_toInt_lt.mp h
      rw [e] at h2
      omega
  · rw [if_neg h]
    by_cases e : x = y
    · rw [if_pos e]; exact ⟨fun _ => e, fun _ => rfl⟩
    · rw [if_neg e]; exact ⟨fun q => absurd q (by decide), fun q => absurd q e⟩
theorem cmp_lt {x y : Int64} : lg_cmp x y < 0 ↔ x.toInt < y.toInt := by
  unfold lg_cmp
  by_cases h : x > y
  · have h2 := Int64.lt_iff_toInt_lt.mp h
    rw [if_pos h]
    exact ⟨fun q => absurd q (by decide), fun q => by omega⟩
  · have h2 : ¬ y.toInt < x.toInt := fun q => h (Int64.lt_iff_toInt_lt.mpr q)
    rw [if_neg h]
    by_cases e : x = y
    · rw [if_pos e, e]; exact ⟨fun q => absurd q (by decide), fun q => by omega⟩
    · have h3 : ¬ x.toInt = y.toInt := fun q => e (Int64.toInt_inj.mp q)
      rw [if_neg e]; exact ⟨fun _ => by omega, fun _ => by decide⟩
theorem cmp_gt {x y : Int64} : 0 < lg_cmp x y ↔ y.toInt < x.toInt := by
  unfold lg_cmp
  by_cases h : x > y
  · have h2 := Int64.lt_iff_toInt_lt.mp h
    rw [if_pos h]
    exact ⟨fun _ => h2, fun _ => by decide⟩
  · have h2 : ¬ y.toInt < x.toInt := fun q => h (Int64.lt_iff_toInt_lt.mpr q)
    rw [if_neg h]
    by_cases e : x = y
    · rw [if_pos e]; exact ⟨fun q => absurd q (by decide), fun q => absurd q h2⟩
    · rw [if_neg e]; exact ⟨fun q => absurd q (by decide), fun q => absurd q h2⟩
/-- a note that may be -/
abbrev ntO (v : Int64) : Prop := 0 ≤ v.toInt ∧ v.toInt < 5
theorem ntO_lo {v : Int64} (h : ntO v) : ¬ lg_cmp v 0 < 0 := by
  rw [cmp_lt, show (0 : Int64).toInt = 0 from rfl]
  have := h.1
  omega
theorem ntO_i {v : Int64} (h : ntO v) : v.toInt32 = nI v.toInt.toNat := by
  obtain ⟨h1, h2⟩ := h
  apply Int32.toInt_inj.mp
  rw [nI_toInt (by omega), Int64.toInt_toInt32]
  have : (v.toInt).bmod (2 ^ 32) = v.toInt := Int.bmod_eq_of_le (by omega) (by omega)
  rw [this]
  omega
theorem nm1 (n : Nat) : nI (n + 1) - 1 = nI n := (lim_n n).symm
/-! TUNES -/
/-- the fewest changes: one note more on the left -/
def edR (tn : Nat → Nat) (c i : Nat) (pv : Nat → Nat) : Nat → Nat
  | 0 => i + 1
  | j + 1 => min (pv j + (if c = tn j then 0 else 1)) (min (pv (j + 1)) (edR tn c i pv j) + 1)
def edN (hd tn : Nat → Nat) : Nat → Nat → Nat
  | 0 => fun j => j
  | i + 1 => edR tn (hd i) i (edN hd tn i)
theorem edR_le {tn : Nat → Nat} {c i : Nat} {pv : Nat → Nat} (h : ∀ j, pv j ≤ max i j) : ∀ j, edR tn c i pv j ≤ max (i + 1) j
  | 0 => by show i + 1 ≤ _; omega
  | j + 1 => by
    have h1 := h j
    show min (pv j + (if c = tn j then 0 else 1)) _ ≤ _
    have h2 : (if c = tn j then 0 else 1) ≤ 1 := by split <;> omega
    omega
theorem edN_le (hd tn : Nat → Nat) : ∀ i j, edN hd tn i j ≤ max i j
  | 0, j => by show j ≤ _; omega
  | i + 1, j => edR_le (edN_le hd tn i) j
theorem edN_congr {hd hd2 tn : Nat → Nat} : ∀ i, (∀ q, q < i → hd q = hd2 q) → edN hd tn i = edN hd2 tn i
  | 0, _ => rfl
  | i + 1, h => by
    show edR tn (hd i) i (edN hd tn i) = edR tn (hd2 i) i (edN hd2 tn i)
    rw [edN_congr i (fun q hq => h q (by omega)), h i (by omega)]
/-- n notes at the end of one are those at the beginning of the other -/
def enB (f g : Nat → Nat) (n : Nat) : Bool := decide (∀ i, i < n → f (8 - n + i) = g i)
def cnE (f g : Nat → Nat) : Nat → Nat
  | 0 => 0
  | i + 1 => if f i = g i then cnE f g i + 1 else cnE f g i
def dgN (f : Nat → Nat) : Nat → Nat
  | 0 => 0
  | i + 1 => dgN f i * 10 + f i
def tuF (x : St) (s i : Nat) : Nat := sA x 8 (s * 8 + i)
def TunI (h : HP) (u : Nat) : Prop := OA 4 h u ∧ hR h u 0 = some (u + 1) ∧ hR h u 1 = some (u + 2) ∧ IA h (u + 1) 8 ∧ IA h (u + 2) 9
theorem Fr.Tun {b n u : Nat} {h h' : HP} (f : Fr b n h h') (H : TunI h u) : TunI h' u :=
  ⟨f.OA H.1, by rw [f.2.2.2.1]; exact H.2.1, by rw [f.2.2.2.1]; exact H.2.2.1, f.IA H.2.2.2.1, f.IA H.2.2.2.2⟩
theorem TunI.h {h : HP} {u : Nat} (H : TunI h u) : gR 4 0 u h = some (u + 1) := gR_ok H.1 H.2.1
theorem TunI.c {h : HP} {u : Nat} (H : TunI h u) : gR 4 1 u h = some (u + 2) := gR_ok H.1 H.2.2.1
/-- n notes are heard -/
def HrI (h : HP) (u n : Nat) (hd : Nat → Nat) : Prop := hI h u 2 = nI n ∧ n ≤ 8 ∧ ∀ i, i < n → hI h (u + 1) i = nI (hd i) ∧ hd i < 5
section TUNES
variable {h : HP} {a u : Nat} {x : St} {s : Nat}
theorem r_tune (HA : IsI h a) : gR 0 14 a h = some (a + 9) := HA.r 8 (by decide) rfl rfl
theorem l_tune (HA : IsI h a) (O : Ok x) (V : VC h a x) (hs : s < sS x) {i : Nat} (hi : i < 8) : lI (a + 9) (nI (s * 8 + i)) h = some (nI (tuF x s i)) := by
  have hS := O.2.1
  exact I_ld HA V 8 (by decide) (show s * 8 + i < 48 by omega) rfl
theorem tuF_lt (O : Ok x) (hs : s < sS x) {i : Nat} (hi : i < 8) : tuF x s i < 5 := by
  have hS := O.2.1
  exact O.b 8 (s * 8 + i) (by decide) (show s * 8 + i < 48 by omega)
theorem s_hearS (HU : TunI h u) (HA : IsI h a) (O : Ok x) (V : VC h a x) (hd : a + 11 ≤ u) (hs : s < sS x) : Ret (f_X4_listenToSong u a (nI s) h) () (fun h' => Fr u 3 h h' ∧ HrI h' u 8 (tuF x s)) := by
  have hS6 := O.2.1
  unfold f_X4_listenToSong
  rw [pI_ok HU.1, bd_ok]
  have F : Fr u 3 h (wI h u (upd (hI h u) 2 8)) := Fr.w (by omega) (by omega)
  have e2 : hI (wI h u (upd (hI h u) 2 8)) u 2 = nI 8 := by rw [hI_w, upd_s]; rfl
  generalize wI h u (upd (hI h u) 2 8) = h1 at F e2 ⊢
  have HU1 := F.Tun HU
  have V1 : VC h1 a x := V.fr F (by omega)
  rw [r_tune (F.I HA), bd_ok, HU1.h, bd_ok, show (8 : Int32) = nI 8 from rfl, pk_mul]
  have hT : IA h1 (a + 9) 48 := (F.I HA).a 8 (by decide) (by omega) rfl
  have t8 : (nI 8).toNatClampNeg = 8 := rfl
  have ts : (nI (s * 8)).toNatClampNeg = s * 8 := tcN (by omega)
  have ok : cpI (a + 9) (nI (s * 8)) (u + 1) 0 (nI 8) h1 = some (wI h1 (u + 1) (va_cpy (hI h1 (a + 9)) (hI h1 (u + 1)) (s * 8) 0 8)) := by
    have okk : cpOK (hS h1 (a + 9)).2 (hS h1 (u + 1)).2 (nI (s * 8)) 0 (nI 8) = true := by
      unfold cpOK
      refine decide_eq_true ⟨?_, by decide, by decide, by rw [ts, t8, hT.l]; omega, by rw [t8, HU1.2.2.2.1.l]; decide⟩
      rw [Int32.lt_iff_toInt_lt, nI_toInt (by omega), show (0 : Int32).toInt = 0 from rfl]
      omega
    unfold cpI
    rw [if_pos ⟨hT.o, HU1.2.2.2.1.o, okk⟩, ts, t8]
    rfl
  rw [ok, bd_ok]
  refine Ret.mk ⟨F.tr (Fr.w (by omega) (by omega)), ?_, by decide, fun i hi => ⟨?_, tuF_lt O hs hi⟩⟩
  · rw [hI_wn _ _ (by omega)]
    exact e2
  · rw [hI_w, va_cpy, if_pos ⟨by omega, by omega⟩]
    have := V_arr V1 8 (by decide) (i := s * 8 + i) (show s * 8 + i < 48 by omega) (b := a + 9) rfl
    rw [show s * 8 + (i - 0) = s * 8 + i by omega]
    exact this
theorem s_hearR (HU : TunI h u) {b c n : Nat} {e : Nat → Int64} (HT : ToldI h b c e) (hn : n ≤ 8) : (¬ fstN (fun i => decide (¬ ntO (e i))) n < n → Ret (f_X4_listenToRow u b (nI n) h) 1 (fun h' => Fr u 3 h h' ∧ HrI h' u n (fun i => (e i).toInt.toNat))) ∧ (fstN (fun i => decide (¬ ntO (e i))) n < n → Ret (f_X4_listenToRow u b (nI n) h) 0 (fun h' => Fr u 3 h h')) := by
  have F : Fr u 3 h (wI h u (upd (hI h u) 2 (nI n))) := Fr.w (by omega) (by omega)
  have e2 : hI (wI h u (upd (hI h u) 2 (nI n))) u 2 = nI n := by rw [hI_w, upd_s]
  have step : ∀ (v : Int32) (Q : HP → Prop) (k i : Nat) (h1 : HP), i < n → Fr u 3 h h1 → (ntO (e i) → Ret (lp_X4_listenToRow_7 u b (nI n) (fun h7_ => rZ 1 h7_) k (nI (i + 1)) (wI h1 (u + 1) (upd (hI h1 (u + 1)) i (nI (e i).toInt.toNat)))) v Q) → (¬ ntO (e i) → Ret (rZ 0 h1) v Q) → Ret (lp_X4_listenToRow_7 u b (nI n) (fun h7_ => rZ 1 h7_) (k + 1) (nI i) h1) v Q := by
    intro v Q k i h1 hi F kk1 kk2
    have HU1 := F.Tun HU
    have T1 := F.Told HT
    show Ret (lb_X4_listenToRow_7 u b _ _ _ _ h1) _ _
    unfold lb_X4_listenToRow_7
    rw [iN hi (by omega), T1.r, bd_ok, T1.j (by omega), bd_ok, HU1.h, bd_ok, nI1 i]
    by_cases q1 : lg_cmp (e i) 0 < 0
    · rw [if_pos q1]
      exact kk2 (fun q => ntO_lo q q1)
    · rw [if_neg q1]
      by_cases q2 : lg_cmp (e i) 5 < 0
      · rw [if_pos q2]
        rw [cmp_lt] at q1 q2
        have hq : ntO (e i) := ⟨by have : (0 : Int64).toInt = 0 := rfl; omega, by have : (5 : Int64).toInt = 5 := rfl; omega⟩
        rw [ntO_i hq, sI_ok HU1.2.2.2.1 (by omega) (by decide), bd_ok]
        exact kk1 hq
      · rw [if_neg q2]
        refine kk2 (fun q => q2 ?_)
        rw [cmp_lt]
        exact q.2
  constructor
  · intro hq
    have hall : ∀ i, i < n → ntO (e i) := by
      obtain ⟨g1, g2, g3⟩ := fstN_spec (fun i => decide (¬ ntO (e i))) n
      intro i hi
      have := g2 i (by omega)
      simpa using this
    unfold f_X4_listenToRow
    rw [pI_ok HU.1, bd_ok]
    generalize wI h u (upd (hI h u) 2 (nI n)) = h0 at F e2 ⊢
    refine Ret.loop (lp := lp_X4_listenToRow_7 u b (nI n) _) (fun i q => Fr u 3 h q ∧ hI q u 2 = nI n ∧ ∀ j, j < i → hI q (u + 1) j = nI (e j).toInt.toNat) n (by omega) ⟨F, e2, fun j hj => absurd hj (by omega)⟩ ?_ ?_
    · rintro k i h1 hi ⟨F1, e3, hr⟩ kk
      refine step _ _ k i h1 hi F1 (fun _ => kk _ ⟨F1.tr (Fr.w (by omega) (by omega)), by rw [hI_wn _ _ (by omega)]; exact e3, fun j hj => ?_⟩) (fun q => absurd (hall i hi) q)
      rw [hI_w]
      by_cases ee : j = i
      · rw [ee, upd_s]
      · rw [upd_n _ _ ee]
        exact hr j (by omega)
    · rintro k h1 ⟨F1, e3, hr⟩
      show Ret (lb_X4_listenToRow_7 u b _ _ _ _ h1) _ _
      unfold lb_X4_listenToRow_7
      rw [iY (by omega)]
      refine Ret.rz1 ⟨F1, e3, hn, fun i hi => ⟨hr i hi, ?_⟩⟩
      have := hall i hi
      have := this.1
      have := (hall i hi).2
      show (e i).toInt.toNat < 5
      omega
  · intro hq
    unfold f_X4_listenToRow
    rw [pI_ok HU.1, bd_ok]
    generalize wI h u (upd (hI h u) 2 (nI n)) = h0 at F e2 ⊢
    obtain ⟨g1, g2, g3⟩ := fstN_spec (fun i => decide (¬ ntO (e i))) n
    refine Ret.loop (lp := lp_X4_listenToRow_7 u b (nI n) _) (fun i q => Fr u 3 h q ∧ i ≤ fstN (fun i => decide (¬ ntO (e i))) n) n (by omega) ⟨F, Nat.zero_le _⟩ ?_ ?_
    · rintro k i h1 hi ⟨F1, hle⟩ kk
      refine step _ _ k i h1 hi F1 (fun q => kk _ ⟨F1.tr (Fr.w (by omega) (by omega)), ?_⟩) (fun q => Ret.rz0 F1)
      by_cases ee : i = fstN (fun i => decide (¬ ntO (e i))) n
      · have := g3 hq
        rw [← ee] at this
        simp [q] at this
      · omega
    · rintro k h1 ⟨F1, hle⟩
      exact absurd hle (by omega)
theorem hrk {n : Nat} {hd' : Nat → Nat} {h' : HP} {k : Nat} {v : Int32} (g : HrI h' u n hd') : HrI (wI h' (u + 2) (upd (hI h' (u + 2)) k v)) u n hd' := by
  obtain ⟨g1, g2, g3⟩ := g
  exact ⟨by rw [hI_wn _ _ (by omega)]; exact g1, g2, fun i hi => by rw [hI_wn _ _ (by omega)]; exact g3 i hi⟩
theorem s_row51 (HU : TunI h u) (HA : IsI h a) (O : Ok x) (V : VC h a x) (hd : a + 11 ≤ u) (hs : s < sS x) {n i : Nat} {hd' pv : Nat → Nat} (hi : i < n) (el : ∀ j, pv j ≤ max i j) {h0 : HP} (F0 : Fr u 3 h h0) (HH : HrI h0 u n hd') (hr : ∀ j, j < 9 → hI h0 (u + 2) j = nI (if j ≤ 0 then edR (tuF x s) (hd' i) i pv j else pv j)) {K : HP → Option (Int32 × HP)} {v : Int32} {Q : HP → Prop} (hK : ∀ h', Fr u 3 h h' → HrI h' u n hd' → (∀ j, j < 9 → hI h' (u + 2) j = nI (edR (tuF x s) (hd' i) i pv j)) → Ret (K h') v Q) : Ret (lp_X4_changesTo_51 u a (nI s) (nI i) K 1000 (nI (pv 0)) 1 h0) v Q := by
  have hS := O.2.1
  have hn8 := HH.2.1
  have eR := edR_le (tn := tuF x s) (c := hd' i) el
  refine Ret.gen (run := fun k (q : Int32 × Int32 × HP) => lp_X4_changesTo_51 u a (nI s) (nI i) K k q.1 q.2.1 q.2.2) (fun t q => q.1 = nI (pv t) ∧ q.2.1 = nI (t + 1) ∧ Fr u 3 h q.2.2 ∧ HrI q.2.2 u n hd' ∧ ∀ j, j < 9 → hI q.2.2 (u + 2) j = nI (if j ≤ t then edR (tuF x s) (hd' i) i pv j else pv j)) 8 ?_ ?_ 8 0 1000 (nI (pv 0), 1, h0) (by omega) (by omega) ⟨rfl, rfl, F0, HH, hr⟩
  · rintro k t ⟨b4, b5, h3⟩ ht ⟨rfl, rfl, F3, HH3, hr3⟩ kk3
    dsimp only at F3 HH3 hr3 kk3 ⊢
    have HU3 := F3.Tun HU
    have V3 : VC h3 a x := V.fr F3 (by omega)
    have hR1 := eR t
    have hp0 := el t
    have hp1 := el (t + 1)
    have hdl := (HH3.2.2 i hi).2
    have tul := tuF_lt O hs ht
    have lA : lI (u + 2) (nI (t + 1)) h3 = some (nI (pv (t + 1))) := by
      rw [lI_ok HU3.2.2.2.2 (by omega) (by decide), hr3 (t + 1) (by omega), if_neg (by omega)]
    have lB : lI (u + 2) (nI t) h3 = some (nI (edR (tuF x s) (hd' i) i pv t)) := by
      rw [lI_ok HU3.2.2.2.2 (by omega) (by decide), hr3 t (by omega), if_pos (by omega)]
    have lH : lI (u + 1) (nI i) h3 = some (nI (hd' i)) := by
      rw [lI_ok HU3.2.2.2.1 (by omega) (by decide), (HH3.2.2 i hi).1]
    have ix : nI s * 8 + nI (t + 1) - 1 = nI (s * 8 + t) := by rw [idx8]; exact nm1 (s * 8 + t)
    have lT := l_tune (F3.I HA) O V3 hs ht
    have min1 : f_J9_min_7cf53 (nI (pv (t + 1))) (nI (edR (tuF x s) (hd' i) i pv t)) h3 = some (nI (min (pv (t + 1)) (edR (tuF x s) (hd' i) i pv t)), h3) := minN (by omega) (by omega)
    have eS : edR (tuF x s) (hd' i) i pv (t + 1) = min (pv t + (if hd' i = tuF x s t then 0 else 1)) (min (pv (t + 1)) (edR (tuF x s) (hd' i) i pv t) + 1) := rfl
    have fin : Ret (lp_X4_changesTo_51 u a (nI s) (nI i) K k (nI (pv (t + 1))) (nI (t + 1 + 1)) (wI h3 (u + 2) (upd (hI h3 (u + 2)) (t + 1) (nI (edR (tuF x s) (hd' i) i pv (t + 1)))))) v Q := by
      refine kk3 (nI (pv (t + 1)), nI (t + 1 + 1), _) ⟨rfl, rfl, F3.tr (Fr.w (by omega) (by omega)), hrk HH3, fun j hj => ?_⟩
      show hI (wI h3 (u + 2) _) (u + 2) j = _
      rw [hI_w]
      by_cases ee : j = t + 1
      · rw [ee, upd_s, if_pos (by omega)]
      · rw [upd_n _ _ ee, hr3 j hj]
        by_cases e2 : j ≤ t
        · rw [if_pos e2, if_pos (by omega)]
        · rw [if_neg e2, if_neg (by omega)]
    show Ret (lb_X4_changesTo_51 u a _ _ _ _ _ _ h3) _ _
    unfold lb_X4_changesTo_51
    rw [if_neg (show ¬ (8 : Int32) < nI (t + 1) from ltN (m := 8) (by omega) (by decide))]
    simp only [HU3.c, HU3.h, r_tune (F3.I HA), lA, lB, lH, ix, lT, nm1, Option.bind_some, nI1 (t + 1), min1, ob_ok, nI1 (min (pv (t + 1)) (edR (tuF x s) (hd' i) i pv t))]
    by_cases q : hd' i = tuF x s t
    · rw [if_pos (congrArg nI q), Int32.add_zero, minN (by omega) (by omega), ob_ok, sI_ok HU3.2.2.2.2 (by omega) (by decide), bd_ok]
      rw [eS, if_pos q] at fin
      exact fin
    · rw [if_neg (by rw [nIe (by omega) (by omega)]; exact q), nI1 (pv t), minN (by omega) (by omega), ob_ok, sI_ok HU3.2.2.2.2 (by omega) (by decide), bd_ok]
      rw [eS, if_neg q] at fin
      exact fin
  · rintro k ⟨b4, b5, h3⟩ ⟨rfl, rfl, F3, HH3, hr3⟩
    dsimp only at F3 HH3 hr3 ⊢
    show Ret (lb_X4_changesTo_51 u a _ _ _ _ _ _ h3) _ _
    unfold lb_X4_changesTo_51
    rw [if_pos (show (8 : Int32) < nI (8 + 1) by decide)]
    refine hK h3 F3 HH3 (fun j hj => ?_)
    rw [hr3 j hj, if_pos (by omega)]
theorem s_chg (HU : TunI h u) (HA : IsI h a) (O : Ok x) (V : VC h a x) (hd : a + 11 ≤ u) (hs : s < sS x) {n : Nat} {hd' : Nat → Nat} (HH : HrI h u n hd') : Ret (f_X4_changesTo u a (nI s) h) (nI (edN hd' (tuF x s) n 8)) (fun h' => Fr u 3 h h' ∧ HrI h' u n hd') := by
  have hS := O.2.1
  unfold f_X4_changesTo
  refine Ret.loop (lp := lp_X4_changesTo_2 u a (nI s) _) (fun i q => Fr u 3 h q ∧ HrI q u n hd' ∧ ∀ j, j < i → hI q (u + 2) j = nI j) 9 (by decide) ⟨Fr.rf _ _ _, HH, fun j hj => absurd hj (by omega)⟩ ?_ ?_
  · rintro k i h1 hi ⟨F, HH1, hr⟩ kk
    have HU1 := F.Tun HU
    show Ret (lb_X4_changesTo_2 u a _ _ _ _ h1) _ _
    unfold lb_X4_changesTo_2
    rw [if_neg (show ¬ (8 : Int32) < nI i from ltN (m := 8) (by omega) (by decide)), HU1.c, bd_ok, sI_ok HU1.2.2.2.2 (by omega) (by decide), bd_ok, nI1 i]
    refine kk _ ⟨F.tr (Fr.w (by omega) (by omega)), hrk HH1, fun j hj => ?_⟩
    rw [hI_w]
    by_cases ee : j = i
    · rw [ee, upd_s]
    · rw [upd_n _ _ ee]
      exact hr j (by omega)
  · rintro k h1 ⟨F, HH1, hr⟩
    show Ret (lb_X4_changesTo_2 u a _ _ _ _ h1) _ _
    unfold lb_X4_changesTo_2
    rw [if_pos (show (8 : Int32) < nI 9 by decide)]
    have hn8 := HH.2.1
    refine Ret.loop (lp := lp_X4_changesTo_23 u a (nI s) _) (fun i q => Fr u 3 h q ∧ HrI q u n hd' ∧ ∀ j, j < 9 → hI q (u + 2) j = nI (edN hd' (tuF x s) i j)) n (by omega) ⟨F, HH1, hr⟩ ?_ ?_
    · rintro k i h2 hi ⟨F2, HH2, hr2⟩ kk
      have HU2 := F2.Tun HU
      have el := edN_le hd' (tuF x s) i
      generalize hpv : edN hd' (tuF x s) i = pv at hr2 el
      have eR := edR_le (tn := tuF x s) (c := hd' i) el
      have e1 : edN hd' (tuF x s) (i + 1) = edR (tuF x s) (hd' i) i pv := by rw [← hpv]; rfl
      rw [e1] at kk
      show Ret (lb_X4_changesTo_23 u a _ _ _ _ h2) _ _
      unfold lb_X4_changesTo_23
      have l0 : lI (u + 2) 0 h2 = some (nI (pv 0)) := by
        have := lI_ok HU2.2.2.2.2 (k := 0) (by decide) (by decide)
        rw [hr2 0 (by decide)] at this
        exact this
      have s0 : sI (u + 2) 0 (nI (i + 1)) h2 = some (wI h2 (u + 2) (upd (hI h2 (u + 2)) 0 (nI (i + 1)))) := sI_ok HU2.2.2.2.2 (k := 0) (by decide) (by decide)
      rw [gI_ok HU2.1, bd_ok, HH2.1, iN hi (by omega), HU2.c, bd_ok, l0, bd_ok, bd_ok, nI1 i, s0, bd_ok]
      have := s_row51 (h := h) HU HA O V hd hs (n := n) (hd' := hd') hi el (F2.tr (Fr.w (b := u + 2) (g := upd (hI h2 (u + 2)) 0 (nI (i + 1))) (by omega) (by omega))) (hrk HH2) (fun j hj => ?_) (K := fun h51_ => lp_X4_changesTo_23 u a (nI s) (fun h23_ => (gR 4 1 u h23_).bind fun x145 => (lI x145 8 h23_).bind fun x150 => some (x150, h23_)) k (nI (i + 1)) h51_) (v := nI (edN hd' (tuF x s) n 8)) (Q := fun h' => Fr u 3 h h' ∧ HrI h' u n hd') (fun h3 F3 HH3 hr3 => kk h3 ⟨F3, HH3, hr3⟩)
      · exact this
      · rw [hI_w]
        by_cases ee : j = 0
        · rw [ee, upd_s]
          rfl
        · rw [upd_n _ _ ee, if_neg (by omega)]
          exact hr2 j hj
    · rintro k h2 ⟨F2, HH2, hr2⟩
      have HU2 := F2.Tun HU
      show Ret (lb_X4_changesTo_23 u a _ _ _ _ h2) _ _
      unfold lb_X4_changesTo_23
      rw [gI_ok HU2.1, bd_ok, HH2.1, iY (by omega)]
      dsimp only
      have l8 : lI (u + 2) 8 h2 = some (nI (edN hd' (tuF x s) n 8)) := by
        have := lI_ok HU2.2.2.2.2 (k := 8) (by decide) (by decide)
        rw [hr2 8 (by decide)] at this
        exact this
      rw [HU2.c, bd_ok, l8, bd_ok]
      exact Ret.mk ⟨F2, HH2⟩
theorem s_near (HU : TunI h u) (HA : IsI h a) (O : Ok x) (V : VC h a x) (hd : a + 11 ≤ u) {n : Nat} {hd' : Nat → Nat} (HH : HrI h u n hd') : Ret (f_X4_nearestSong u a h) (hv (minG (fun _ => true) (fun s => edN hd' (tuF x s) n 8) (sS x)).1) (fun h' => Fr u 3 h h' ∧ HrI h' u n hd') := by
  have hS := O.2.1
  have hn8 := HH.2.1
  have hf : ∀ s, edN hd' (tuF x s) n 8 ≤ 8 := fun s => by have := edN_le hd' (tuF x s) n 8; omega
  refine Ret.loopB (lp := lp_X4_nearestSong_8 u a _) (fun i => (hv (minG (fun _ => true) (fun s => edN hd' (tuF x s) n 8) i).1, if (minG (fun _ => true) (fun s => edN hd' (tuF x s) n 8) i).1 = 0 then 16 else nI (minG (fun _ => true) (fun s => edN hd' (tuF x s) n 8) i).2)) (fun i q => Fr u 3 h q ∧ HrI q u n hd' ∧ ((minG (fun _ => true) (fun s => edN hd' (tuF x s) n 8) i).1 = 0 → (minG (fun _ => true) (fun s => edN hd' (tuF x s) n 8) i).2 = 61)) (sS x) (by omega) rfl ⟨Fr.rf _ _ _, HH, fun _ => rfl⟩ ?_ ?_
  · rintro k i h1 hi ⟨F, HH1, h61⟩ kk
    have V1 : VC h1 a x := V.fr F (by omega)
    have e : minG (fun _ => true) (fun s => edN hd' (tuF x s) n 8) (i + 1) = if edN hd' (tuF x i) n 8 < (minG (fun _ => true) (fun s => edN hd' (tuF x s) n 8) i).2 then (i + 1, edN hd' (tuF x i) n 8) else minG (fun _ => true) (fun s => edN hd' (tuF x s) n 8) i := by
      show (if true = true ∧ edN hd' (tuF x i) n 8 < (minG (fun _ => true) (fun s => edN hd' (tuF x s) n 8) i).2 then (i + 1, edN hd' (tuF x i) n 8) else minG (fun _ => true) (fun s => edN hd' (tuF x s) n 8) i) = _
      simp
    have hg := minG_le (fun _ => true) (fun s => edN hd' (tuF x s) n 8) i
    rw [e] at kk
    generalize minG (fun _ => true) (fun s => edN hd' (tuF x s) n 8) i = g at kk hg h61 ⊢
    show Ret (lb_X4_nearestSong_8 u a _ _ _ _ _ h1) _ _
    unfold lb_X4_nearestSong_8
    rw [gI_ok (F.I HA).1, bd_ok, V1.s, iN hi (by omega)]
    refine Ret.icall (F.Tun HU).1 (s_chg (F.Tun HU) (F.I HA) O V1 hd hi HH1) fun h2 ⟨F2, HH2⟩ => ?_
    have h8 := hf i
    rw [nI1 i]
    by_cases q : edN hd' (tuF x i) n 8 < g.2
    · have := kk h2 ⟨F.tr F2, HH2, fun e => by rw [if_pos q] at e; simp at e⟩
      rw [if_pos q] at this
      dsimp only at this
      rw [if_neg (by omega), hvS] at this
      by_cases q2 : g.1 = 0
      · rw [if_pos q2, if_neg (show ¬ (16 : Int32) ≤ nI (edN hd' (tuF x i) n 8) from leN (m := 16) (by omega) (by decide))]
        exact this
      · rw [if_neg q2, if_neg (leN q (by omega))]
        exact this
    · have q2 : ¬ g.1 = 0 := fun e => by have := h61 e; omega
      have := kk h2 ⟨F.tr F2, HH2, fun e => by rw [if_neg q] at e; exact absurd e q2⟩
      rw [if_neg q] at this
      dsimp only at this
      rw [if_neg q2] at this ⊢
      rw [if_pos (leY (by omega) (by omega))]
      exact this
  · rintro k h1 ⟨F, HH1, -⟩
    have V1 : VC h1 a x := V.fr F (by omega)
    show Ret (lb_X4_nearestSong_8 u a _ _ _ _ _ h1) _ _
    unfold lb_X4_nearestSong_8
    rw [gI_ok (F.I HA).1, bd_ok, V1.s, iY (by omega)]
    exact Ret.mk ⟨F, HH1⟩
theorem s_end {s' : Nat} (HA : IsI h a) (O : Ok x) (V : VC h a x) (hs : s < sS x) (hs' : s' < sS x) {w : Nat} (hw : w < 8) : f_X4_endBegins u a (nI s) (nI s') (nI w) h = some (if enB (tuF x s) (tuF x s') (8 - w) = true then 1 else 0, h) := by
  have hS := O.2.1
  suffices h' : Ret (f_X4_endBegins u a (nI s) (nI s') (nI w) h) (if enB (tuF x s) (tuF x s') (8 - w) = true then 1 else 0) (fun q => q = h) by
    obtain ⟨q, e, rfl⟩ := h'
    exact e
  refine Ret.gen (run := fun k (q : Int32 × HP) => lp_X4_endBegins_4 a (nI s) (nI s') (nI w) _ k q.1 q.2) (fun i q => q = (nI (w + i), h) ∧ ∀ j, j < i → tuF x s (w + j) = tuF x s' j) (8 - w) ?_ ?_ (8 - w) 0 1000 (nI w, h) (by omega) (by omega) ⟨rfl, fun j hj => absurd hj (by omega)⟩
  · rintro k i q hi ⟨rfl, hr⟩ kk
    have t1 := tuF_lt O hs (i := w + i) (by omega)
    have t2 := tuF_lt O hs' (i := i) (by omega)
    have l1 := l_tune HA O V hs (i := w + i) (by omega)
    have l2 := l_tune HA O V hs' (i := i) (by omega)
    have i2 : nI s' * 8 + nI (w + i) - nI w = nI (s' * 8 + i) := by
      rw [idx8, pk_sub (by omega)]
      congr 1
      omega
    show Ret (lb_X4_endBegins_4 a _ _ _ _ _ _ h) _ _
    unfold lb_X4_endBegins_4
    rw [if_neg (show ¬ (8 : Int32) ≤ nI (w + i) from leN (m := 8) (by omega) (by decide)), r_tune HA, bd_ok, idx8 s, l1, bd_ok, bd_ok, i2, l2, bd_ok, nI1 (w + i)]
    by_cases q : tuF x s (w + i) = tuF x s' i
    · rw [if_pos (congrArg nI q)]
      refine kk (nI (w + (i + 1)), h) ⟨rfl, fun j hj => ?_⟩
      by_cases e : j = i
      · rw [e]; exact q
      · exact hr j (by omega)
    · rw [if_neg (by rw [nIe (by omega) (by omega)]; exact q), if_neg]
      · exact Ret.rz0 rfl
      · unfold enB
        intro e
        have := of_decide_eq_true e i hi
        rw [show 8 - (8 - w) + i = w + i by omega] at this
        exact q this
  · rintro k q ⟨rfl, hr⟩
    show Ret (lb_X4_endBegins_4 a _ _ _ _ _ _ h) _ _
    unfold lb_X4_endBegins_4
    rw [show w + (8 - w) = 8 by omega, if_pos (show (8 : Int32) ≤ nI 8 by decide), if_pos]
    · exact Ret.rz1 rfl
    · unfold enB
      refine decide_eq_true (fun j hj => ?_)
      rw [show 8 - (8 - w) + j = w + j by omega]
      exact hr j hj
theorem s_join {s' : Nat} (HU : TunI h u) (HA : IsI h a) (O : Ok x) (V : VC h a x) (hs : s < sS x) (hs' : s' < sS x) : f_X4_joined u a (nI s) (nI s') h = some (nI (fstN (fun w => enB (tuF x s) (tuF x s') (8 - w)) 8 + 8), h) := by
  suffices h' : Ret (f_X4_joined u a (nI s) (nI s') h) (nI (fstN (fun w => enB (tuF x s) (tuF x s') (8 - w)) 8 + 8)) (fun q => q = h) by
    obtain ⟨q, e, rfl⟩ := h'
    exact e
  refine Ret.loop (lp := lp_X4_joined_3 u a (nI s) (nI s') _) (fun i q => q = h ∧ ∀ j, j < i → ¬ enB (tuF x s) (tuF x s') (8 - j) = true) 8 (by decide) ⟨rfl, fun j hj => absurd hj (by omega)⟩ ?_ ?_
  · rintro k i h1 hi ⟨rfl, hno⟩ kk
    show Ret (lb_X4_joined_3 u a _ _ _ _ _ _) _ _
    unfold lb_X4_joined_3
    rw [if_neg (show ¬ (8 : Int32) ≤ nI i from leN (m := 8) (by omega) (by decide)), inv_ok HU.1, s_end HA O V hs hs' hi, ob_ok, nI1 i]
    by_cases q : enB (tuF x s) (tuF x s') (8 - i) = true
    · rw [if_pos q, if_neg (by decide), fstN_is (P := fun w => enB (tuF x s) (tuF x s') (8 - w)) (n := 8) (k := i) (by omega) hno (fun _ => q), show (8 : Int32) = nI 8 from rfl, nI_add]
      exact Ret.mk rfl
    · rw [if_neg q, if_pos rfl]
      refine kk _ ⟨rfl, fun j hj => ?_⟩
      by_cases e : j = i
      · rw [e]; exact q
      · exact hno j (by omega)
  · rintro k h1 ⟨rfl, hno⟩
    show Ret (lb_X4_joined_3 u a _ _ _ _ _ _) _ _
    unfold lb_X4_joined_3
    rw [if_pos (show (8 : Int32) ≤ nI 8 by decide), fstN_is (P := fun w => enB (tuF x s) (tuF x s') (8 - w)) (n := 8) (k := 8) (by omega) hno (fun q => absurd q (by omega))]
    exact Ret.mk rfl
theorem s_like {s' : Nat} (HA : IsI h a) (O : Ok x) (V : VC h a x) (hs : s < sS x) (hs' : s' < sS x) : f_X4_alike u a (nI s) (nI s') h = some (nI (cnE (tuF x s) (tuF x s') 8), h) := by
  refine loop_acc (lp := lp_X4_alike_6 a (nI s) (nI s') _) 8 (by omega) (fun i => nI (cnE (tuF x s) (tuF x s') i)) h (K := fun v h => some (v, h)) (fun k => ?_) (fun k i hi => ?_)
  · show lb_X4_alike_6 a _ _ _ _ _ _ h = _
    unfold lb_X4_alike_6
    exact if_pos (by decide)
  · show lb_X4_alike_6 a _ _ _ _ _ _ h = _
    have t1 := tuF_lt O hs hi
    have t2 := tuF_lt O hs' hi
    unfold lb_X4_alike_6
    rw [if_neg (show ¬ (8 : Int32) ≤ nI i from leN (m := 8) (by omega) (by decide)), r_tune HA, bd_ok, idx8, l_tune HA O V hs hi, bd_ok, bd_ok, idx8, l_tune HA O V hs' hi, bd_ok, nI1 i, nI1]
    show _ = lp_X4_alike_6 a _ _ _ _ (nI (if tuF x s i = tuF x s' i then cnE (tuF x s) (tuF x s') i + 1 else cnE (tuF x s) (tuF x s') i)) _ h
    by_cases q : tuF x s i = tuF x s' i
    · rw [if_pos (congrArg nI q), if_pos q]
    · rw [if_neg (by rw [nIe (by omega) (by omega)]; exact q), if_neg q]
theorem s_digits (HA : IsI h a) (O : Ok x) (V : VC h a x) (hs : s < sS x) : f_X4_asDigits u a (nI s) h = some (nI (dgN (tuF x s) 8), h) := by
  refine loop_acc (lp := lp_X4_asDigits_5 a (nI s) _) 8 (by omega) (fun i => nI (dgN (tuF x s) i)) h (K := fun v h => some (v, h)) (fun k => ?_) (fun k i hi => ?_)
  · show lb_X4_asDigits_5 a _ _ _ _ _ h = _
    unfold lb_X4_asDigits_5
    exact if_pos (by decide)
  · show lb_X4_asDigits_5 a _ _ _ _ _ h = _
    unfold lb_X4_asDigits_5
    rw [if_neg (show ¬ (8 : Int32) ≤ nI i from leN (m := 8) (by omega) (by decide)), r_tune HA, bd_ok, idx8, l_tune HA O V hs hi, bd_ok, nI1 i, show (10 : Int32) = nI 10 from rfl, pk_mul, nI_add]
    rfl
end TUNES
