/-! BOTH SIDES: changes, join, like -/
theorem r_least {h : HP} {a b c : Nat} (ha : a ≤ 1000) (hb : b ≤ 1000) (hc : c ≤ 1000) : f_X6_least (nI a) (nI b) (nI c) h = some (nI (min c (min a b)), h) := by
  unfold f_X6_least
  by_cases q1 : b ≤ a
  · rw [if_pos (leY q1 (by omega))]
    by_cases q2 : c ≤ b
    · rw [if_pos (leY q2 (by omega)), show min c (min a b) = c by omega]
    · rw [if_neg (leN (by omega) (by omega)), show min c (min a b) = b by omega]
  · rw [if_neg (leN (by omega) (by omega))]
    by_cases q2 : c ≤ a
    · rw [if_pos (leY q2 (by omega)), show min c (min a b) = c by omega]
    · rw [if_neg (leN (by omega) (by omega)), show min c (min a b) = a by omega]
section CHG
variable {h : HP} {x : St} {s : Nat}
theorem MdI.g38 (H : MdI h 71) : gR 6 38 71 h = some 101 := H.r 38 30 8 (by decide) rfl
theorem MdI.g39 (H : MdI h 71) : gR 6 39 71 h = some 102 := H.r 39 31 9 (by decide) rfl
theorem MdI.g40 (H : MdI h 71) : gR 6 40 71 h = some 103 := H.r 40 32 9 (by decide) rfl
theorem MdI.g22 (H : MdI h 71) : gR 6 22 71 h = some 96 := H.rk 8 (by decide) rfl rfl
theorem MdI.a38 (H : MdI h 71) : IA h 101 8 := H.a 38 30 8 (by decide) rfl
theorem MdI.a39 (H : MdI h 71) : IA h 102 9 := H.a 39 31 9 (by decide) rfl
theorem MdI.a40 (H : MdI h 71) : IA h 103 9 := H.a 40 32 9 (by decide) rfl
theorem r_tun (H : MdI h 71) (O : Ok x) (V : VR h 71 x) (hs : s < sS x) {i : Nat} (hi : i < 8) : lI 96 (nI (s * 8 + i)) h = some (nI (tuF x s i)) := by
  have hS := O.2.1
  exact R_ld H V 8 (by decide) (show s * 8 + i < 48 by omega) rfl
theorem r_row38 (H : MdI h 71) (O : Ok x) (V : VR h 71 x) (hs : s < sS x) {c i : Nat} {a2 : Int32} {pv : Nat → Nat} (hi : i < 8) (hc : hI h 101 i = nI c) (hc5 : c < 5) (el : ∀ j, pv j ≤ max i j) {h0 : HP} (F0 : Fr 102 2 h h0) (h2 : ∀ j, j < 9 → hI h0 102 j = nI (pv j)) (h3 : hI h0 103 0 = nI (i + 1)) {K : HP → Option (Int32 × HP)} {v : Int32} {Q : HP → Prop} (hK : ∀ h', Fr 102 2 h h' → (∀ j, j < 9 → hI h' 103 j = nI (edR (tuF x s) c i pv j)) → Ret (K h') v Q) : Ret (lp_X6_changesTo_38 71 (nI s) a2 (nI (i + 1)) K 1000 1 h0) v Q := by
  have hS := O.2.1
  have eR := edR_le (tn := tuF x s) (c := c) el
  refine Ret.gen (run := fun k (q : Int32 × HP) => lp_X6_changesTo_38 71 (nI s) a2 (nI (i + 1)) K k q.1 q.2) (fun t q => q.1 = nI (t + 1) ∧ Fr 102 2 h q.2 ∧ (∀ j, j < 9 → hI q.2 102 j = nI (pv j)) ∧ ∀ j, j ≤ t → hI q.2 103 j = nI (edR (tuF x s) c i pv j)) 8 ?_ ?_ 8 0 1000 (1, h0) (by omega) (by omega) ⟨rfl, F0, h2, fun j hj => by obtain rfl : j = 0 := (by omega); exact h3⟩
  · rintro k t ⟨b4, g⟩ ht ⟨rfl, F3, e2, e3⟩ kk
    dsimp only at F3 e2 e3 kk ⊢
    have M := F3.Md H
    have V3 : VR g 71 x := V.fr F3 (by omega)
    have hR1 := eR t
    have hp0 := el t
    have hp1 := el (t + 1)
    have tul := tuF_lt O hs ht
    have lA : lI 102 (nI (t + 1)) g = some (nI (pv (t + 1))) := by rw [lI_ok M.a39 (by omega) (by decide), e2 _ (by omega)]
    have lB : lI 102 (nI t) g = some (nI (pv t)) := by rw [lI_ok M.a39 (by omega) (by decide), e2 _ (by omega)]
    have lC : lI 103 (nI t) g = some (nI (edR (tuF x s) c i pv t)) := by rw [lI_ok M.a40 (by omega) (by decide), e3 _ (by omega)]
    have lH : lI 101 (nI i) g = some (nI c) := by rw [lI_ok M.a38 (by omega) (by decide), F3.2.2.2.2.2 101 (by omega), hc]
    have ix : nI s * 8 + nI (t + 1) - 1 = nI (s * 8 + t) := by rw [idx8]; exact nm1 (s * 8 + t)
    have lT := r_tun M O V3 hs ht
    have eS : edR (tuF x s) c i pv (t + 1) = min (pv t + (if c = tuF x s t then 0 else 1)) (min (pv (t + 1)) (edR (tuF x s) c i pv t) + 1) := rfl
    have fin : Ret (lp_X6_changesTo_38 71 (nI s) a2 (nI (i + 1)) K k (nI (t + 1 + 1)) (wI g 103 (upd (hI g 103) (t + 1) (nI (edR (tuF x s) c i pv (t + 1)))))) v Q := by
      refine kk (nI (t + 1 + 1), _) ⟨rfl, F3.tr (Fr.w (by omega) (by omega)), fun j hj => ?_, fun j hj => ?_⟩
      · show hI (wI g 103 _) 102 j = _
        rw [hI_wn _ _ (by decide)]
        exact e2 j hj
      · show hI (wI g 103 _) 103 j = _
        rw [hI_w]
        by_cases ee : j = t + 1
        · rw [ee, upd_s]
        · rw [upd_n _ _ ee]
          exact e3 j (by omega)
    show Ret (lb_X6_changesTo_38 71 _ _ _ _ _ _ g) _ _
    unfold lb_X6_changesTo_38
    rw [if_neg (show ¬ (8 : Int32) < nI (t + 1) from ltN (m := 8) (by omega) (by decide))]
    simp only [M.g38, M.g22, M.g39, M.g40, lA, lB, lC, lH, ix, lT, nm1, Option.bind_some, nI1, Int32.add_zero]
    by_cases q : c = tuF x s t
    · rw [if_pos (congrArg nI q), r_least (by omega) (by omega) (by omega), ob_ok, sI_ok M.a40 (by omega) (by decide), bd_ok]
      rw [eS, if_pos q, show min (pv t + 0) (min (pv (t + 1)) (edR (tuF x s) c i pv t) + 1) = min (pv t) (min (pv (t + 1) + 1) (edR (tuF x s) c i pv t + 1)) by omega] at fin
      exact fin
    · rw [if_neg (by rw [nIe (by omega) (by omega)]; exact q), r_least (by omega) (by omega) (by omega), ob_ok, sI_ok M.a40 (by omega) (by decide), bd_ok]
      rw [eS, if_neg q, show min (pv t + 1) (min (pv (t + 1)) (edR (tuF x s) c i pv t) + 1) = min (pv t + 1) (min (pv (t + 1) + 1) (edR (tuF x s) c i pv t + 1)) by omega] at fin
      exact fin
  · rintro k ⟨b4, g⟩ ⟨rfl, F3, e2, e3⟩
    dsimp only at F3 e2 e3 ⊢
    show Ret (lb_X6_changesTo_38 71 _ _ _ _ _ _ g) _ _
    unfold lb_X6_changesTo_38
    rw [if_pos (show (8 : Int32) < nI (8 + 1) by decide)]
    exact hK g F3 (fun j hj => e3 j (by omega))
/-- what is heard, in the reference -/
def HnI (h : HP) (n : Nat) (hd : Nat → Nat) : Prop := n ≤ 8 ∧ ∀ i, i < n → hI h 101 i = nI (hd i) ∧ hd i < 5
theorem r_chg (H : MdI h 71) (O : Ok x) (V : VR h 71 x) (hs : s < sS x) {n : Nat} {hd : Nat → Nat} (HN : HnI h n hd) : Ret (f_X6_changesTo 71 (nI s) (nI n) h) (nI (edN hd (tuF x s) n 8)) (fun h' => Fr 102 2 h h') := by
  have hS := O.2.1
  obtain ⟨hn8, hh⟩ := HN
  unfold f_X6_changesTo
  refine Ret.loop (lp := lp_X6_changesTo_2 71 (nI s) (nI n) _) (fun i q => Fr 102 2 h q ∧ ∀ j, j < i → hI q 102 j = nI j) 9 (by decide) ⟨Fr.rf _ _ _, fun j hj => absurd hj (by omega)⟩ ?_ ?_
  · rintro k i g hi ⟨F, hr⟩ kk
    have M := F.Md H
    show Ret (lb_X6_changesTo_2 71 _ _ _ _ _ g) _ _
    unfold lb_X6_changesTo_2
    rw [if_neg (show ¬ (8 : Int32) < nI i from ltN (m := 8) (by omega) (by decide)), M.g39, bd_ok, sI_ok M.a39 (by omega) (by decide), bd_ok, nI1 i]
    refine kk _ ⟨F.tr (Fr.w (by omega) (by omega)), fun j hj => ?_⟩
    rw [hI_w]
    by_cases ee : j = i
    · rw [ee, upd_s]
    · rw [upd_n _ _ ee]
      exact hr j (by omega)
  · rintro k g ⟨F, hr⟩
    show Ret (lb_X6_changesTo_2 71 _ _ _ _ _ g) _ _
    unfold lb_X6_changesTo_2
    rw [if_pos (show (8 : Int32) < nI 9 by decide)]
    refine Ret.gen (run := fun k (q : Int32 × HP) => lp_X6_changesTo_23 71 (nI s) (nI n) _ k q.1 q.2) (fun i q => q.1 = nI (i + 1) ∧ Fr 102 2 h q.2 ∧ ∀ j, j < 9 → hI q.2 102 j = nI (edN hd (tuF x s) i j)) n ?_ ?_ n 0 1000 (1, g) (by omega) (by omega) ⟨rfl, F, hr⟩
    · rintro k i ⟨b3, g2⟩ hi ⟨rfl, F2, hr2⟩ kk
      dsimp only at F2 hr2 kk ⊢
      have M2 := F2.Md H
      have el := edN_le hd (tuF x s) i
      generalize hpv : edN hd (tuF x s) i = pv at hr2 el
      have e1 : edN hd (tuF x s) (i + 1) = edR (tuF x s) (hd i) i pv := by rw [← hpv]; rfl
      rw [e1] at kk
      show Ret (lb_X6_changesTo_23 71 _ _ _ _ _ g2) _ _
      unfold lb_X6_changesTo_23
      have s0 : sI 103 0 (nI (i + 1)) g2 = some (wI g2 103 (upd (hI g2 103) 0 (nI (i + 1)))) := sI_ok M2.a40 (k := 0) (by decide) (by decide)
      rw [if_neg (ltN (show i + 1 ≤ n by omega) (by omega)), M2.g40, bd_ok, s0, bd_ok]
      refine r_row38 (h := h) H O V hs (pv := pv) (c := hd i) (show i < 8 by omega) (hh i hi).1 (hh i hi).2 el (F2.tr (Fr.w (by omega) (by omega))) (fun j hj => by rw [hI_wn _ _ (by decide)]; exact hr2 j hj) (by rw [hI_w, upd_s]) fun g3 F3 hr3 => ?_
      refine Ret.loop (lp := lp_X6_changesTo_128 71 (nI s) (nI n) (nI (i + 1)) _) (fun t q => Fr 102 2 h q ∧ (∀ j, j < 9 → hI q 103 j = nI (edR (tuF x s) (hd i) i pv j)) ∧ ∀ j, j < t → hI q 102 j = nI (edR (tuF x s) (hd i) i pv j)) 9 (by decide) ⟨F3, hr3, fun j hj => absurd hj (by omega)⟩ ?_ ?_
      · rintro z t g4 ht ⟨F4, e3, e2⟩ k4
        have M4 := F4.Md H
        show Ret (lb_X6_changesTo_128 71 _ _ _ _ _ _ g4) _ _
        unfold lb_X6_changesTo_128
        rw [if_neg (show ¬ (8 : Int32) < nI t from ltN (m := 8) (by omega) (by decide)), M4.g39, bd_ok, M4.g40, bd_ok, lI_ok M4.a40 ht (by decide), bd_ok, e3 t ht, sI_ok M4.a39 ht (by decide), bd_ok, nI1 t]
        refine k4 _ ⟨F4.tr (Fr.w (by omega) (by omega)), fun j hj => by rw [hI_wn _ _ (by decide)]; exact e3 j hj, fun j hj => ?_⟩
        rw [hI_w]
        by_cases ee : j = t
        · rw [ee, upd_s]
        · rw [upd_n _ _ ee]
          exact e2 j (by omega)
      · rintro z g4 ⟨F4, e3, e2⟩
        show Ret (lb_X6_changesTo_128 71 _ _ _ _ _ _ g4) _ _
        unfold lb_X6_changesTo_128
        rw [if_pos (show (8 : Int32) < nI 9 by decide), nI1]
        exact kk (nI (i + 1 + 1), g4) ⟨rfl, F4, e2⟩
    · rintro k ⟨b3, g2⟩ ⟨rfl, F2, hr2⟩
      dsimp only at F2 hr2 ⊢
      have M2 := F2.Md H
      show Ret (lb_X6_changesTo_23 71 _ _ _ _ _ g2) _ _
      unfold lb_X6_changesTo_23
      have l8 : lI 102 8 g2 = some (nI (edN hd (tuF x s) n 8)) := by
        have := lI_ok M2.a39 (k := 8) (by decide) (by decide)
        rw [hr2 8 (by decide)] at this
        exact this
      rw [if_pos (ltY (show n < n + 1 by omega) (by omega))]
      dsimp only
      rw [M2.g39, bd_ok, l8, bd_ok]
      exact Ret.mk F2
theorem r_hear (H : MdI h 71) (O : Ok x) (V : VR h 71 x) (hs : s < sS x) : Ret (f_X6_takeNotes 71 (nI s) h) () (fun h' => Fr 101 1 h h' ∧ HnI h' 8 (tuF x s)) := by
  unfold f_X6_takeNotes
  refine Ret.loop (lp := lp_X6_takeNotes_2 71 (nI s) _) (fun i q => Fr 101 1 h q ∧ ∀ j, j < i → hI q 101 j = nI (tuF x s j)) 8 (by decide) ⟨Fr.rf _ _ _, fun j hj => absurd hj (by omega)⟩ ?_ ?_
  · rintro k i g hi ⟨F, hr⟩ kk
    have M := F.Md H
    have V1 : VR g 71 x := V.fr F (by omega)
    show Ret (lb_X6_takeNotes_2 71 _ _ _ _ g) _ _
    unfold lb_X6_takeNotes_2
    rw [if_neg (show ¬ (8 : Int32) ≤ nI i from leN (m := 8) hi (by decide)), M.g38, bd_ok, M.g22, bd_ok, idx8, r_tun M O V1 hs hi, bd_ok, sI_ok M.a38 hi (by decide), bd_ok, nI1]
    refine kk _ ⟨F.tr (Fr.w (by omega) (by omega)), fun j hj => ?_⟩
    rw [hI_w]
    by_cases ee : j = i
    · rw [ee, upd_s]
    · rw [upd_n _ _ ee]
      exact hr j (by omega)
  · rintro k g ⟨F, hr⟩
    show Ret (lb_X6_takeNotes_2 71 _ _ _ _ g) _ _
    unfold lb_X6_takeNotes_2
    rw [if_pos (show (8 : Int32) ≤ nI 8 by decide)]
    exact Ret.mk ⟨F, Nat.le_refl _, fun i hi => ⟨hr i hi, tuF_lt O hs hi⟩⟩
end CHG
