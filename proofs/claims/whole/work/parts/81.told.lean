/-! BOTH SIDES: what is told; judge -/
def rfI (q : Sh) : Nat := if q.1 = 2 then 1 else if q.1 = 0 then 2 else 0
theorem rfI_ok {q : Sh} {n : Nat} (g : ¬ rfTo q n = 0) : rfI q < 5 ∧ (-2) - rfTo q n = nI (rfI q) ∧ -(rfTo q n) = nI (2 + rfI q) := by
  unfold rfTo at g
  unfold rfI rfTo
  by_cases q2 : q.1 = 2
  · rw [if_pos q2, if_pos q2]; decide
  · rw [if_neg q2, if_neg q2]
    rw [if_neg q2] at g
    by_cases q0 : q.1 = 0
    · rw [if_pos q0, if_pos q0]; decide
    · rw [if_neg q0, if_neg q0]
      rw [if_neg q0] at g
      by_cases gz : q.2.2.1 < n
      · rw [if_pos gz]; decide
      · rw [if_neg gz] at g
        exact absurd rfl g
section TOLD
variable {h : HP} {w : Wd}
theorem r_toldB (R : RR h 71 w) {a1 a2 b may : Int32} {mx : Nat} (hb : b.toInt64.toInt = ((mx + 1 : Nat) : Int) - 1) (g : ¬ inR a1 8 ∨ ¬ inR a2 (mx + 1) ∨ may = 0) : f_X6_noTold 71 a1 a2 b may h = ob (inv 6 71 h (f_X6_refuse 71 (-2) h)) fun x h => some (x, h) := by
  unfold f_X6_noTold
  by_cases g1 : inR a1 8
  · rw [rY 7 g1]
    by_cases g2 : inR a2 (mx + 1)
    · rw [rY _ g2 (hb := hb), if_pos]
      rcases g with g | g | g
      · exact absurd g1 g
      · exact absurd g2 g
      · exact g
    · rw [rN _ g2 (hb := hb)]
  · rw [rN 7 g1]
theorem r_told (R : RR h 71 w) (O : OkW w) {s n mx : Nat} (hs : s < 8) (hn : n < mx + 1) (hm : mx ≤ 40) {b may : Int32} (hb : b.toInt64.toInt = ((mx + 1 : Nat) : Int) - 1) (hy : ¬ may = 0) : (rfTo (wS w s) n = 0 → f_X6_noTold 71 (nI s) (nI n) b may h = some (0, h)) ∧ (¬ rfTo (wS w s) n = 0 → Ret (f_X6_noTold 71 (nI s) (nI n) b may h) (rfTo (wS w s) n) (fun h1 => RR h1 71 (rfW w (rfI (wS w s))) ∧ Sm 71 h h1)) := by
  have so := O.2.2.1 s hs
  have hb2 := so.1
  obtain ⟨n1, n2, n0⟩ := r_noRow R O hs
  have e := show f_X6_noTold 71 (nI s) (nI n) b may h = _ by
    unfold f_X6_noTold
    rw [rY 7 ((inR_n (by omega)).mpr hs), rY _ ((inR_n (by omega)).mpr hn) (hb := hb), if_neg hy]
  by_cases q2 : (wS w s).1 = 2
  · have e1 : rfTo (wS w s) n = -3 := by unfold rfTo; rw [if_pos q2]
    have e2 : rfI (wS w s) = 1 := by unfold rfI; rw [if_pos q2]
    rw [e1, e2]
    refine ⟨fun g => absurd g (by decide), fun _ => ?_⟩
    rw [e, n2 q2]
    refine Ret.icall R.md.1 (r_no R (i := 1) (by decide) (by decide)) fun h2 q => ?_
    rw [if_neg (by decide)]
    exact Ret.mk q
  · by_cases q0 : (wS w s).1 = 0
    · have e1 : rfTo (wS w s) n = -4 := by unfold rfTo; rw [if_neg q2, if_pos q0]
      have e2 : rfI (wS w s) = 2 := by unfold rfI; rw [if_neg q2, if_pos q0]
      rw [e1, e2]
      refine ⟨fun g => absurd g (by decide), fun _ => ?_⟩
      rw [e, n0 q0]
      refine Ret.icall R.md.1 (r_no R (i := 2) (by decide) (by decide)) fun h2 q => ?_
      rw [if_neg (by decide)]
      exact Ret.mk q
    · have q1 : (wS w s).1 = 1 := by omega
      have hz := (so.2.1 q1).2
      have e2 : rfI (wS w s) = 0 := by unfold rfI; rw [if_neg q2, if_neg q0]
      have e1 : rfTo (wS w s) n = if (wS w s).2.2.1 < n then -2 else 0 := by unfold rfTo; rw [if_neg q2, if_neg q0]
      have er := show f_X6_noTold 71 (nI s) (nI n) b may h = _ by
        rw [e, n1 q1, inv_ok R.md.1, ob_ok, if_pos rfl, R.md.r 2 3 8 (by decide) (b := 74) rfl, bd_ok, R.l (f := 2) (o := 3) (by decide) hs rfl, bd_ok, ((R.sh hs).2.1 q1).2.1]
      rw [e1, e2]
      by_cases gz : (wS w s).2.2.1 < n
      · rw [if_pos gz]
        refine ⟨fun g => absurd g (by decide), fun _ => ?_⟩
        rw [er, if_neg (leN gz (by omega))]
        exact r_no R (by decide) (by decide)
      · rw [if_neg gz]
        refine ⟨fun _ => ?_, fun g => absurd rfl g⟩
        rw [er, if_pos (leY (by omega) (by omega))]
/-- what is told is refused by both -/
theorem told_bad {f g : HP → Option (Int32 × HP)} (W : WI h w) {a1 a2 b may : Int32} {mx : Nat} (hb : b.toInt64.toInt = ((mx + 1 : Nat) : Int) - 1) (q : ¬ inR a1 8 ∨ ¬ inR a2 (mx + 1) ∨ may = 0) (ha : f h = ob (inv 5 0 h (f_X5_refuse 0 (-2) h)) fun x h => some (x, h)) {G : Int32 → HP → Option (Int32 × HP)} (hG : ∀ h, G (-2) h = some (-2, h)) (hg : ∀ h1, RR h1 71 w → g h1 = ob (inv 6 71 h1 (f_X6_noTold 71 a1 a2 b may h1)) G) : Alk f g h := by
  refine both W (-2) (rfW w 0) (OkW_rf W.1 0) ?_ (fun h1 R => ?_)
  · rw [ha]
    exact c_no W.2.1 W.2.2.1 (by decide) (by decide)
  · rw [hg h1 R]
    refine Ret.icall R.md.1 (v := -2) (Q := fun h2 => RR h2 71 (rfW w 0) ∧ Sm 71 h1 h2) ?_ fun h2 q => ?_
    · rw [r_toldB R hb q]
      exact r_no R (by decide) (by decide)
    · rw [hG]
      exact Ret.mk q
theorem told_no {f g : HP → Option (Int32 × HP)} (W : WI h w) {b may : Int32} {s n mx : Nat} (hs : s < 8) (hn : n < mx + 1) (hm : mx ≤ 40) (hb : b.toInt64.toInt = ((mx + 1 : Nat) : Int) - 1) (hy : ¬ may = 0) (q : ¬ rfTo (wS w s) n = 0) (ha : f h = ob (inv 5 0 h (f_X5_refuse 0 (rfTo (wS w s) n) h)) fun x h => some (x, h)) {G : Int32 → HP → Option (Int32 × HP)} (hG : ∀ v h, ¬ v = 0 → G v h = some (v, h)) (hg : ∀ h1, RR h1 71 w → g h1 = ob (inv 6 71 h1 (f_X6_noTold 71 (nI s) (nI n) b may h1)) G) : Alk f g h := by
  obtain ⟨i1, i2, i3⟩ := rfI_ok q
  refine both W (rfTo (wS w s) n) (rfW w (rfI (wS w s))) (OkW_rf W.1 _) ?_ (fun h1 R => ?_)
  · rw [ha]
    exact c_no W.2.1 W.2.2.1 i1 i2
  · rw [hg h1 R]
    refine Ret.icall R.md.1 ((r_told R W.1 hs hn hm hb hy).2 q) fun h2 q2 => ?_
    rw [hG _ _ q]
    exact Ret.mk q2
theorem rfTo_row {q : Sh} {P n : Nat} (O : ShOk P q) (g : rfTo q n = 0) : q.1 = 1 ∧ n ≤ q.2.2.1 := by
  have := O.1
  unfold rfTo at g
  by_cases q2 : q.1 = 2
  · rw [if_pos q2] at g
    exact absurd g (by decide)
  · rw [if_neg q2] at g
    by_cases q0 : q.1 = 0
    · rw [if_pos q0] at g
      exact absurd g (by decide)
    · rw [if_neg q0] at g
      by_cases gz : q.2.2.1 < n
      · rw [if_pos gz] at g
        exact absurd g (by decide)
      · exact ⟨by omega, by omega⟩
theorem ShI.T {b : Nat} (H : ShI h b) : ToldI h b (b + 1) (hJ h (b + 1)) := ⟨H.1, H.2.1, H.2.2, rfl⟩
theorem wrP_congr {x : St} {e e2 : Nat → Int64} {i : Nat} (g : e i = e2 i) : wrP x e i = wrP x e2 i := by unfold wrP; rw [g]
theorem tlP_congr {x : St} {p : Nat} {e e2 : Nat → Int64} {i : Nat} (g : e i = e2 i) : tlP x p e i = tlP x p e2 i := by unfold tlP; rw [g]
theorem al_judge (W : WI h w) (a1 a2 : Int32) : Alk (f_X5_judge 0 a1 a2) (f_X6_judge 71 a1 a2) h := by
  obtain ⟨O, C, V, -⟩ := id W
  have hP := O.1.1
  have hb : (40 : Int32).toInt64.toInt = ((40 + 1 : Nat) : Int) - 1 := rfl
  by_cases g1 : inR a1 8
  · by_cases g2 : inR a2 41
    · obtain ⟨s, hs, rfl⟩ := inR_is g1
      obtain ⟨n, hn, rfl⟩ := inR_is g2
      have so := O.2.2.1 s hs
      have sv := V.2.2.2.2.2.1 s hs
      have ha := show f_X5_judge 0 (nI s) (nI n) h = _ by
        unfold f_X5_judge
        rw [cY 8 g1 (by decide), cY 41 g2 (by decide), C.g6, bd_ok, C.ls hs, bd_ok, inv_ok (C.sh hs).1, s_asTold (C.sh hs) so hP sv (by omega), ob_ok]
      by_cases gt : rfTo (wS w s) n = 0
      · obtain ⟨q1, qz⟩ := rfTo_row so gt
        have hz := (so.2.1 q1).2
        have rows := (sv.2 q1).2
        refine both W (fstI (wrP (wX w) (wS w s).2.2.2) n) w O ?_ (fun h1 R => ?_)
        · rw [ha, if_pos gt, C.g3, bd_ok, C.g0, bd_ok]
          have r := s_wrong C.O C.I O.1 V.1 (by decide) (C.sh hs).T (show n ≤ 40 by omega)
          rw [fstI_congr (fun i hi => wrP_congr (rows i (by omega)))] at r
          exact Ret.icall C.O.1 (Ret.scr V (by decide) (by decide) r) fun h2 q => Ret.mk q
        · unfold f_X6_judge
          rw [inv_ok R.md.1, (r_told R O hs hn (by decide) hb (by decide)).1 gt, ob_ok, if_pos rfl]
          obtain ⟨k, rt⟩ := r_thought O R
          refine Ret.icall R.md.1 rt fun h2 ⟨T, V2, S⟩ => ?_
          refine Ret.loop (lp := lp_X6_judge_25 71 (nI s) (nI n) k _) (fun i q => RT q 71 k w ∧ VR q k (yN (wX w) i) ∧ Sm 71 h1 q ∧ ∀ j, j < i → ¬ wrP (wX w) (wS w s).2.2.2 j = true) n (by omega) ⟨T, V2, S.1, fun j hj => absurd hj (by omega)⟩ ?_ ?_
          · rintro t i q hi ⟨T, V3, S, hno⟩ kk
            show Ret (lb_X6_judge_25 71 _ _ _ _ _ _ q) _ _
            unfold lb_X6_judge_25
            rw [iN hi (by omega), nI1]
            refine Ret.icall T.k.2.1 (r_passes T.k.2 (Ok_yN O.1 i) V3) fun h3 ⟨F3, V4⟩ => ?_
            have V4 : VR h3 k (yN (wX w) (i + 1)) := V4
            obtain ⟨T4, S4⟩ := T.fr F3.1
            have M4 := T4.R.md
            rw [inv_ok T4.k.2.1, r_known T4.k.2 (Ok_yN O.1 (i + 1)) V4, ob_ok, M4.g3 (b := 75) rfl, bd_ok, M4.lr hs rfl (d := 76 + s) rfl, bd_ok, lJ_ok (M4.la hs (b := 76 + s) rfl) (by omega) (by decide), bd_ok, ((T4.R.sh hs).2.1 q1).2.2 i (by omega)]
            by_cases g : lg_cmp (nI (knoN (yN (wX w) (i + 1)))).toInt64 ((wS w s).2.2.2 i) = 0
            · rw [if_pos g]
              refine kk h3 ⟨T4, V4, S.tr S4.1, fun j hj => ?_⟩
              by_cases e : j = i
              · rw [e]
                unfold wrP
                simp [g]
              · exact hno j (by omega)
            · rw [if_neg g, fstI_hit hi hno (by unfold wrP; simp [g])]
              exact Ret.mk ⟨T4.R, S.tr S4.1⟩
          · rintro t q ⟨T, V3, S, hno⟩
            show Ret (lb_X6_judge_25 71 _ _ _ _ _ _ q) _ _
            unfold lb_X6_judge_25
            rw [iY (by omega), fstI_miss hno]
            exact Ret.mk ⟨T.R, S⟩
      · refine told_no W hs hn (by decide) hb (may := 1) (by decide) gt ?_ ?_ (fun h1 R => by unfold f_X6_judge; rfl)
        · rw [ha, if_neg gt]
        · intro v h v0
          exact if_neg v0
    · refine told_bad W hb (a1 := a1) (a2 := a2) (may := 1) (Or.inr (Or.inl g2)) ?_ ?_ (fun h1 R => by unfold f_X6_judge; rfl)
      · unfold f_X5_judge
        rw [cY 8 g1 (by decide), cN 41 g2 (by decide)]
      · intro h
        exact if_neg (by decide)
  · refine told_bad W hb (a1 := a1) (a2 := a2) (may := 1) (Or.inl g1) ?_ ?_ (fun h1 R => by unfold f_X6_judge; rfl)
    · unfold f_X5_judge
      rw [cN 8 g1 (by decide)]
    · intro h
      exact if_neg (by decide)
end TOLD
