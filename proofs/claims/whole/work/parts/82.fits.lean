/-! BOTH SIDES: fits -/
theorem EqA_uA (x : St) (k i : Nat) : EqA (uA x k i (sA x k i)) x := by
  have e : ∀ k' i', sA (uA x k i (sA x k i)) k' i' = sA x k' i' := fun k' i' => by
    rw [sA_uA]
    split
    · rename_i q
      rw [q.1, q.2]
    · rfl
  exact ⟨rfl, rfl, rfl, rfl, rfl, rfl, fun k' _ i' _ => e k' i', fun p _ s _ => e 9 _⟩
def toldB (y : Nat → St) (p : Nat) (e : Nat → Int64) (n v : Nat) : Bool := decide (¬ fstN (tlP (y v) p e) n < n)
theorem toldB_congr {y : Nat → St} {p n : Nat} {e e2 : Nat → Int64} (g : ∀ i, i < n → e i = e2 i) (m : Nat) : bsN (toldB y p e n) m = bsN (toldB y p e2 n) m := by
  refine bsN_congr m fun v _ => ?_
  unfold toldB
  rw [fstN_congr (fun i hi => tlP_congr (g i hi))]
section FITS
variable {h : HP} {w : Wd}
theorem r_isSo {k s n p : Nat} {y : St} {q0 : HP} (T0 : RT q0 71 k w) (O : Ok y) (V0 : VR q0 k y) (hs : s < 8) (q1 : (wS w s).1 = 1) (hn : n ≤ 40) (hp : p < sP y) : Ret (f_X6_isSo k (76 + s) (nI n) (nI p) q0) (if fstN (tlP y p (wS w s).2.2.2) n < n then 0 else 1) (fun q' => RT q' 71 k w ∧ Sm 71 q0 q') := by
  refine Ret.loop (lp := lp_X6_isSo_3 k (76 + s) (nI n) (nI p) _) (fun i q => RT q 71 k w ∧ VR q k (yN y i) ∧ Sm 71 q0 q ∧ ∀ j, j < i → ¬ tlP y p (wS w s).2.2.2 j = true) n (by omega) ⟨T0, V0, Sm.rf _ _, fun j hj => absurd hj (by omega)⟩ ?_ ?_
  · rintro t i q hi ⟨T, V3, S, hno⟩ kk
    show Ret (lb_X6_isSo_3 k _ _ _ _ _ _ q) _ _
    unfold lb_X6_isSo_3
    rw [iN hi (by omega), nI1]
    refine Ret.icall T.k.2.1 (r_passes T.k.2 (Ok_yN O i) V3) fun h3 ⟨F3, V4⟩ => ?_
    have V4 : VR h3 k (yN y (i + 1)) := V4
    obtain ⟨T4, S4⟩ := T.fr F3.1
    have M4 := T4.R.md
    rw [inv_ok T4.k.2.1, r_songsOf T4.k.2 (Ok_yN O (i + 1)) V4 (by rw [sP_yN]; exact hp), ob_ok, lJ_ok (M4.la hs (b := 76 + s) rfl) (by omega) (by decide), bd_ok, ((T4.R.sh hs).2.1 q1).2.2 i (by omega)]
    by_cases g : lg_cmp (nI (repN (yN y (i + 1)) p)).toInt64 ((wS w s).2.2.2 i) = 0
    · rw [if_pos g]
      refine kk h3 ⟨T4, V4, S.tr S4.1, fun j hj => ?_⟩
      by_cases e : j = i
      · rw [e]
        unfold tlP
        simp [g]
      · exact hno j (by omega)
    · rw [if_neg g, fstN_is (P := tlP y p (wS w s).2.2.2) (n := n) (k := i) (by omega) hno (fun _ => by unfold tlP; simp [g]), if_pos hi]
      exact Ret.rz0 ⟨T4, S.tr S4.1⟩
  · rintro t q ⟨T, V3, S, hno⟩
    show Ret (lb_X6_isSo_3 k _ _ _ _ _ _ q) _ _
    unfold lb_X6_isSo_3
    rw [iY (by omega), fstN_is (P := tlP y p (wS w s).2.2.2) (n := n) (k := n) (by omega) hno (fun q => absurd q (by omega)), if_neg (by omega)]
    exact Ret.rz1 ⟨T, S⟩
theorem r_fits0 {s n p : Nat} (R : RR h 71 w) (O : OkW w) (hs : s < 8) (q1 : (wS w s).1 = 1) (hn : n ≤ 40) (hp : p < sP (wX w)) : Ret (lp_X6_fits_48 71 (nI s) (nI n) (nI p) (nI 0) (fun b6_48 h48_ => some (b6_48, h48_)) 1000 0 0 h) (nI (bsN (toldB (uA (wX w) 2 p) p (wS w s).2.2.2 n) 10)) (fun q => RR q 71 w ∧ Sm 71 h q) := by
  have hP := O.1.1
  have hp8 : p < ln 2 := by show p < 8; omega
  have hp0 : p < ln 0 := by show p < 8; omega
  refine Ret.loopA (lp := lp_X6_fits_48 71 (nI s) (nI n) (nI p) (nI 0) _) (fun i => nI (bsN (toldB (uA (wX w) 2 p) p (wS w s).2.2.2 n) i)) (fun i q => RR q 71 w ∧ Sm 71 h q) 10 (by decide) rfl ⟨R, Sm.rf _ _⟩ ?_ ?_
  · rintro t i q hi ⟨R2, S2⟩ kk
    show Ret (lb_X6_fits_48 71 _ _ _ _ _ _ _ _ q) _ _
    unfold lb_X6_fits_48
    rw [if_pos (show nI 0 = 0 from rfl), if_neg (show ¬ (9 : Int32) < nI i from ltN (m := 9) (by omega) (by decide))]
    obtain ⟨k, rt⟩ := r_thought O R2
    refine Ret.icall R2.md.1 rt fun h2 ⟨T, V2, S⟩ => ?_
    obtain ⟨h3, e3, M3, V3, F3⟩ := W_row T.k.2 V2 2 (by decide) (i := p) (v := i) hp8 rfl (b := k + 17 + 2) rfl
    obtain ⟨T3, S3⟩ := T.fr (F3.wide (by omega) (by omega))
    obtain ⟨h4, e4, M4, V4, F4⟩ := W_row T3.k.2 V3 0 (by decide) (i := p) (v := sA (uA (wX w) 2 p i) 0 p) hp0 rfl (b := k + 17 + 0) rfl
    obtain ⟨T4, S4⟩ := T3.fr (F4.wide (by omega) (by omega))
    have V4 := V4.ext (EqA_uA _ _ _)
    rw [T.k.2.rk 2 (by decide) rfl rfl, bd_ok, e3, bd_ok, T3.k.2.rk 0 (by decide) rfl rfl, bd_ok, bd_ok, R_ld T3.k.2 V3 0 (by decide) hp0 rfl, bd_ok, e4, bd_ok, T4.R.md.g3 (b := 75) rfl, bd_ok, T4.R.md.lr hs rfl (d := 76 + s) rfl, bd_ok, nI1]
    refine (r_isSo T4 (Ok_uA O.1 (by decide) (fun _ => hi)) V4 hs q1 hn hp).call fun h5 ⟨T5, S5⟩ => ?_
    have go := kk h5 ⟨T5.R, S2.tr (S.1.tr (S3.1.tr (S4.1.tr S5)))⟩
    by_cases g : fstN (tlP (uA (wX w) 2 p i) p (wS w s).2.2.2) n < n
    · rw [if_pos g, if_pos rfl, Int32.or_zero, bs_no (k := i) (f := toldB (uA (wX w) 2 p) p (wS w s).2.2.2 n) (by unfold toldB; simp [g])]
      exact go
    · rw [if_neg g, if_neg (by decide), bs_orG (k := i) (f := toldB (uA (wX w) 2 p) p (wS w s).2.2.2 n) (by omega) (by unfold toldB; simp [g])]
      exact go
  · rintro t q ⟨R2, S2⟩
    show Ret (lb_X6_fits_48 71 _ _ _ _ _ _ _ _ q) _ _
    unfold lb_X6_fits_48
    rw [if_pos (show nI 0 = 0 from rfl), if_pos (show (9 : Int32) < nI 10 by decide)]
    exact Ret.mk ⟨R2, S2⟩
theorem r_fits1 {s n p : Nat} (R : RR h 71 w) (O : OkW w) (hs : s < 8) (q1 : (wS w s).1 = 1) (hn : n ≤ 40) (hp : p < sP (wX w)) : Ret (lp_X6_fits_48 71 (nI s) (nI n) (nI p) (nI 1) (fun b6_48 h48_ => some (b6_48, h48_)) 1000 0 0 h) (nI (bsN (toldB (uA (wX w) 0 p) p (wS w s).2.2.2 n) 6)) (fun q => RR q 71 w ∧ Sm 71 h q) := by
  have hP := O.1.1
  have hp8 : p < ln 2 := by show p < 8; omega
  have hp0 : p < ln 0 := by show p < 8; omega
  refine Ret.loopA (lp := lp_X6_fits_48 71 (nI s) (nI n) (nI p) (nI 1) _) (fun i => nI (bsN (toldB (uA (wX w) 0 p) p (wS w s).2.2.2 n) i)) (fun i q => RR q 71 w ∧ Sm 71 h q) 6 (by decide) rfl ⟨R, Sm.rf _ _⟩ ?_ ?_
  · rintro t i q hi ⟨R2, S2⟩ kk
    show Ret (lb_X6_fits_48 71 _ _ _ _ _ _ _ _ q) _ _
    unfold lb_X6_fits_48
    rw [if_neg (show ¬ nI 1 = 0 by decide), if_neg (show ¬ (5 : Int32) < nI i from ltN (m := 5) (by omega) (by decide))]
    obtain ⟨k, rt⟩ := r_thought O R2
    refine Ret.icall R2.md.1 rt fun h2 ⟨T, V2, S⟩ => ?_
    obtain ⟨h3, e3, M3, V3, F3⟩ := W_row T.k.2 V2 2 (by decide) (i := p) (v := sA (wX w) 2 p) hp8 rfl (b := k + 17 + 2) rfl
    obtain ⟨T3, S3⟩ := T.fr (F3.wide (by omega) (by omega))
    have V3 := V3.ext (EqA_uA _ _ _)
    obtain ⟨h4, e4, M4, V4, F4⟩ := W_row T3.k.2 V3 0 (by decide) (i := p) (v := i) hp0 rfl (b := k + 17 + 0) rfl
    obtain ⟨T4, S4⟩ := T3.fr (F4.wide (by omega) (by omega))
    rw [T.k.2.rk 2 (by decide) rfl rfl, bd_ok, bd_ok, R_ld T.k.2 V2 2 (by decide) hp8 rfl, bd_ok, e3, bd_ok, T3.k.2.rk 0 (by decide) rfl rfl, bd_ok, if_pos (show nI 1 = 1 from rfl), e4, bd_ok, T4.R.md.g3 (b := 75) rfl, bd_ok, T4.R.md.lr hs rfl (d := 76 + s) rfl, bd_ok, nI1]
    refine (r_isSo T4 (Ok_uA O.1 (by decide) (fun _ => hi)) V4 hs q1 hn hp).call fun h5 ⟨T5, S5⟩ => ?_
    have go := kk h5 ⟨T5.R, S2.tr (S.1.tr (S3.1.tr (S4.1.tr S5)))⟩
    by_cases g : fstN (tlP (uA (wX w) 0 p i) p (wS w s).2.2.2) n < n
    · rw [if_pos g, if_pos rfl, Int32.or_zero, bs_no (k := i) (f := toldB (uA (wX w) 0 p) p (wS w s).2.2.2 n) (by unfold toldB; simp [g])]
      exact go
    · rw [if_neg g, if_neg (by decide), bs_orG (k := i) (f := toldB (uA (wX w) 0 p) p (wS w s).2.2.2 n) (by omega) (by unfold toldB; simp [g])]
      exact go
  · rintro t q ⟨R2, S2⟩
    show Ret (lb_X6_fits_48 71 _ _ _ _ _ _ _ _ q) _ _
    unfold lb_X6_fits_48
    rw [if_neg (show ¬ nI 1 = 0 by decide), if_pos (show (5 : Int32) < nI 6 by decide)]
    exact Ret.mk ⟨R2, S2⟩
theorem al_fits (W : WI h w) (a1 a2 a3 a4 : Int32) : Alk (f_X5_fits 0 a1 a2 a3 a4) (f_X6_fits 71 a1 a2 a3 a4) h := by
  obtain ⟨O, C, V, -⟩ := id W
  have hP := O.1.1
  have hb : (12 : Int32).toInt64.toInt = ((12 + 1 : Nat) : Int) - 1 := rfl
  have hg : ∀ h1, RR h1 71 w → f_X6_fits 71 a1 a2 a3 a4 h1 = ob (inv 6 71 h1 (f_X6_noTold 71 a1 a2 12 (if inR a3 (sP (wX w)) ∧ inR a4 2 then 1 else 0) h1)) fun x29 h29 => if x29 = 0 then lp_X6_fits_48 71 a1 a2 a3 a4 (fun b6_48 h48_ => some (b6_48, h48_)) 1000 0 0 h29 else some (x29, h29) := by
    intro h1 R
    unfold f_X6_fits
    by_cases g3 : inR a3 (sP (wX w))
    · rw [rPY R O g3]
      by_cases g4 : inR a4 2
      · rw [rY 1 g4, if_pos ⟨g3, g4⟩]
      · rw [rN 1 g4, if_neg (fun e => g4 e.2)]
    · rw [rPN R O g3, if_neg (fun e => g3 e.1)]
  by_cases g1 : inR a1 8
  · by_cases g2 : inR a2 13
    · by_cases g3 : inR a3 (sP (wX w))
      · by_cases g4 : inR a4 2
        · rw [if_pos ⟨g3, g4⟩] at hg
          obtain ⟨s, hs, rfl⟩ := inR_is g1
          obtain ⟨n, hn, rfl⟩ := inR_is g2
          obtain ⟨p, hp, rfl⟩ := inR_is g3
          have so := O.2.2.1 s hs
          have sv := V.2.2.2.2.2.1 s hs
          have ha := show f_X5_fits 0 (nI s) (nI n) (nI p) a4 h = _ by
            unfold f_X5_fits
            rw [cY 8 g1 (by decide), cY 13 g2 (by decide), cPY C V O g3, cY 2 g4 (by decide), C.g6, bd_ok, C.ls hs, bd_ok, inv_ok (C.sh hs).1, s_asTold (C.sh hs) so hP sv (by omega), ob_ok]
          by_cases gt : rfTo (wS w s) n = 0
          · obtain ⟨q1, qz⟩ := rfTo_row so gt
            have hz := (so.2.1 q1).2
            have rows := (sv.2 q1).2
            rw [if_pos gt] at ha
            have hg2 := fun h1 (R : RR h1 71 w) => show f_X6_fits 71 (nI s) (nI n) (nI p) a4 h1 = _ by
              rw [hg h1 R, inv_ok R.md.1, (r_told R O hs hn (by decide) hb (by decide)).1 gt, ob_ok, if_pos rfl]
            obtain ⟨a, ha2, rfl⟩ := inR_is g4
            have hc : a = 0 ∨ a = 1 := by omega
            rcases hc with rfl | rfl
            · refine both W (nI (bsN (toldB (uA (wX w) 2 p) p (wS w s).2.2.2 n) 10)) w O ?_ (fun h1 R => ?_)
              · rw [ha, if_pos (show nI 0 = 0 from rfl), C.g3, bd_ok, C.g0, bd_ok]
                have r := s_mems C.O C.I O.1 V.1 (by decide) (C.sh hs).T (show n ≤ 40 by omega) hp
                rw [show bsN (fun v => decide (¬ fstN (tlP (uA (wX w) 2 p v) p (hJ h (55 + 2 * s + 1))) n < n)) 10 = _ from toldB_congr (y := uA (wX w) 2 p) (fun i hi => rows i (by omega)) 10] at r
                exact Ret.icall C.O.1 (Ret.scr V (by decide) (by decide) r) fun h2 q => Ret.mk q
              · rw [hg2 h1 R]
                exact r_fits0 R O hs q1 (by omega) hp
            · refine both W (nI (bsN (toldB (uA (wX w) 0 p) p (wS w s).2.2.2 n) 6)) w O ?_ (fun h1 R => ?_)
              · rw [ha, if_neg (show ¬ nI 1 = 0 by decide), C.g3, bd_ok, C.g0, bd_ok]
                have r := s_kinds C.O C.I O.1 V.1 (by decide) (C.sh hs).T (show n ≤ 40 by omega) hp
                rw [show bsN (fun v => decide (¬ fstN (tlP (uA (wX w) 0 p v) p (hJ h (55 + 2 * s + 1))) n < n)) 6 = _ from toldB_congr (y := uA (wX w) 0 p) (fun i hi => rows i (by omega)) 6] at r
                exact Ret.icall C.O.1 (Ret.scr V (by decide) (by decide) r) fun h2 q => Ret.mk q
              · rw [hg2 h1 R]
                exact r_fits1 R O hs q1 (by omega) hp
          · refine told_no W hs hn (by decide) hb (by decide) gt ?_ ?_ hg
            · rw [ha, if_neg gt]
            · intro v h v0
              exact if_neg v0
        · rw [if_neg (fun e => g4 e.2)] at hg
          refine told_bad W hb (Or.inr (Or.inr rfl)) ?_ ?_ hg
          · unfold f_X5_fits
            rw [cY 8 g1 (by decide), cY 13 g2 (by decide), cPY C V O g3, cN 2 g4 (by decide)]
          · intro h
            exact if_neg (by decide)
      · rw [if_neg (fun e => g3 e.1)] at hg
        refine told_bad W hb (Or.inr (Or.inr rfl)) ?_ ?_ hg
        · unfold f_X5_fits
          rw [cY 8 g1 (by decide), cY 13 g2 (by decide), cPN C V O g3]
        · intro h
          exact if_neg (by decide)
    · refine told_bad W hb (Or.inr (Or.inl g2)) ?_ ?_ hg
      · unfold f_X5_fits
        rw [cY 8 g1 (by decide), cN 13 g2 (by decide)]
      · intro h
        exact if_neg (by decide)
  · refine told_bad W hb (Or.inl g1) ?_ ?_ hg
    · unfold f_X5_fits
      rw [cN 8 g1 (by decide)]
    · intro h
      exact if_neg (by decide)
end FITS
