/-! BOTH SIDES: set, back -/
theorem wBK_0 (w : Wd) (y : St) : wBK w y 0 = wUX w y := by
  have e : (fun s => if s < 0 then bkS (sP y) (wS w s) else wS w s) = w.2.2.2.1 := by
    funext s
    exact if_neg (by omega)
  show (y, w.2.1, w.2.2.1, (fun s => if s < 0 then bkS (sP y) (wS w s) else wS w s), wC w) = _
  rw [e]
  rfl
theorem wBK_1 (w : Wd) (y : St) (i : Nat) : wBK w y (i + 1) = wUS (wBK w y i) i (bkS (sP y) (wS w i)) := by
  have e : (fun s => if s < i + 1 then bkS (sP y) (wS w s) else wS w s) = fun s => if s = i then bkS (sP y) (wS w i) else wS (wBK w y i) s := by
    funext s
    show _ = if s = i then bkS (sP y) (wS w i) else if s < i then bkS (sP y) (wS w s) else wS w s
    by_cases g : s = i
    · subst g
      rw [if_pos (by omega), if_pos rfl]
    · by_cases g2 : s < i
      · rw [if_pos (by omega), if_neg g, if_pos g2]
      · rw [if_neg (by omega), if_neg g, if_neg g2]
  show (y, w.2.1, w.2.2.1, (fun s => if s < i + 1 then bkS (sP y) (wS w s) else wS w s), wC w) = _
  rw [e]
  rfl
theorem wBK_s (w : Wd) (y : St) (i : Nat) : wS (wBK w y i) i = wS w i := if_neg (by omega)
theorem wUS_id (w : Wd) (s : Nat) : wUS w s (wS w s) = w := by
  have e : (fun i => if i = s then wS w s else wS w i) = w.2.2.2.1 := by
    funext i
    by_cases g : i = s
    · subst g; exact if_pos rfl
    · exact if_neg g
  show (w.1, w.2.1, w.2.2.1, (fun i => if i = s then wS w s else wS w i), wC w) = w
  rw [e]
  rfl
theorem cnt_lt {P Q : Nat} {q : Sh} (O : ShOk Q q) (hQ : Q ≤ 8) (hP : P ≤ 8) : cnt q < nI (10 + P) ↔ ¬ (q.1 = 2 ∧ P ≤ q.2.1) := by
  obtain ⟨o1, o2, o3⟩ := O
  unfold cnt
  by_cases e0 : q.1 = 0
  · rw [if_pos e0, Int32.lt_iff_toInt_lt, nI_toInt (by omega), show (-1 : Int32).toInt = -1 from rfl]
    constructor
    · omega
    · omega
  · rw [if_neg e0]
    by_cases e1 : q.1 = 1
    · have := (o2 e1).1
      rw [if_pos e1, nIt (by omega) (by omega)]
      omega
    · have := o3 (by omega)
      rw [if_neg e1, nIt (by omega) (by omega)]
      omega
section SHELF4
variable {h : HP} {w : Wd}
theorem al_set (W : WI h w) (a1 a2 : Int32) (a3 : Int64) : Alk (f_X5_set 0 a1 a2 a3) (f_X6_set 71 a1 a2 a3) h := by
  obtain ⟨O, C, V, -⟩ := id W
  have hP := O.1.1
  by_cases g1 : inR a1 8
  · obtain ⟨s, hs, rfl⟩ := inR_is g1
    have so := O.2.2.1 s hs
    have sv := V.2.2.2.2.2.1 s hs
    have hb2 := so.1
    have ha := show f_X5_set 0 (nI s) a2 a3 h = _ by
      unfold f_X5_set
      rw [cY 8 g1 (by decide), C.g6, bd_ok, C.ls hs, bd_ok, inv_ok (C.sh hs).1, s_asRow (C.sh hs) so hP sv, ob_ok]
    by_cases q1 : (wS w s).1 = 1
    · have e0 : rfR (wS w s) = 0 := by unfold rfR; rw [if_neg (by omega), if_neg (by omega)]
      have hz := (so.2.1 q1).2
      have hk := (so.2.1 q1).1
      obtain ⟨z1, z2⟩ := sv.2 q1
      have ca := fun h1 (R : RR h1 71 w) => show f_X6_set 71 (nI s) a2 a3 h1 = _ by
        unfold f_X6_set
        rw [inv_ok R.md.1, (r_noRow R O hs).1 q1, ob_ok, if_pos rfl, R.md.r 2 3 8 (by decide) (b := 74) rfl, bd_ok, R.l (f := 2) (o := 3) (by decide) hs rfl, bd_ok, ((R.sh hs).2.1 q1).2.1]
      by_cases g2 : inR a2 (wS w s).2.2.1
      · obtain ⟨i, hi, rfl⟩ := inR_is g2
        refine both W 1 (wUS w s (1, (wS w s).2.1, (wS w s).2.2.1, vp_updL (wS w s).2.2.2 i (fitV (wS w s).2.1 a3))) (OkW_shelf O ⟨show (1 : Nat) ≤ 2 by decide, fun _ => ⟨hk, hz⟩, fun e => absurd (show (1 : Nat) = 2 from e) (by decide)⟩) ?_ (fun h1 R => ?_)
        · rw [ha, e0, if_pos rfl, gI_ok (C.sh hs).1, bd_ok, z1, cY _ g2 (by omega)]
          exact Ret.icall (C.sh hs).1 (s_put (C.sh hs) so sv q1 (by omega)) fun h2 ⟨F, V2⟩ => Ret.mk (V.shelf hs F V2)
        · obtain ⟨t1, t2, t3⟩ := (R.sh hs).2.1 q1
          rw [ca h1 R, rY _ g2 (hb := l_m1 (by omega)), R.md.g3 (b := 75) rfl, bd_ok, R.md.lr hs rfl (d := 76 + s) rfl, bd_ok, R.md.r 1 2 8 (by decide) (b := 73) rfl, bd_ok, R.l (f := 1) (o := 2) (by decide) hs rfl, bd_ok, t1, r_fit hk, ob_ok, sJ_ok (R.md.la hs (b := 76 + s) rfl) (by omega) (by decide), bd_ok]
          refine Ret.mk (R.shelf hs (FSr.wj (Or.inl rfl)) ⟨(R.sh hs).1.trans (congrArg nI q1), fun _ => ⟨t1, t2, fun j hj => ?_⟩, fun e => absurd (show (1 : Nat) = 2 from e) (by decide)⟩)
          rw [hJ_w]
          show vp_updL (hJ h1 (76 + s)) i _ j = vp_updL (wS w s).2.2.2 i _ j
          by_cases e : j = i
          · rw [e, pk_uLs, pk_uLs]
          · rw [pk_uLn e, pk_uLn e]
            exact t3 j hj
      · refine bad W ?_ (fun h1 R => ?_)
        · rw [ha, e0, if_pos rfl, gI_ok (C.sh hs).1, bd_ok, z1, cN _ g2 (by omega)]
        · rw [ca h1 R, rN _ g2 (hb := l_m1 (by omega))]
    · have go : ∀ (i : Nat) (v : Int32), i < 5 → (-2) - v = nI i → -v = nI (2 + i) → ¬ v = 0 → rfR (wS w s) = v → (∀ h1, RR h1 71 w → f_X6_noRow 71 (nI s) h1 = ob (inv 6 71 h1 (f_X6_refuse 71 v h1)) fun x h => some (x, h)) → Alk (f_X5_set 0 (nI s) a2 a3) (f_X6_set 71 (nI s) a2 a3) h := by
        intro i v hi e1 e2 v0 e hb
        refine both W v (rfW w i) (OkW_rf O i) ?_ (fun h1 R => ?_)
        · rw [ha, e, if_neg v0]
          exact c_no C V hi e1
        · unfold f_X6_set
          refine Ret.icall R.md.1 (by rw [hb h1 R]; exact r_no R hi e2) fun h2 q => ?_
          rw [if_neg v0]
          exact Ret.mk q
      by_cases q2 : (wS w s).1 = 2
      · exact go 1 (-3) (by decide) (by decide) (by decide) (by decide) (by unfold rfR; rw [if_pos q2]) (fun h1 R => (r_noRow R O hs).2.1 q2)
      · exact go 2 (-4) (by decide) (by decide) (by decide) (by decide) (by unfold rfR; rw [if_neg q2, if_pos (by omega)]) (fun h1 R => (r_noRow R O hs).2.2 (by omega))
  · refine both W (-2) (rfW w 0) (OkW_rf O 0) ?_ (fun h1 R => ?_)
    · unfold f_X5_set
      rw [cN 8 g1 (by decide)]
      exact c_no C V (by decide) (by decide)
    · unfold f_X6_set
      refine Ret.icall R.md.1 (v := -2) (Q := fun h2 => RR h2 71 (rfW w 0) ∧ Sm 71 h1 h2) ?_ fun h2 q => ?_
      · unfold f_X6_noRow
        rw [rN 7 g1]
        exact r_no R (by decide) (by decide)
      · rw [if_neg (by decide)]
        exact Ret.mk q
theorem al_back (W : WI h w) : Alk (f_X5_back 0) (f_X6_back 71) h := by
  obtain ⟨O, C, V, -⟩ := id W
  have hP := O.1.1
  have v3 := V.2.2.1
  cases hk : wK w with
  | none =>
    rw [hk] at v3
    refine no_both W (i := 3) (by decide) (v := -5) (by decide) (by decide) ?_ (fun h1 R => ?_)
    · unfold f_X5_back
      rw [gI_ok C.1, bd_ok, v3, if_pos (by decide)]
    · obtain ⟨c, f, R1, R2⟩ := R
      have e25 := R1.2.2.2.2.1 0 (by decide)
      unfold f_X6_back
      rw [gN_ok R1.2.2.1.1, bd_ok, show (25 : Nat) = 25 + 0 from rfl, e25, R2.2.1 hk, if_pos (by rfl)]
  | some y =>
    rw [hk] at v3
    have v3 : hI h 0 8 = 1 := v3
    have Oy := O.2.1 y hk
    have hy := Oy.1
    have okw : OkW (wBK w y 8) := by
      refine ⟨Oy, O.2.1, fun s hs => ?_, O.2.2.2⟩
      have so := O.2.2.1 s hs
      show ShOk (sP y) (if s < 8 then bkS (sP y) (wS w s) else wS w s)
      rw [if_pos hs]
      unfold bkS
      by_cases g : (wS w s).1 = 2 ∧ sP y ≤ (wS w s).2.1
      · rw [if_pos g]
        exact ⟨Nat.zero_le _, fun e => absurd (show (0 : Nat) = 1 from e) (by decide), fun e => absurd (show (0 : Nat) = 2 from e) (by decide)⟩
      · rw [if_neg g]
        exact ⟨so.1, so.2.1, fun e => by omega⟩
    refine both W 1 (wBK w y 8) okw ?_ (fun h1 R => ?_)
    · unfold f_X5_back
      rw [gI_ok C.1, bd_ok, v3, if_neg (show ¬ ((1 : Int32) = 0) by decide), C.g0, bd_ok, C.g1, bd_ok]
      refine Ret.icall C.I.1 (s_become C.I C.K Oy (V.2.1 y hk) (by omega)) fun h2 ⟨F2, V2⟩ => ?_
      obtain ⟨FC2, CV2⟩ := V.now F2 V2
      refine Ret.loop (lp := lp_X5_back_27 0 _) (fun i q => FC h q ∧ CV q (wBK w y i)) 8 (by decide) ⟨FC2, by rw [wBK_0]; exact CV2⟩ ?_ ?_
      · rintro t i q hi ⟨F3, V3⟩ kk
        have C3 := F3.I C
        have so := O.2.2.1 i hi
        have sv := V3.2.2.2.2.2.1 i hi
        rw [wBK_s] at sv
        show Ret (lb_X5_back_27 0 _ _ _ q) _ _
        unfold lb_X5_back_27
        rw [if_neg (show ¬ (8 : Int32) ≤ nI i from leN (m := 8) hi (by decide)), C3.g6, bd_ok, C3.ls hi, bd_ok, gI_ok (C3.sh hi).1, bd_ok, C3.g0, bd_ok, gI_ok C3.I.1, bd_ok, V3.1.p, sv.1, show (10 : Int32) = nI 10 from rfl, nI_add, nI1]
        have cl := cnt_lt (P := sP y) so hP hy
        by_cases g : (wS w i).1 = 2 ∧ sP y ≤ (wS w i).2.1
        · rw [if_neg (show ¬ cnt (wS w i) < nI (10 + sP (wX (wBK w y i))) from fun e => cl.mp e g), bd_ok, C3.ls hi, bd_ok, pI_ok (C3.sh hi).1, bd_ok]
          refine kk _ ?_
          rw [wBK_1]
          have := V3.shelf (q := bkS (sP y) (wS w i)) hi (FrS.wi (55 + 2 * i) q (upd (hI q (55 + 2 * i)) 0 (-1))) ?_
          · exact ⟨F3.tr this.1, this.2⟩
          · unfold bkS
            rw [if_pos g]
            exact ⟨by rw [hI_w, upd_s]; rfl, fun e => absurd (show (0 : Nat) = 1 from e) (by decide)⟩
        · rw [if_pos (show cnt (wS w i) < nI (10 + sP (wX (wBK w y i))) from cl.mpr g)]
          refine kk _ ⟨F3, ?_⟩
          have e : bkS (sP y) (wS w i) = wS (wBK w y i) i := by unfold bkS; rw [if_neg g, wBK_s]
          rw [wBK_1, e, wUS_id]
          exact V3
      · rintro t q ⟨F3, V3⟩
        show Ret (lb_X5_back_27 0 _ _ _ q) _ _
        unfold lb_X5_back_27
        rw [if_pos (show (8 : Int32) ≤ nI 8 by decide)]
        exact Ret.mk ⟨F3, V3⟩
    · obtain ⟨c, f, R1, R2⟩ := id R
      obtain ⟨j, hj, Vy⟩ := R2.2.2.1 y hk
      have e25 := R1.2.2.2.2.1 0 (by decide)
      rw [hj] at e25
      have e25 : hR h1 71 25 = some (71 + 33 * j) := e25
      have hj2 := R1.2.2.2.2.2.1 0 (by decide) j hj
      have Mj := R1.2.2.2.1 j hj2.1 hj2.2
      unfold f_X6_back
      rw [gN_ok R1.2.2.1.1, bd_ok, e25, if_neg (by simp), gR_ok R1.2.2.1.1 e25, bd_ok]
      refine Ret.icall R1.2.2.1.1 (r_take R1.2.2.1 Mj Oy Vy (by omega)) fun h2 ⟨F2, V2⟩ => ?_
      obtain ⟨RR2, S2⟩ := R.now F2 V2
      refine Ret.loop (lp := lp_X6_back_24 71 _) (fun i q => RR q 71 (wBK w y i) ∧ Sm 71 h1 q) 8 (by decide) ⟨by rw [wBK_0]; exact RR2, S2⟩ ?_ ?_
      · rintro t i q hi ⟨R3, S3⟩ kk
        have so := O.2.2.1 i hi
        have sh := R3.sh hi
        rw [wBK_s] at sh
        have M3 := R3.md
        have e0 : (nI (wS w i).1 = 2) ↔ (wS w i).1 = 2 := nIe (b := 2) (by have := so.1; omega) (by decide)
        show Ret (lb_X6_back_24 71 _ _ _ q) _ _
        unfold lb_X6_back_24
        rw [if_neg (show ¬ (8 : Int32) ≤ nI i from leN (m := 8) hi (by decide)), M3.r 0 1 8 (by decide) (b := 72) rfl, bd_ok, R3.l (f := 0) (o := 1) (by decide) hi rfl, bd_ok, sh.1, nI1]
        have same : ¬ ((wS w i).1 = 2 ∧ sP y ≤ (wS w i).2.1) → RR q 71 (wBK w y (i + 1)) := fun g => by
          have e : bkS (sP y) (wS w i) = wS (wBK w y i) i := by unfold bkS; rw [if_neg g, wBK_s]
          rw [wBK_1, e, wUS_id]
          exact R3
        by_cases g2 : (wS w i).1 = 2
        · have hp := so.2.2 g2
          rw [if_pos (e0.mpr g2), M3.r 5 14 8 (by decide) (b := 85) rfl, bd_ok, R3.l (f := 5) (o := 14) (by decide) hi rfl, bd_ok, sh.2.2 g2, R3.v.gp R3.md, bd_ok]
          by_cases g3 : sP y ≤ (wS w i).2.1
          · rw [if_neg (show ¬ nI (wS w i).2.1 < nI (sP (wX (wBK w y i))) from ltN g3 (by omega)), bd_ok, sI_ok (M3.a 0 1 8 (by decide) (b := 72) rfl) hi (by decide), bd_ok]
            refine kk _ ?_
            rw [wBK_1]
            have := R3.shelf (q := bkS (sP y) (wS w i)) hi (FSr.wi (b := 72) (v := 0) (Or.inl rfl)) ?_
            · exact ⟨this.1, S3.tr this.2⟩
            · unfold bkS
              rw [if_pos ⟨g2, g3⟩]
              exact ⟨by rw [hI_w, upd_s]; rfl, fun e => absurd (show (0 : Nat) = 1 from e) (by decide), fun e => absurd (show (0 : Nat) = 2 from e) (by decide)⟩
          · rw [if_pos (show nI (wS w i).2.1 < nI (sP (wX (wBK w y i))) from ltY (show (wS w i).2.1 < sP y by omega) (show sP y ≤ 100000 by omega))]
            exact kk _ ⟨same (fun g => g3 g.2), S3⟩
        · rw [if_neg (fun e => g2 (e0.mp e))]
          exact kk _ ⟨same (fun g => g2 g.1), S3⟩
      · rintro t q ⟨R3, S3⟩
        show Ret (lb_X6_back_24 71 _ _ _ q) _ _
        unfold lb_X6_back_24
        rw [if_pos (show (8 : Int32) ≤ nI 8 by decide)]
        exact Ret.mk ⟨R3, S3⟩
end SHELF4
