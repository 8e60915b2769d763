/-! BOTH SIDES: says, element, set, back -/
def udr (own as : Nat) : Bool := decide (as = 0 ∨ own = as ∨ (as = 1 ∧ own = 3) ∨ (as = 2 ∧ own = 4))
theorem r_under {h : HP} {own as : Nat} (ho : own < 6) (ha : as < 6) : f_X6_isUnder (nI own) (nI as) h = some (if udr own as = true then 1 else 0, h) := by
  have c0 : (nI as = 0) ↔ as = 0 := nIe (b := 0) (by omega) (by decide)
  have c1 : (nI as = 1) ↔ as = 1 := nIe (b := 1) (by omega) (by decide)
  have c2 : (nI as = 2) ↔ as = 2 := nIe (b := 2) (by omega) (by decide)
  have d3 : (nI own = 3) ↔ own = 3 := nIe (b := 3) (by omega) (by decide)
  have d4 : (nI own = 4) ↔ own = 4 := nIe (b := 4) (by omega) (by decide)
  have e : (nI own = nI as) ↔ own = as := nIe (by omega) (by omega)
  unfold f_X6_isUnder udr
  simp only [c0, c1, c2, d3, d4, e, rZ0, rZ1]
  by_cases h0 : as = 0
  · rw [if_pos h0, if_pos (by simp [h0])]
  rw [if_neg h0]
  by_cases h1 : own = as
  · rw [if_pos h1, if_pos (by simp [h1])]
  rw [if_neg h1]
  by_cases h2 : as = 1
  · rw [if_pos h2]
    by_cases h3 : own = 3
    · rw [if_pos h3, if_pos (by simp [h2, h3])]
    · rw [if_neg h3, if_neg (by simp; omega)]
  rw [if_neg h2]
  by_cases h4 : as = 2
  · rw [if_pos h4]
    by_cases h3 : own = 4
    · rw [if_pos h3, if_pos (by simp [h4, h3])]
    · rw [if_neg h3, if_neg (by simp; omega)]
  rw [if_neg h4, if_neg (by simp; omega)]
theorem c_under {h : HP} {a : Nat} {x : St} (H : IsI h a) (O : Ok x) (V : VC h a x) {p as : Nat} (hp : p < sP x) (ha : as < 6) : f_X0_isOfKind a (nI p) (nI as) h = some (if udr (sA x 0 p) as = true then 1 else 0, h) := by
  have hP := O.1
  have hp8 : p < ln 0 := by show p < 8; omega
  have ho : sA x 0 p < 6 := O.b 0 p (by decide) hp8
  have c0 : (nI as = 0) ↔ as = 0 := nIe (b := 0) (by omega) (by decide)
  have c1 : (nI as = 1) ↔ as = 1 := nIe (b := 1) (by omega) (by decide)
  have c2 : (nI as = 2) ↔ as = 2 := nIe (b := 2) (by omega) (by decide)
  have d3 : (nI (sA x 0 p) = 3) ↔ sA x 0 p = 3 := nIe (b := 3) (by omega) (by decide)
  have d4 : (nI (sA x 0 p) = 4) ↔ sA x 0 p = 4 := nIe (b := 4) (by omega) (by decide)
  have e : (nI as = nI (sA x 0 p)) ↔ as = sA x 0 p := nIe (by omega) (by omega)
  unfold f_X0_isOfKind udr
  rw [H.r 0 (by decide) rfl rfl, bd_ok, I_ld H V 0 (by decide) hp8 rfl, bd_ok]
  simp only [c0, c1, c2, d3, d4, e, rZ0, rZ1]
  by_cases h0 : as = 0
  · rw [if_pos h0, if_pos (by simp [h0])]
  rw [if_neg h0]
  by_cases h1 : as = sA x 0 p
  · rw [if_pos h1, if_pos (by simp [h1])]
  rw [if_neg h1]
  by_cases h2 : as = 1
  · rw [if_pos h2]
    by_cases h3 : sA x 0 p = 3
    · rw [if_pos h3, if_pos (by simp [h2, h3])]
    · rw [if_neg h3, if_neg (by simp; omega)]
  rw [if_neg h2]
  by_cases h4 : as = 2
  · rw [if_pos h4]
    by_cases h3 : sA x 0 p = 4
    · rw [if_pos h3, if_pos (by simp [h4, h3])]
    · rw [if_neg h3, if_neg (by simp; omega)]
  rw [if_neg h4, if_neg (by simp; omega)]
theorem r_fit {h : HP} {k : Nat} (hk : k < 5) (v : Int64) : f_X6_fit (nI k) v h = some (fitV k v, h) := by
  have c0 : (nI k = 0) ↔ k = 0 := nIe (b := 0) (by omega) (by decide)
  have c1 : (nI k = 1) ↔ k = 1 := nIe (b := 1) (by omega) (by decide)
  have c2 : (nI k = 2) ↔ k = 2 := nIe (b := 2) (by omega) (by decide)
  have c3 : (nI k = 3) ↔ k = 3 := nIe (b := 3) (by omega) (by decide)
  unfold f_X6_fit fitV
  simp only [c0, c1, c2, c3]
  repeat' split
  all_goals rfl
section SHELF3
variable {h : HP} {w : Wd}
theorem c_no (C : CI h) (V : CV h w) {v : Int32} {i : Nat} (hi : i < 5) (e1 : (-2) - v = nI i) : Ret (ob (inv 5 0 h (f_X5_refuse 0 v h)) fun x h => some (x, h)) v (fun h1 => FC h h1 ∧ CV h1 (rfW w i)) :=
  Ret.icall C.1 (c_refuse C V hi e1) fun h2 q => Ret.mk q
theorem r_no (R : RR h 71 w) {v : Int32} {i : Nat} (hi : i < 5) (e2 : -v = nI (2 + i)) : Ret (ob (inv 6 71 h (f_X6_refuse 71 v h)) fun x h => some (x, h)) v (fun h1 => RR h1 71 (rfW w i) ∧ Sm 71 h h1) :=
  Ret.icall R.md.1 (r_refuse R hi e2) fun h2 q => Ret.mk q
theorem al_says (W : WI h w) (a1 a2 : Int32) : Alk (f_X5_says 0 a1 a2) (f_X6_says 71 a1 a2) h := by
  obtain ⟨O, C, V, -⟩ := id W
  have hP := O.1.1
  by_cases g1 : inR a1 8
  · by_cases g2 : inR a2 6
    · obtain ⟨s, hs, rfl⟩ := inR_is g1
      obtain ⟨k, hk, rfl⟩ := inR_is g2
      have so := O.2.2.1 s hs
      have cn := (cnt_neg so hP).1
      have sv := (V.2.2.2.2.2.1 s hs).1
      have ca := fun h1 (R : RR h1 71 w) => show f_X6_says 71 (nI s) (nI k) h1 = _ by
        unfold f_X6_says
        rw [rY 7 g1, rY 5 g2, R.md.r 0 1 8 (by decide) (b := 72) rfl, bd_ok, R.l (f := 0) (o := 1) (by decide) hs rfl, bd_ok, (R.sh hs).1]
      have ha := show f_X5_says 0 (nI s) (nI k) h = _ by
        unfold f_X5_says
        rw [cY 8 g1 (by decide), cY 6 g2 (by decide), C.g6, bd_ok, C.ls hs, bd_ok, gI_ok (C.sh hs).1, bd_ok, sv]
      by_cases q0 : (wS w s).1 = 0
      · refine no_both W (i := 2) (by decide) (v := -4) (by decide) (by decide) ?_ (fun h1 R => ?_)
        · rw [ha, if_pos (cn.mpr q0)]
        · have s1 := (R.sh hs).1
          rw [ca h1 R, q0, if_neg (by decide), bd_ok, R.l (f := 0) (o := 1) (by decide) hs rfl, bd_ok, s1, q0, if_neg (by decide), bd_ok, R.l (f := 0) (o := 1) (by decide) hs rfl, bd_ok, s1, q0, if_pos (by decide)]
      · by_cases q1 : (wS w s).1 = 1
        · have hk5 := (so.2.1 q1).1
          have ec : cnt (wS w s) = nI (wS w s).2.1 := by unfold cnt; rw [if_neg q0, if_pos q1]
          refine no_both W (i := 1) (by decide) (v := -3) (by decide) (by decide) ?_ (fun h1 R => ?_)
          · rw [ha, if_neg (fun e => q0 (cn.mp e)), bd_ok, ec, cPN C V O (fun e => by
              have := e.1
              rw [show (10 : Int32) = nI 10 from rfl, z_sub, zI_toInt (by omega) (by omega)] at this
              omega)]
          · rw [ca h1 R, q1, if_pos (by decide)]
        · have q2 : (wS w s).1 = 2 := by have := so.1; omega
          have hp := so.2.2 q2
          have hp8 : (wS w s).2.1 < ln 2 := by show _ < 8; omega
          have hp0 : (wS w s).2.1 < ln 0 := hp8
          have ho : sA (wX w) 0 (wS w s).2.1 < 6 := O.1.b 0 _ (by decide) hp0
          have ec : cnt (wS w s) = nI (10 + (wS w s).2.1) := by unfold cnt; rw [if_neg q0, if_neg q1]
          have e10 : nI (10 + (wS w s).2.1) - 10 = nI (wS w s).2.1 := by
            rw [show (10 : Int32) = nI 10 from rfl, pk_sub (by omega)]
            congr 1
            omega
          have hb := ha
          rw [if_neg (fun e => q0 (cn.mp e)), bd_ok, ec, e10, cPY C V O ((inR_n (by omega)).mpr hp), C.g0, bd_ok, inv_ok C.I.1, c_under C.I O.1 V.1 hp hk, ob_ok] at hb
          have cb := fun h1 (R : RR h1 71 w) => show f_X6_says 71 (nI s) (nI k) h1 = _ by
            have s1 := (R.sh hs).1
            have s3 := (R.sh hs).2.2 q2
            rw [ca h1 R, q2, if_neg (by decide), bd_ok, R.l (f := 0) (o := 1) (by decide) hs rfl, bd_ok, s1, q2, if_pos (by decide), R.md.rk 0 (by decide) rfl rfl, bd_ok, R.md.r 5 14 8 (by decide) (b := 85) rfl, bd_ok, R.l (f := 5) (o := 14) (by decide) hs rfl, bd_ok, s3, R_ld R.md R.v 0 (by decide) hp0 rfl, bd_ok, r_under ho hk, ob_ok]
          by_cases qu : udr (sA (wX w) 0 (wS w s).2.1) k = true
          · by_cases qk : k = 0
            · refine both_q W (nI (sA (wX w) 2 (wS w s).2.1)) (hb.trans ?_) (fun h1 R => (cb h1 R).trans ?_)
              · rw [if_pos qu, if_neg (by decide), if_pos (show nI k = 0 by rw [qk]; rfl), C.g0, bd_ok, C.I.r 2 (by decide) rfl rfl, bd_ok, I_ld C.I V.1 2 (by decide) hp8 rfl, bd_ok]
              · have s1 := (R.sh hs).1
                have s3 := (R.sh hs).2.2 q2
                have r0 : gR 6 0 71 h1 = some 72 := R.md.r 0 1 8 (by decide) rfl
                have l0 : lI 72 (nI s) h1 = some (nI 2) := by rw [R.l (f := 0) (o := 1) (by decide) hs rfl]; exact congrArg some (s1.trans (congrArg nI q2))
                have r5 : gR 6 5 71 h1 = some 85 := R.md.r 5 14 8 (by decide) rfl
                have l5 : lI 85 (nI s) h1 = some (nI (wS w s).2.1) := by rw [R.l (f := 5) (o := 14) (by decide) hs rfl]; exact congrArg some s3
                have r16 : gR 6 16 71 h1 = some 90 := R.md.rk 2 (by decide) rfl rfl
                have l2 : lI 90 (nI (wS w s).2.1) h1 = some (nI (sA (wX w) 2 (wS w s).2.1)) := R_ld R.md R.v 2 (by decide) hp8 rfl
                rw [if_pos qu, if_neg (by decide)]
                simp only [r0, l0, r5, l5, r16, l2, Option.bind_some]
                rw [if_neg (by decide), if_pos (show nI k = 0 by rw [qk]; rfl)]
            · refine both_q W (nI (holdN (wX w) (wS w s).2.1 0)) (hb.trans ?_) (fun h1 R => (cb h1 R).trans ?_)
              · rw [if_pos qu, if_neg (by decide), if_neg (show ¬ nI k = 0 from eqN (m := 0) qk (by decide) (by omega)), C.g0, bd_ok, inv_ok C.I.1, show (0 : Int32) = nI 0 from rfl, s_hold C.I O.1 V.1 hp (by decide), ob_ok]
              · have s1 := (R.sh hs).1
                have s3 := (R.sh hs).2.2 q2
                have r0 : gR 6 0 71 h1 = some 72 := R.md.r 0 1 8 (by decide) rfl
                have l0 : lI 72 (nI s) h1 = some (nI 2) := by rw [R.l (f := 0) (o := 1) (by decide) hs rfl]; exact congrArg some (s1.trans (congrArg nI q2))
                have r5 : gR 6 5 71 h1 = some 85 := R.md.r 5 14 8 (by decide) rfl
                have l5 : lI 85 (nI s) h1 = some (nI (wS w s).2.1) := by rw [R.l (f := 5) (o := 14) (by decide) hs rfl]; exact congrArg some s3
                have r16 : gR 6 16 71 h1 = some 90 := R.md.rk 2 (by decide) rfl rfl
                have l2 : lI 90 (nI (wS w s).2.1) h1 = some (nI (sA (wX w) 2 (wS w s).2.1)) := R_ld R.md R.v 2 (by decide) hp8 rfl
                rw [if_pos qu, if_neg (by decide)]
                simp only [r0, l0, r5, l5, r16, l2, Option.bind_some]
                rw [if_neg (by decide), if_neg (show ¬ nI k = 0 from eqN (m := 0) qk (by decide) (by omega)), inv_ok R.md.1, show (0 : Int32) = nI 0 from rfl, r_holdBy R.md O.1 R.v hp (by decide), ob_ok]
          · refine no_both W (i := 1) (by decide) (v := -3) (by decide) (by decide) (hb.trans ?_) (fun h1 R => (cb h1 R).trans ?_)
            · rw [if_neg qu, if_pos rfl]
            · rw [if_neg qu, if_pos rfl]
    · refine bad W ?_ (fun h1 R => ?_)
      · unfold f_X5_says
        rw [cY 8 g1 (by decide), cN 6 g2 (by decide)]
      · unfold f_X6_says
        rw [rY 7 g1, rN 5 g2]
  · refine bad W ?_ (fun h1 R => ?_)
    · unfold f_X5_says
      rw [cN 8 g1 (by decide)]
    · unfold f_X6_says
      rw [rN 7 g1]
theorem al_element (W : WI h w) (a1 a2 : Int32) : Alk (f_X5_element 0 a1 a2) (f_X6_element 71 a1 a2) h := by
  obtain ⟨O, C, V, -⟩ := id W
  have hP := O.1.1
  by_cases g1 : inR a1 8
  · obtain ⟨s, hs, rfl⟩ := inR_is g1
    have so := O.2.2.1 s hs
    have sv := V.2.2.2.2.2.1 s hs
    have hb2 := so.1
    have ca := fun h1 (R : RR h1 71 w) => show f_X6_element 71 (nI s) a2 h1 = _ by
      unfold f_X6_element
      rw [rY 7 g1, R.md.r 0 1 8 (by decide) (b := 72) rfl, bd_ok, R.l (f := 0) (o := 1) (by decide) hs rfl, bd_ok, (R.sh hs).1]
    have ha := show f_X5_element 0 (nI s) a2 h = _ by
      unfold f_X5_element
      rw [cY 8 g1 (by decide), C.g6, bd_ok, C.ls hs, bd_ok, inv_ok (C.sh hs).1, s_asRow (C.sh hs) so hP sv, ob_ok]
    by_cases q1 : (wS w s).1 = 1
    · have e0 : rfR (wS w s) = 0 := by unfold rfR; rw [if_neg (by omega), if_neg (by omega)]
      have hz := (so.2.1 q1).2
      obtain ⟨z1, z2⟩ := sv.2 q1
      by_cases g2 : inR a2 (wS w s).2.2.1
      · obtain ⟨i, hi, rfl⟩ := inR_is g2
        refine both_q W ((wS w s).2.2.2 i) (ha.trans ?_) (fun h1 R => (ca h1 R).trans ?_)
        · rw [e0, if_pos rfl, gI_ok (C.sh hs).1, bd_ok, z1, cY _ g2 (by omega), (C.sh hs).r, bd_ok, lJ_ok (C.sh hs).2.2 (by omega) (by decide), bd_ok, z2 i (by omega)]
        · obtain ⟨t1, t2, t3⟩ := (R.sh hs).2.1 q1
          rw [q1, if_pos (by decide), R.md.r 2 3 8 (by decide) (b := 74) rfl, bd_ok, R.l (f := 2) (o := 3) (by decide) hs rfl, bd_ok, t2, rY _ g2 (hb := l_m1 (by omega)), R.md.g3 (b := 75) rfl, bd_ok, R.md.lr hs rfl (d := 76 + s) rfl, bd_ok, lJ_ok (R.md.la hs (b := 76 + s) rfl) (by omega) (by decide), bd_ok, t3 i (by omega)]
      · refine both_q W 0 (ha.trans ?_) (fun h1 R => (ca h1 R).trans ?_)
        · rw [e0, if_pos rfl, gI_ok (C.sh hs).1, bd_ok, z1, cN _ g2 (by omega)]
        · obtain ⟨t1, t2, t3⟩ := (R.sh hs).2.1 q1
          rw [q1, if_pos (by decide), R.md.r 2 3 8 (by decide) (b := 74) rfl, bd_ok, R.l (f := 2) (o := 3) (by decide) hs rfl, bd_ok, t2, rN _ g2 (hb := l_m1 (by omega))]
    · have e0 : ¬ rfR (wS w s) = 0 := by
        unfold rfR
        by_cases q2 : (wS w s).1 = 2
        · rw [if_pos q2]; decide
        · rw [if_neg q2, if_pos (by omega)]; decide
      refine both_q W 0 (ha.trans ?_) (fun h1 R => (ca h1 R).trans ?_)
      · rw [if_neg e0]
      · rw [if_neg (show ¬ nI (wS w s).1 = 1 from eqN (m := 1) q1 (by decide) (by omega))]
  · refine both_q W 0 ?_ (fun h1 R => ?_)
    · unfold f_X5_element
      rw [cN 8 g1 (by decide)]
    · unfold f_X6_element
      rw [rN 7 g1]
theorem r_noRow (R : RR h 71 w) (O : OkW w) {s : Nat} (hs : s < 8) : ((wS w s).1 = 1 → f_X6_noRow 71 (nI s) h = some (0, h)) ∧ ((wS w s).1 = 2 → f_X6_noRow 71 (nI s) h = ob (inv 6 71 h (f_X6_refuse 71 (-3) h)) fun x h => some (x, h)) ∧ ((wS w s).1 = 0 → f_X6_noRow 71 (nI s) h = ob (inv 6 71 h (f_X6_refuse 71 (-4) h)) fun x h => some (x, h)) := by
  have s1 := (R.sh hs).1
  have so := (O.2.2.1 s hs).1
  have e := show f_X6_noRow 71 (nI s) h = _ by
    unfold f_X6_noRow
    rw [rY 7 ((inR_n (by omega)).mpr hs), R.md.r 0 1 8 (by decide) (b := 72) rfl, bd_ok, R.l (f := 0) (o := 1) (by decide) hs rfl, bd_ok, s1]
  refine ⟨fun q => ?_, fun q => ?_, fun q => ?_⟩
  · rw [e, q, if_neg (by decide), bd_ok, R.l (f := 0) (o := 1) (by decide) hs rfl, bd_ok, s1, q, if_neg (by decide)]
  · rw [e, q, if_pos (by decide)]
  · rw [e, q, if_neg (by decide), bd_ok, R.l (f := 0) (o := 1) (by decide) hs rfl, bd_ok, s1, q, if_pos (by decide)]
end SHELF3
