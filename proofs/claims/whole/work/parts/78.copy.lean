/-! BOTH SIDES: copy -/
theorem cpJ_ok {h : HP} {b a i j n : Nat} (Hb : LA h b 40) (Ha : LA h a 40) (h1 : i + n ≤ 40) (h2 : j + n ≤ 40) : cpJ b (nI i) a (nI j) (nI n) h = some (wJ h a (va_cpy (hJ h b) (hJ h a) i j n)) := by
  have ti : (nI i).toNatClampNeg = i := tcN (by omega)
  have tj : (nI j).toNatClampNeg = j := tcN (by omega)
  have tn : (nI n).toNatClampNeg = n := tcN (by omega)
  have nn : ∀ {k : Nat}, k ≤ 40 → ¬ nI k < 0 := fun hk => by
    rw [Int32.lt_iff_toInt_lt, nI_toInt (by omega), show (0 : Int32).toInt = 0 from rfl]
    omega
  have okk : cpOK (hS h b).2 (hS h a).2 (nI i) (nI j) (nI n) = true := by
    unfold cpOK
    exact decide_eq_true ⟨nn (by omega), nn (by omega), nn (by omega), by rw [ti, tn, Hb.l]; omega, by rw [tj, tn, Ha.l]; omega⟩
  unfold cpJ
  rw [if_pos ⟨Hb.o, Ha.o, okk⟩, ti, tj, tn]
section COPY
variable {h : HP} {w : Wd}
theorem al_copy (W : WI h w) (a1 a2 a3 a4 a5 : Int32) : Alk (f_X5_copy 0 a1 a2 a3 a4 a5) (f_X6_copy 71 a1 a2 a3 a4 a5) h := by
  obtain ⟨O, C, V, -⟩ := id W
  have hP := O.1.1
  by_cases g1 : inR a1 8
  · by_cases g2 : inR a2 8
    · obtain ⟨p, hp, rfl⟩ := inR_is g1
      obtain ⟨q, hq, rfl⟩ := inR_is g2
      have pO := O.2.2.1 p hp
      have qO := O.2.2.1 q hq
      have pv := V.2.2.2.2.2.1 p hp
      have qv := V.2.2.2.2.2.1 q hq
      have pb := pO.1
      have qb := qO.1
      have pn := (cnt_neg pO hP).1
      have qn := (cnt_neg qO hP).1
      have ha := show f_X5_copy 0 (nI p) (nI q) a3 a4 a5 h = _ by
        unfold f_X5_copy
        rw [cY 8 g1 (by decide), cY 8 g2 (by decide), C.g6, bd_ok, C.ls hp, bd_ok, bd_ok, C.ls hq, bd_ok, inv_ok (C.sh hp).1, s_hasP (C.sh hp) pO hP pv, ob_ok, inv_ok (C.sh hq).1, s_hasP (C.sh hq) qO hP qv, ob_ok, gI_ok (C.sh hp).1, bd_ok, pv.1, gI_ok (C.sh hq).1, bd_ok, qv.1, bd_ok, bd_ok]
      have ca := fun h1 (R : RR h1 71 w) => show f_X6_copy 71 (nI p) (nI q) a3 a4 a5 h1 = _ by
        have r0 : gR 6 0 71 h1 = some 72 := R.md.r 0 1 8 (by decide) rfl
        have l0 : lI 72 (nI p) h1 = some (nI (wS w p).1) := by rw [R.l (f := 0) (o := 1) (by decide) hp rfl]; exact congrArg some (R.sh hp).1
        have l1 : lI 72 (nI q) h1 = some (nI (wS w q).1) := by rw [R.l (f := 0) (o := 1) (by decide) hq rfl]; exact congrArg some (R.sh hq).1
        unfold f_X6_copy
        rewrite [rY 7 g1, rY 7 g2]
        simp only [r0, l0, l1, Option.bind_some]
        rfl
      have p2 : (nI (wS w p).1 = 2) ↔ (wS w p).1 = 2 := nIe (b := 2) (by omega) (by decide)
      have q2 : (nI (wS w q).1 = 2) ↔ (wS w q).1 = 2 := nIe (b := 2) (by omega) (by decide)
      have p1 : (nI (wS w p).1 = 1) ↔ (wS w p).1 = 1 := nIe (b := 1) (by omega) (by decide)
      have q1 : (nI (wS w q).1 = 1) ↔ (wS w q).1 = 1 := nIe (b := 1) (by omega) (by decide)
      have p0 : (nI (wS w p).1 = 0) ↔ (wS w p).1 = 0 := nIe (b := 0) (by omega) (by decide)
      have q0 : (nI (wS w q).1 = 0) ↔ (wS w q).1 = 0 := nIe (b := 0) (by omega) (by decide)
      by_cases c1 : (wS w p).1 = 2
      · refine no_both W (i := 1) (by decide) (v := -3) (by decide) (by decide) (ha.trans ?_) (fun h1 R => (ca h1 R).trans ?_)
        · rw [if_pos c1, if_neg (by decide)]
        · rw [if_pos (p2.mpr c1)]
      by_cases c2 : (wS w q).1 = 2
      · refine no_both W (i := 1) (by decide) (v := -3) (by decide) (by decide) (ha.trans ?_) (fun h1 R => (ca h1 R).trans ?_)
        · rw [if_neg c1, if_pos rfl, if_pos c2, if_neg (by decide)]
        · rw [if_neg (fun e => c1 (p2.mp e)), if_pos (q2.mpr c2)]
      by_cases c3 : (wS w p).1 = 0
      · refine no_both W (i := 2) (by decide) (v := -4) (by decide) (by decide) (ha.trans ?_) (fun h1 R => (ca h1 R).trans ?_)
        · rw [if_neg c1, if_pos rfl, if_neg c2, if_pos rfl, if_pos (pn.mpr c3)]
        · rw [if_neg (fun e => c1 (p2.mp e)), if_neg (fun e => c2 (q2.mp e)), if_neg (fun e => by have := p1.mp e; omega), if_pos (p0.mpr c3)]
      have e1 : (wS w p).1 = 1 := by omega
      by_cases c4 : (wS w q).1 = 0
      · refine no_both W (i := 2) (by decide) (v := -4) (by decide) (by decide) (ha.trans ?_) (fun h1 R => (ca h1 R).trans ?_)
        · rw [if_neg c1, if_pos rfl, if_neg c2, if_pos rfl, if_neg (fun e => c3 (pn.mp e)), if_pos (qn.mpr c4)]
        · rw [if_neg (fun e => c1 (p2.mp e)), if_neg (fun e => c2 (q2.mp e)), if_pos (p1.mpr e1), if_neg (fun e => by have := q1.mp e; omega), if_neg (fun e => c3 (p0.mp e)), if_pos (q0.mpr c4)]
      have e2 : (wS w q).1 = 1 := by omega
      obtain ⟨pz, pr⟩ := pv.2 e1
      obtain ⟨qz, qr⟩ := qv.2 e2
      obtain ⟨pk, ps⟩ := pO.2.1 e1
      obtain ⟨qk, qs⟩ := qO.2.1 e2
      have ck : (nI (wS w p).2.1 = nI (wS w q).2.1) ↔ (wS w p).2.1 = (wS w q).2.1 := nIe (by omega) (by omega)
      have hb := ha
      rw [if_neg c1, if_pos rfl, if_neg c2, if_pos rfl, if_neg (fun e => c3 (pn.mp e)), if_neg (fun e => c4 (qn.mp e)), show cnt (wS w p) = nI (wS w p).2.1 by unfold cnt; rw [if_neg c3, if_pos e1], show cnt (wS w q) = nI (wS w q).2.1 by unfold cnt; rw [if_neg c4, if_pos e2]] at hb
      have cb := fun h1 (R : RR h1 71 w) => show f_X6_copy 71 (nI p) (nI q) a3 a4 a5 h1 = _ by
        have r1 : gR 6 1 71 h1 = some 73 := R.md.r 1 2 8 (by decide) rfl
        have l0 : lI 73 (nI p) h1 = some (nI (wS w p).2.1) := by rw [R.l (f := 1) (o := 2) (by decide) hp rfl]; exact congrArg some ((R.sh hp).2.1 e1).1
        have l1 : lI 73 (nI q) h1 = some (nI (wS w q).2.1) := by rw [R.l (f := 1) (o := 2) (by decide) hq rfl]; exact congrArg some ((R.sh hq).2.1 e2).1
        have r2 : gR 6 2 71 h1 = some 74 := R.md.r 2 3 8 (by decide) rfl
        have m0 : lI 74 (nI p) h1 = some (nI (wS w p).2.2.1) := by rw [R.l (f := 2) (o := 3) (by decide) hp rfl]; exact congrArg some ((R.sh hp).2.1 e1).2.1
        have m1 : lI 74 (nI q) h1 = some (nI (wS w q).2.2.1) := by rw [R.l (f := 2) (o := 3) (by decide) hq rfl]; exact congrArg some ((R.sh hq).2.1 e2).2.1
        rewrite [ca h1 R, if_neg (fun e => c1 (p2.mp e)), if_neg (fun e => c2 (q2.mp e)), if_pos (p1.mpr e1), if_pos (q1.mpr e2), if_neg (fun e => c3 (p0.mp e)), if_neg (fun e => c4 (q0.mp e))]
        simp only [r1, l0, l1, r2, m0, m1, Option.bind_some]
        rfl
      by_cases c5 : (wS w p).2.1 = (wS w q).2.1
      · have hd := hb
        rw [if_pos (ck.mpr c5), inv_ok (C.sh hp).1, s_lacks (C.sh hp) ps pz, ob_ok] at hd
        have hl : lkB (wS w p).2.2.1 a3 a5 = true ∨ lkB (wS w q).2.2.1 a4 a5 = true → f_X5_copy 0 (nI p) (nI q) a3 a4 a5 h = ob (inv 5 0 h (f_X5_refuse 0 (-2) h)) fun x h => some (x, h) := by
          intro g
          by_cases g2 : lkB (wS w p).2.2.1 a3 a5 = true
          · rw [hd, if_pos g2, if_neg (by decide)]
          · rw [hd, if_neg g2, if_pos rfl, inv_ok (C.sh hq).1, s_lacks (C.sh hq) qs qz, ob_ok, if_pos (g.resolve_left g2), if_neg (by decide)]
        have z0 : (0 : Int32).toInt = 0 := rfl
        have pt : (nI (wS w p).2.2.1).toInt = (wS w p).2.2.1 := nI_toInt (by omega)
        have qt : (nI (wS w q).2.2.1).toInt = (wS w q).2.2.1 := nI_toInt (by omega)
        have cd := fun h1 R => (cb h1 R).trans (if_pos (ck.mpr c5))
        by_cases f1 : a5 < 0
        · refine bad W (hl (Or.inl ?_)) (fun h1 R => (cd h1 R).trans (if_pos f1))
          rw [Int32.lt_iff_toInt_lt, z0] at f1
          unfold lkB
          simp
          omega
        have cd := fun h1 R => (cd h1 R).trans (if_neg f1)
        by_cases f2 : a3 < 0
        · refine bad W (hl (Or.inl ?_)) (fun h1 R => (cd h1 R).trans (if_pos f2))
          rw [Int32.lt_iff_toInt_lt, z0] at f2
          unfold lkB
          simp
          omega
        have cd := fun h1 R => (cd h1 R).trans (if_neg f2)
        by_cases f3 : a4 < 0
        · refine bad W (hl (Or.inr ?_)) (fun h1 R => (cd h1 R).trans (if_pos f3))
          rw [Int32.lt_iff_toInt_lt, z0] at f3
          unfold lkB
          simp
          omega
        have cd := fun h1 R => (cd h1 R).trans (if_neg f3)
        rw [Int32.lt_iff_toInt_lt, z0] at f1 f2 f3
        by_cases f4 : nI (wS w p).2.2.1 < a5
        · refine bad W (hl (Or.inl ?_)) (fun h1 R => (cd h1 R).trans (if_pos f4))
          rw [Int32.lt_iff_toInt_lt, pt] at f4
          unfold lkB
          simp
          omega
        have cd := fun h1 R => (cd h1 R).trans (if_neg f4)
        by_cases f5 : nI (wS w q).2.2.1 < a5
        · refine bad W (hl (Or.inr ?_)) (fun h1 R => (cd h1 R).trans (if_pos f5))
          rw [Int32.lt_iff_toInt_lt, qt] at f5
          unfold lkB
          simp
          omega
        have cd := fun h1 R => (cd h1 R).trans (if_neg f5)
        rw [Int32.lt_iff_toInt_lt, pt] at f4
        rw [Int32.lt_iff_toInt_lt, qt] at f5
        have dp : (nI (wS w p).2.2.1 - a5).toInt = (wS w p).2.2.1 - a5.toInt := by
          rw [Int32.toInt_sub, pt]
          exact Int.bmod_eq_of_le (by omega) (by omega)
        have dq : (nI (wS w q).2.2.1 - a5).toInt = (wS w q).2.2.1 - a5.toInt := by
          rw [Int32.toInt_sub, qt]
          exact Int.bmod_eq_of_le (by omega) (by omega)
        by_cases f6 : nI (wS w p).2.2.1 - a5 < a3
        · refine bad W (hl (Or.inl ?_)) (fun h1 R => (cd h1 R).trans (if_pos f6))
          rw [Int32.lt_iff_toInt_lt, dp] at f6
          unfold lkB
          simp
          omega
        have cd := fun h1 R => (cd h1 R).trans (if_neg f6)
        by_cases f7 : a4 ≤ nI (wS w q).2.2.1 - a5
        · have cd := fun h1 R => (cd h1 R).trans (if_pos f7)
          rw [Int32.lt_iff_toInt_lt, dp] at f6
          rw [Int32.le_iff_toInt_le, dq] at f7
          obtain ⟨i, hi, rfl⟩ := inR_is (v := a3) (n := 41) ⟨by omega, by omega⟩
          obtain ⟨j, hj, rfl⟩ := inR_is (v := a4) (n := 41) ⟨by omega, by omega⟩
          obtain ⟨n, hn, rfl⟩ := inR_is (v := a5) (n := 41) ⟨by omega, by omega⟩
          rw [nI_toInt (by omega)] at f1 f2 f3 f4 f5 f6 f7
          rw [nI_toInt (by omega)] at f6 f7
          have k1 : i + n ≤ 40 := by omega
          have k2 : j + n ≤ 40 := by omega
          refine both W (nI n) (wUS w q (1, (wS w q).2.1, (wS w q).2.2.1, va_cpy (wS w p).2.2.2 (wS w q).2.2.2 i j n)) (OkW_shelf O ⟨show (1 : Nat) ≤ 2 by decide, fun _ => ⟨qk, qs⟩, fun e => absurd (show (1 : Nat) = 2 from e) (by decide)⟩) ?_ (fun h1 R => ?_)
          · have l1 : ¬ lkB (wS w p).2.2.1 (nI i) (nI n) = true := by
              unfold lkB
              rw [nI_toInt (by omega), nI_toInt (by omega)]
              simp
              omega
            have l2 : ¬ lkB (wS w q).2.2.1 (nI j) (nI n) = true := by
              unfold lkB
              rw [nI_toInt (by omega), nI_toInt (by omega)]
              simp
              omega
            rw [hd, if_neg l1, if_pos rfl, inv_ok (C.sh hq).1, s_lacks (C.sh hq) qs qz, ob_ok, if_neg l2, if_pos rfl, (C.sh hp).r, bd_ok, (C.sh hq).r, bd_ok, cpJ_ok (C.sh hp).2.2 (C.sh hq).2.2 k1 k2, bd_ok]
            refine Ret.mk (V.shelf hq (FrS.wj (55 + 2 * q) h _) ⟨qv.1.trans ?_, fun _ => ⟨qz, fun t ht => ?_⟩⟩)
            · show cnt (wS w q) = nI (wS w q).2.1
              unfold cnt
              rw [if_neg c4, if_pos e2]
            · rw [hJ_w]
              show va_cpy _ _ i j n t = va_cpy _ _ i j n t
              unfold va_cpy
              by_cases g : j ≤ t ∧ t < j + n
              · rw [if_pos g, if_pos g]
                exact pr _ (by omega)
              · rw [if_neg g, if_neg g]
                exact qr t ht
          · rw [cd h1 R]
            have tp := ((R.sh hp).2.1 e1).2.2
            obtain ⟨tk, tz, tq⟩ := (R.sh hq).2.1 e2
            refine Ret.loop (lp := lp_X6_copy_191 71 (nI p) (nI q) (nI i) (nI j) (nI n) _) (fun t g => FSr q h1 g ∧ hI g = hI h1 ∧ (∀ b, b ≠ 84 → hJ g b = hJ h1 b) ∧ ∀ k, k < t → hJ g 84 k = (wS w p).2.2.2 (i + k)) n (by omega) ⟨FSr.rf _ _, rfl, fun _ _ => rfl, fun k hk => absurd hk (by omega)⟩ ?_ ?_
            · rintro z t g ht ⟨F, eI, eJ, eR⟩ kk
              have M := F.md R.md
              show Ret (lb_X6_copy_191 71 _ _ _ _ _ _ _ _ g) _ _
              unfold lb_X6_copy_191
              rw [iN ht (by omega), gR_ok M.1 M.2.2.2.2.2.2.1, bd_ok, M.g3 (b := 75) rfl, bd_ok, M.lr hp rfl (d := 76 + p) rfl, bd_ok, nI_add, lJ_ok (M.la hp (b := 76 + p) rfl) (by omega) (by decide), bd_ok, sJ_ok (b := 71 + 13) M.2.2.2.2.2.2.2 (by omega) (by decide), bd_ok, nI1]
              refine kk _ ⟨F.tr (FSr.wj (Or.inr rfl)), eI, fun b hb => (hJ_wn _ _ hb).trans (eJ b hb), fun k hk => ?_⟩
              rw [hJ_w]
              by_cases e : k = t
              · rw [e, pk_uLs, eJ _ (by omega)]
                exact tp _ (by omega)
              · rw [pk_uLn e]
                exact eR k (by omega)
            · rintro z g ⟨F, eI, eJ, eR⟩
              show Ret (lb_X6_copy_191 71 _ _ _ _ _ _ _ _ g) _ _
              unfold lb_X6_copy_191
              rw [iY (by omega)]
              refine Ret.loop (lp := lp_X6_copy_225 71 (nI q) (nI j) (nI n) _) (fun t u => FSr q h1 u ∧ hI u = hI h1 ∧ hJ u 84 = hJ g 84 ∧ ∀ k, k < 40 → hJ u (76 + q) k = va_cpy (wS w p).2.2.2 (wS w q).2.2.2 i j t k) n (by omega) ⟨F, eI, rfl, fun k hk => ?_⟩ ?_ ?_
              · unfold va_cpy
                rw [if_neg (by omega), eJ _ (by omega)]
                exact tq k hk
              · rintro z t u ht ⟨F2, uI, u4, uR⟩ kk
                have M := F2.md R.md
                show Ret (lb_X6_copy_225 71 _ _ _ _ _ _ u) _ _
                unfold lb_X6_copy_225
                rw [iN ht (by omega), M.g3 (b := 75) rfl, bd_ok, M.lr hq rfl (d := 76 + q) rfl, bd_ok, gR_ok M.1 M.2.2.2.2.2.2.1, bd_ok, lJ_ok (b := 71 + 13) M.2.2.2.2.2.2.2 (by omega) (by decide), bd_ok, nI_add, sJ_ok (M.la hq (b := 76 + q) rfl) (by omega) (by decide), bd_ok, nI1]
                refine kk _ ⟨F2.tr (FSr.wj (Or.inl rfl)), uI, (hJ_wn _ _ (by omega)).trans u4, fun k hk => ?_⟩
                rw [hJ_w]
                by_cases e : k = j + t
                · rw [e, pk_uLs, u4, eR t ht]
                  unfold va_cpy
                  rw [if_pos (by omega), show i + (j + t - j) = i + t by omega]
                · rw [pk_uLn e, uR k hk]
                  unfold va_cpy
                  by_cases g : j ≤ k ∧ k < j + t
                  · rw [if_pos g, if_pos (by omega)]
                  · rw [if_neg g, if_neg (by omega)]
              · rintro z u ⟨F2, uI, u4, uR⟩
                show Ret (lb_X6_copy_225 71 _ _ _ _ _ _ u) _ _
                unfold lb_X6_copy_225
                rw [iY (by omega)]
                exact Ret.mk (R.shelf hq F2 ⟨by rw [uI]; exact (R.sh hq).1.trans (congrArg nI e2), fun _ => ⟨by rw [uI]; exact tk, by rw [uI]; exact tz, uR⟩, fun e => absurd (show (1 : Nat) = 2 from e) (by decide)⟩)
        · refine bad W (hl (Or.inr ?_)) (fun h1 R => (cd h1 R).trans (if_neg f7))
          rw [Int32.le_iff_toInt_le, dq] at f7
          unfold lkB
          simp
          omega
      · refine no_both W (i := 1) (by decide) (v := -3) (by decide) (by decide) (hb.trans ?_) (fun h1 R => (cb h1 R).trans ?_)
        · rw [if_neg (fun e => c5 (ck.mp e))]
        · rw [if_neg (fun e => c5 (ck.mp e))]
    · refine bad W ?_ (fun h1 R => ?_)
      · unfold f_X5_copy
        rw [cY 8 g1 (by decide), cN 8 g2 (by decide)]
      · unfold f_X6_copy
        rw [rY 7 g1, rN 7 g2]
  · refine bad W ?_ (fun h1 R => ?_)
    · unfold f_X5_copy
      rw [cN 8 g1 (by decide)]
    · unfold f_X6_copy
      rw [rN 7 g1]
end COPY
