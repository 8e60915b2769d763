/-! BOTH SIDES: changed by hand, in truth (2) -/
theorem r_in2 {v : Int32} (a b : Int64) (h : HP) : f_X6_in v.toInt64 a b h = some (if a.toInt ≤ v.toInt ∧ v.toInt ≤ b.toInt then 1 else 0, h) := by
  unfold f_X6_in
  have ev : v.toInt64.toInt = v.toInt := Int32.toInt_toInt64 v
  by_cases g1 : v.toInt < a.toInt
  · rw [if_pos (cmp_lt.mpr (by rw [ev]; exact g1)), rZ0, if_neg (fun q => by have := q.1; omega)]
  · rw [if_neg (fun q => g1 (by have := cmp_lt.mp q; rw [ev] at this; exact this))]
    by_cases g2 : v.toInt ≤ b.toInt
    · rw [if_neg (fun q => by have := cmp_gt.mp q; rw [ev] at this; omega), rZ1, if_pos ⟨by omega, g2⟩]
    · rw [if_pos (cmp_gt.mpr (by rw [ev]; omega)), rZ0, if_neg (fun q => g2 q.2)]
theorem dec_toInt {v : Int32} : inR (v - 1) 60 ↔ 1 ≤ v.toInt ∧ v.toInt ≤ 60 := by
  have h1 := Int32.le_toInt v
  have h2 := Int32.toInt_lt v
  have e : (v - 1).toInt = (v.toInt - 1).bmod (2 ^ 32) := by
    rw [Int32.toInt_sub]
    rfl
  unfold inR
  rw [e]
  by_cases g : v.toInt = -2 ^ 31
  · rw [g]
    decide
  · rw [Int.bmod_eq_of_le (by omega) (by omega)]
    omega
/-- years drawn -/
def drY (x : St) : Nat → St
  | 0 => x
  | n + 1 => yearS (drS (drY x n))
def drC (x : St) : Nat → Nat
  | 0 => 0
  | n + 1 => drC x n + fndN (yr1 (drS (drY x n))) (sS (drY x n))
theorem drS_P (x : St) : sP (drS x) = sP x := by unfold drS; rw [sP_uA, sP_uD, sP_uD, sP_uV, sP_uD]
theorem drS_S (x : St) : sS (drS x) = sS x := by unfold drS; rw [sS_uA, sS_uD, sS_uD, sS_uV, sS_uD]
theorem sP_year (y : St) : sP (yearS y) = sP y := rfl
theorem sS_year (y : St) : sS (yearS y) = sS y := rfl
theorem drY_P (x : St) : ∀ n, sP (drY x n) = sP x
  | 0 => rfl
  | n + 1 => by
    show sP (yearS (drS (drY x n))) = sP x
    rw [sP_year, drS_P, drY_P x n]
theorem drY_S (x : St) : ∀ n, sS (drY x n) = sS x
  | 0 => rfl
  | n + 1 => by
    show sS (yearS (drS (drY x n))) = sS x
    rw [sS_year, drS_S, drY_S x n]
theorem Ok_drY {x : St} (O : Ok x) : ∀ n, Ok (drY x n)
  | 0 => O
  | n + 1 => Ok_yearS (Ok_drS (Ok_drY O n))
section HAND2
variable {h : HP} {w : Wd}
theorem wUX_2 (w : Wd) (x y : St) : wUX (wUX w x) y = wUX w y := rfl
theorem C_has (C : CI h) (V : CV h w) {p s c : Nat} (hi : p * 6 + s < 48) {u : Int32} (hu : u = hv c) : ∃ h', f_X0_setHeld 1 (nI p) (nI s) u h = some ((), h') ∧ FC h h' ∧ CV h' (wUX w (uA (wX w) 9 (p * 6 + s) c)) := by
  subst hu
  have F : Fr 1 11 h (wI h (1 + 10) (upd (hI h (1 + 10)) (p * 6 + s) (hv c))) := Fr.w (by omega) (by omega)
  exact ⟨_, r_setHeld C.I hi, V.now F (VC_held V.1)⟩
theorem al_mark (W : WI h w) (a1 a2 a3 : Int32) : Alk (f_X5_mark 0 a1 a2 a3) (f_X6_mark 71 a1 a2 a3) h := by
  obtain ⟨O, C, V, -⟩ := id W
  have hS := O.1.2.1
  by_cases g1 : inR a1 (sS (wX w))
  · by_cases g2 : inR a2 3
    · obtain ⟨k, hk, rfl⟩ := inR_is g2
      have hc : k = 0 ∨ k = 1 ∨ k = 2 := by omega
      have ca := fun h1 (R : RR h1 71 w) => show f_X6_mark 71 a1 (nI k) a3 h1 = _ by
        unfold f_X6_mark
        rw [rSY R O g1, rY 2 g2]
      have ha := show f_X5_mark 0 a1 (nI k) a3 h = _ by
        unfold f_X5_mark f_X5_markLimit
        rw [cSY C V O g1, cY 3 g2 (by decide)]
      rcases hc with rfl | rfl | rfl
      · by_cases g3 : inR a3 10
        · obtain ⟨p, hp, rfl⟩ := inR_is g1
          obtain ⟨v, hv3, rfl⟩ := inR_is g3
          have hp6 : p < 6 := by omega
          refine both W (nI (sA (wX w) 5 p)) (wUX w (uA (wX w) 5 p v)) (OkW_now O (Ok_uA O.1 (by decide) (fun _ => hv3)) (Nat.le_refl _)) ?_ (fun h1 R => ?_)
          · obtain ⟨h2, e2, Q2⟩ := C_row C V 5 (by decide) (i := p) (v := v) hp6 (b := 7) rfl
            rw [ha, if_pos (by decide), ob_ok, cY 10 g3 (by decide), if_pos (by decide), C.g0, bd_ok, C.I.r 5 (by decide) rfl rfl, bd_ok, I_ld C.I V.1 5 (by decide) hp6 rfl, bd_ok, e2, bd_ok]
            exact Ret.mk Q2
          · obtain ⟨h2, e2, H2, V2, F2⟩ := W_row R.md R.v 5 (by decide) (i := p) (v := v) hp6 rfl (b := 93) rfl
            obtain ⟨h3, e3, H3, V3, F3⟩ := W_row H2 V2 6 (by decide) (i := p) (v := sA (uA (wX w) 5 p v) 6 p) hp6 rfl (b := 94) rfl
            rw [uA_same rfl] at V3
            obtain ⟨h4, e4, H4, V4, F4⟩ := W_row H3 V3 7 (by decide) (i := p) (v := sA (uA (wX w) 5 p v) 7 p) hp6 rfl (b := 95) rfl
            rw [uA_same rfl] at V4
            rw [ca h1 R, if_pos (by decide), rY 9 g3, R.md.rk 5 (by decide) rfl rfl, bd_ok, R_ld R.md R.v 5 (by decide) hp6 rfl, bd_ok, bd_ok, e2, bd_ok, H2.rk 6 (by decide) rfl rfl, bd_ok, bd_ok, R_ld H2 V2 6 (by decide) hp6 rfl, bd_ok, e3, bd_ok, H3.rk 7 (by decide) rfl rfl, bd_ok, bd_ok, R_ld H3 V3 7 (by decide) hp6 rfl, bd_ok, e4, bd_ok]
            exact Ret.mk (R.now ((F2.w33.tr F3.w33).tr F4.w33) V4)
        · refine bad W ?_ (fun h1 R => ?_)
          · rw [ha, if_pos (by decide), ob_ok, cN 10 g3 (by decide)]
          · rw [ca h1 R, if_pos (by decide), rN 9 g3]
      · by_cases g3 : inR a3 5
        · obtain ⟨p, hp, rfl⟩ := inR_is g1
          obtain ⟨v, hv3, rfl⟩ := inR_is g3
          have hp6 : p < 6 := by omega
          refine both W (nI (sA (wX w) 6 p)) (wUX w (uA (wX w) 6 p v)) (OkW_now O (Ok_uA O.1 (by decide) (fun _ => hv3)) (Nat.le_refl _)) ?_ (fun h1 R => ?_)
          · obtain ⟨h2, e2, Q2⟩ := C_row C V 6 (by decide) (i := p) (v := v) hp6 (b := 8) rfl
            rw [ha, if_neg (by decide), if_pos (by decide), ob_ok, cY 5 g3 (by decide), if_neg (by decide), if_pos (by decide), C.g0, bd_ok, C.I.r 6 (by decide) rfl rfl, bd_ok, I_ld C.I V.1 6 (by decide) hp6 rfl, bd_ok, e2, bd_ok]
            exact Ret.mk Q2
          · obtain ⟨h2, e2, H2, V2, F2⟩ := W_row R.md R.v 5 (by decide) (i := p) (v := sA (wX w) 5 p) hp6 rfl (b := 93) rfl
            rw [uA_same rfl] at V2
            obtain ⟨h3, e3, H3, V3, F3⟩ := W_row H2 V2 6 (by decide) (i := p) (v := v) hp6 rfl (b := 94) rfl
            obtain ⟨h4, e4, H4, V4, F4⟩ := W_row H3 V3 7 (by decide) (i := p) (v := sA (uA (wX w) 6 p v) 7 p) hp6 rfl (b := 95) rfl
            rw [uA_same rfl] at V4
            rw [ca h1 R, if_neg (by decide), if_pos (by decide), rY 4 g3, R.md.rk 6 (by decide) rfl rfl, bd_ok, R_ld R.md R.v 6 (by decide) hp6 rfl, bd_ok, R.md.rk 5 (by decide) rfl rfl, bd_ok, bd_ok, R_ld R.md R.v 5 (by decide) hp6 rfl, bd_ok, e2, bd_ok, H2.rk 6 (by decide) rfl rfl, bd_ok, e3, bd_ok, H3.rk 7 (by decide) rfl rfl, bd_ok, bd_ok, R_ld H3 V3 7 (by decide) hp6 rfl, bd_ok, e4, bd_ok]
            exact Ret.mk (R.now ((F2.w33.tr F3.w33).tr F4.w33) V4)
        · refine bad W ?_ (fun h1 R => ?_)
          · rw [ha, if_neg (by decide), if_pos (by decide), ob_ok, cN 5 g3 (by decide)]
          · rw [ca h1 R, if_neg (by decide), if_pos (by decide), rN 4 g3]
      · by_cases g3 : inR a3 3
        · obtain ⟨p, hp, rfl⟩ := inR_is g1
          obtain ⟨v, hv3, rfl⟩ := inR_is g3
          have hp6 : p < 6 := by omega
          refine both W (nI (sA (wX w) 7 p)) (wUX w (uA (wX w) 7 p v)) (OkW_now O (Ok_uA O.1 (by decide) (fun _ => hv3)) (Nat.le_refl _)) ?_ (fun h1 R => ?_)
          · obtain ⟨h2, e2, Q2⟩ := C_row C V 7 (by decide) (i := p) (v := v) hp6 (b := 9) rfl
            rw [ha, if_neg (by decide), if_neg (by decide), ob_ok, cY 3 g3 (by decide), if_neg (by decide), if_neg (by decide), C.g0, bd_ok, C.I.r 7 (by decide) rfl rfl, bd_ok, I_ld C.I V.1 7 (by decide) hp6 rfl, bd_ok, e2, bd_ok]
            exact Ret.mk Q2
          · obtain ⟨h2, e2, H2, V2, F2⟩ := W_row R.md R.v 5 (by decide) (i := p) (v := sA (wX w) 5 p) hp6 rfl (b := 93) rfl
            rw [uA_same rfl] at V2
            obtain ⟨h3, e3, H3, V3, F3⟩ := W_row H2 V2 6 (by decide) (i := p) (v := sA (wX w) 6 p) hp6 rfl (b := 94) rfl
            rw [uA_same rfl] at V3
            obtain ⟨h4, e4, H4, V4, F4⟩ := W_row H3 V3 7 (by decide) (i := p) (v := v) hp6 rfl (b := 95) rfl
            rw [ca h1 R, if_neg (by decide), if_neg (by decide), rY 2 g3, R.md.rk 7 (by decide) rfl rfl, bd_ok, R_ld R.md R.v 7 (by decide) hp6 rfl, bd_ok, R.md.rk 5 (by decide) rfl rfl, bd_ok, bd_ok, R_ld R.md R.v 5 (by decide) hp6 rfl, bd_ok, e2, bd_ok, H2.rk 6 (by decide) rfl rfl, bd_ok, bd_ok, R_ld H2 V2 6 (by decide) hp6 rfl, bd_ok, e3, bd_ok]
            have r7 : gR 6 21 71 h3 = some 95 := H3.rk 7 (by decide) rfl rfl
            simp only [r7, R_ld H3 V3 7 (by decide) hp6 (b := 95) rfl, e4, Option.bind_some]
            split
            · exact Ret.mk (R.now ((F2.w33.tr F3.w33).tr F4.w33) V4)
            · rename_i q
              exact absurd rfl q
        · refine bad W ?_ (fun h1 R => ?_)
          · rw [ha, if_neg (by decide), if_neg (by decide), ob_ok, cN 3 g3 (by decide)]
          · rw [ca h1 R, if_neg (by decide), if_neg (by decide), rN 2 g3]
    · refine bad W ?_ (fun h1 R => ?_)
      · unfold f_X5_mark
        rw [cSY C V O g1, cN 3 g2 (by decide)]
      · unfold f_X6_mark
        rw [rSY R O g1, rN 2 g2]
  · refine bad W ?_ (fun h1 R => ?_)
    · unfold f_X5_mark
      rw [cSN C V O g1]
    · unfold f_X6_mark
      rw [rSN R O g1]
theorem al_note (W : WI h w) (a1 a2 a3 : Int32) : Alk (f_X5_note 0 a1 a2 a3) (f_X6_note 71 a1 a2 a3) h := by
  obtain ⟨O, C, V, -⟩ := id W
  have hS := O.1.2.1
  by_cases g1 : inR a1 (sS (wX w))
  · by_cases g2 : inR a2 8
    · by_cases g3 : inR a3 5
      · obtain ⟨s, hs, rfl⟩ := inR_is g1
        obtain ⟨i, hi, rfl⟩ := inR_is g2
        obtain ⟨v, hv3, rfl⟩ := inR_is g3
        have h48 : s * 8 + i < ln 8 := by show s * 8 + i < 48; omega
        refine both W (nI (sA (wX w) 8 (s * 8 + i))) (wUX w (uA (wX w) 8 (s * 8 + i) v)) (OkW_now O (Ok_uA O.1 (by decide) (fun _ => hv3)) (Nat.le_refl _)) ?_ (fun h1 R => ?_)
        · obtain ⟨h2, e2, Q2⟩ := C_row C V 8 (by decide) (i := s * 8 + i) (v := v) h48 (b := 10) rfl
          unfold f_X5_note
          rw [cSY C V O g1, cY 8 g2 (by decide), cY 5 g3 (by decide), C.g0, bd_ok, C.I.r 8 (by decide) rfl rfl, bd_ok, idx8, I_ld C.I V.1 8 (by decide) h48 rfl, bd_ok, bd_ok, C.I.r 8 (by decide) rfl rfl, bd_ok, e2, bd_ok]
          exact Ret.mk Q2
        · obtain ⟨h2, e2, H2, V2, F2⟩ := W_row R.md R.v 8 (by decide) (i := s * 8 + i) (v := v) h48 rfl (b := 96) rfl
          unfold f_X6_note
          rw [rSY R O g1, rY 7 g2, rY 4 g3, R.md.rk 8 (by decide) rfl rfl, bd_ok, idx8, R_ld R.md R.v 8 (by decide) h48 rfl, bd_ok, bd_ok, e2, bd_ok]
          exact Ret.mk (R.now F2.w33 V2)
      · refine bad W ?_ (fun h1 R => ?_)
        · unfold f_X5_note
          rw [cSY C V O g1, cY 8 g2 (by decide), cN 5 g3 (by decide)]
        · unfold f_X6_note
          rw [rSY R O g1, rY 7 g2, rN 4 g3]
    · refine bad W ?_ (fun h1 R => ?_)
      · unfold f_X5_note
        rw [cSY C V O g1, cN 8 g2 (by decide)]
      · unfold f_X6_note
        rw [rSY R O g1, rN 7 g2]
  · refine bad W ?_ (fun h1 R => ?_)
    · unfold f_X5_note
      rw [cSN C V O g1]
    · unfold f_X6_note
      rw [rSN R O g1]
theorem al_knows (W : WI h w) (a1 a2 a3 : Int32) : Alk (f_X5_knows 0 a1 a2 a3) (f_X6_knows 71 a1 a2 a3) h := by
  obtain ⟨O, C, V, -⟩ := id W
  by_cases g1 : inR a1 (sP (wX w))
  · by_cases g2 : inR a2 (sS (wX w))
    · obtain ⟨p, hp, rfl⟩ := inR_is g1
      obtain ⟨s, hs, rfl⟩ := inR_is g2
      have hi := O.1.i hp hs
      have em : (-1 : Int64).toInt = -1 := rfl
      have e9 : (99 : Int64).toInt = 99 := rfl
      have m1 : (-1 : Int32).toInt = -1 := rfl
      have yes : ∀ c, c ≤ 100 → a3 = hv c → Alk (f_X5_knows 0 (nI p) (nI s) a3) (f_X6_knows 71 (nI p) (nI s) a3) h := by
        intro c hc e
        have hr : -1 ≤ a3.toInt ∧ a3.toInt ≤ 99 := by
          rw [e, hv_z, zI_toInt (by omega) (by omega)]
          omega
        refine both W (hv (sA (wX w) 9 (p * 6 + s))) (wUX w (uA (wX w) 9 (p * 6 + s) c)) (OkW_now O (Ok_held O.1 hc) (Nat.le_refl _)) ?_ (fun h1 R => ?_)
        · obtain ⟨h2, e2, Q2⟩ := C_has C V (p := p) (s := s) hi e
          have fin : Ret ((gR 5 0 0 h).bind fun x38 => ob (inv 0 x38 h (f_X0_heldFor x38 (nI p) (nI s) h)) fun x43 h43 => (gR 5 0 0 h43).bind fun x49 => ob (inv 0 x49 h43 (f_X0_setHeld x49 (nI p) (nI s) a3 h43)) fun _ h55 => some (x43, h55)) (hv (sA (wX w) 9 (p * 6 + s))) (fun h1 => FC h h1 ∧ CV h1 (wUX w (uA (wX w) 9 (p * 6 + s) c))) := by
            rw [C.g0, bd_ok, inv_ok C.I.1, s_heldFor C.I O.1 V.1 hp hs, ob_ok, C.g0, bd_ok, inv_ok C.I.1, e2, ob_ok]
            exact Ret.mk Q2
          unfold f_X5_knows
          rw [cPY C V O g1, cSY C V O g2]
          by_cases q : a3 = -1
          · rw [if_pos q]
            exact fin
          · have c1 : c ≠ 0 := fun e0 => q (by rw [e, e0]; rfl)
            obtain ⟨c', rfl⟩ : ∃ c', c = c' + 1 := ⟨c - 1, by omega⟩
            rw [if_neg q, cY 100 (n := 100) (by rw [e, hvS]; exact (inR_n (by omega)).mpr (by omega)) (by decide)]
            exact fin
        · obtain ⟨h2, e2, H2, V2, F2⟩ := W_has (c := c) R.md O.1 R.v hp hs e
          unfold f_X6_knows
          rw [rPY R O g1, rSY R O g2, r_in2, em, e9, if_pos hr, ob_ok, if_neg (by decide), R.md.rk 9 (by decide) rfl rfl, bd_ok, R_has R.md O.1 R.v hp hs, bd_ok, bd_ok, e2, bd_ok]
          exact Ret.mk (R.now F2.w33 V2)
      by_cases g3 : a3 = -1
      · exact yes 0 (by decide) g3
      · by_cases g4 : inR a3 100
        · obtain ⟨v, hv3, e⟩ := inR_is g4
          exact yes (v + 1) (by omega) (by rw [e, hvS])
        · refine bad W ?_ (fun h1 R => ?_)
          · unfold f_X5_knows
            rw [cPY C V O g1, cSY C V O g2, if_neg g3, cN 100 g4 (by decide)]
          · unfold f_X6_knows
            rw [rPY R O g1, rSY R O g2, r_in2, em, e9, if_neg (fun q => by
              apply g4
              by_cases g5 : a3.toInt = -1
              · exact absurd (Int32.toInt_inj.mp (g5.trans m1.symm)) g3
              · exact ⟨by omega, by have := q.2; show a3.toInt < ((100 : Nat) : Int); omega⟩), ob_ok, if_pos rfl]
    · refine bad W ?_ (fun h1 R => ?_)
      · unfold f_X5_knows
        rw [cPY C V O g1, cSN C V O g2]
      · unfold f_X6_knows
        rw [rPY R O g1, rSN R O g2]
  · refine bad W ?_ (fun h1 R => ?_)
    · unfold f_X5_knows
      rw [cPN C V O g1]
    · unfold f_X6_knows
      rw [rPN R O g1]
theorem al_seat (W : WI h w) (a1 a2 a3 : Int32) : Alk (f_X5_seat 0 a1 a2 a3) (f_X6_seat 71 a1 a2 a3) h := by
  obtain ⟨O, C, V, -⟩ := id W
  have hP := O.1.1
  by_cases g1 : inR a1 (sP (wX w))
  · by_cases g2 : inR a2 (sP (wX w))
    · by_cases g3 : inR a3 2
      · by_cases g4 : a1 = a2
        · refine bad W ?_ (fun h1 R => ?_)
          · unfold f_X5_seat
            rw [cPY C V O g1, cPY C V O g2, cY 2 g3 (by decide), if_pos g4]
          · unfold f_X6_seat
            rw [rPY R O g1, rPY R O g2, if_pos g4]
        · obtain ⟨p, hp, rfl⟩ := inR_is g1
          obtain ⟨o, ho, rfl⟩ := inR_is g2
          obtain ⟨v, hv3, rfl⟩ := inR_is g3
          have hp8 : p < 8 := by omega
          have ho8 : o < 8 := by omega
          have b4 : sA (wX w) 4 p < 256 := O.1.b 4 p (by decide) hp8
          obtain ⟨is, his⟩ : ∃ is : Bool, v = if is = true then 1 else 0 := ⟨decide (v = 1), by
            by_cases e : v = 1
            · simp [e]
            · simp [e]; omega⟩
          refine both W (nI (tb (sA (wX w) 4 p) o)) (wUX w (besS (wX w) p o is)) (OkW_now O (Ok_besS O.1 hp8 ho8 is) (Nat.le_refl _)) ?_ (fun h1 R => ?_)
          · obtain ⟨h2, e2, F2, V2⟩ := s_setBeside C.I O.1 V.1 hp8 ho8 is
            unfold f_X5_seat
            rw [cPY C V O g1, cPY C V O g2, cY 2 g3 (by decide), if_neg g4, C.g0, bd_ok, C.I.r 4 (by decide) rfl rfl, bd_ok, I_ld C.I V.1 4 (by decide) hp8 rfl, bd_ok, bit_tst o ho8 _ b4, bd_ok]
            subst his
            cases is with
            | true =>
              rw [if_pos (by decide), inv_ok C.I.1, show f_X0_setBeside 1 (nI p) (nI o) 1 h = some ((), h2) from e2, ob_ok]
              exact Ret.mk (V.now F2 V2)
            | false =>
              rw [if_neg (by decide), inv_ok C.I.1, show f_X0_setBeside 1 (nI p) (nI o) 0 h = some ((), h2) from e2, ob_ok]
              exact Ret.mk (V.now F2 V2)
          · have S2 := r_seats R.md O.1 R.v hp8 ho8 is
            unfold f_X6_seat
            rw [rPY R O g1, rPY R O g2, if_neg g4, rY 1 g3, R.md.rk 4 (by decide) rfl rfl, bd_ok, R_ld R.md R.v 4 (by decide) hp8 rfl, bd_ok, bit_tst o ho8 _ b4]
            subst his
            cases is with
            | true =>
              rw [if_pos (by decide)]
              exact Ret.icall R.md.1 S2 fun h2 ⟨F2, V2⟩ => Ret.mk (R.now F2 V2)
            | false =>
              rw [if_neg (by decide)]
              exact Ret.icall R.md.1 S2 fun h2 ⟨F2, V2⟩ => Ret.mk (R.now F2 V2)
      · refine bad W ?_ (fun h1 R => ?_)
        · unfold f_X5_seat
          rw [cPY C V O g1, cPY C V O g2, cN 2 g3 (by decide)]
        · unfold f_X6_seat
          rw [rPY R O g1, rPY R O g2, rN 1 g3]
          split <;> rfl
    · refine bad W ?_ (fun h1 R => ?_)
      · unfold f_X5_seat
        rw [cPY C V O g1, cPN C V O g2]
      · unfold f_X6_seat
        rw [rPY R O g1, rPN R O g2]
  · refine bad W ?_ (fun h1 R => ?_)
    · unfold f_X5_seat
      rw [cPN C V O g1]
    · unfold f_X6_seat
      rw [rPN R O g1]
end HAND2
