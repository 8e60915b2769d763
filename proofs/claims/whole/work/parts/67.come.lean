/-! BOTH SIDES: what comes of it -/
theorem CV.scr {h h' : HP} {w : Wd} {a n : Nat} (V : CV h w) (F : Fr a n h h') (h1 : 23 ≤ a) (h2 : a + n ≤ 50) : FC h h' ∧ CV h' w := by
  obtain ⟨v1, v2, v3, v4, v5, v6, v7⟩ := V
  have e : ∀ q, (q < a ∨ a + n ≤ q) → hI h' q = hI h q := F.2.2.2.2.2
  exact ⟨F.C (by omega), v1.keep (fun q _ hq => e q (by omega)), fun y hy => (v2 y hy).keep (fun q _ hq => e q (by omega)), by rw [e 0 (by omega)]; exact v3, v4.keep (e 51 (by omega)), by rw [e 50 (by omega)]; exact v5, fun s hs => (v6 s hs).keep (e _ (by omega)) (by rw [F.2.2.2.2.1]), fun i hi => by rw [e 54 (by omega)]; exact v7 i hi⟩
theorem Ret.scr {α : Type} {h : HP} {w : Wd} {a n : Nat} {o : Option (α × HP)} {v : α} (V : CV h w) (h1 : 23 ≤ a) (h2 : a + n ≤ 50) (r : Ret o v (fun h' => Fr a n h h')) : Ret o v (fun h' => FC h h' ∧ CV h' w) := r.mono fun h' F => V.scr F h1 h2
/-- none if never -/
def nvI (n : Nat) : Int32 := if n < 61 then nI n else -1
theorem c_never {h : HP} {n : Nat} (hn : n ≤ 61) : f_X5_noneIfNever (nI n) h = some (nvI n, h) := by
  unfold f_X5_noneIfNever nvI
  by_cases q : n < 61
  · rw [if_pos q, if_neg (show ¬ nI n = 61 from eqN (m := 61) (by omega) (by decide) (by omega))]
  · rw [if_neg q, if_pos (show nI n = 61 by rw [show n = 61 by omega]; rfl)]
theorem r_never {h : HP} {n : Nat} (hn : n ≤ 61) : f_X6_never (nI n) h = some (nvI n, h) := by
  unfold f_X6_never nvI
  by_cases q : n < 61
  · rw [if_pos q, if_pos (show nI n ≤ 60 from leY (b := 60) (by omega) (by decide))]
  · rw [if_neg q, if_neg (show ¬ nI n ≤ 60 from leN (m := n) (b := 60) (by omega) (by omega))]
section COME
variable {h : HP} {w : Wd}
theorem al_lostIn (W : WI h w) (a1 : Int32) : Alk (f_X5_lostIn 0 a1) (f_X6_lostIn 71 a1) h := by
  obtain ⟨O, C, V, -⟩ := id W
  by_cases g1 : inR a1 (sS (wX w))
  · obtain ⟨s, hs, rfl⟩ := inR_is g1
    have hl := loss_le (wX w) s
    refine both W (nvI (loss (wX w) s)) w O ?_ (fun h1 R => ?_)
    · unfold f_X5_lostIn
      rw [cSY C V O g1, C.g3, bd_ok, C.g0, bd_ok]
      refine Ret.icall C.O.1 (Ret.scr V (by decide) (by decide) (s_lossIn C.O C.I O.1 V.1 (by decide) hs)) fun h2 q => ?_
      rw [c_never hl, ob_ok]
      exact Ret.mk q
    · unfold f_X6_lostIn
      rw [rSY R O g1]
      refine Ret.icall R.md.1 (r_lostNow O R hs) fun h2 ⟨k, T, S, _, _⟩ => ?_
      rw [r_never hl, ob_ok]
      exact Ret.mk ⟨T.R, S.1⟩
  · refine bad W ?_ (fun h1 R => ?_)
    · unfold f_X5_lostIn
      rw [cSN C V O g1]
    · unfold f_X6_lostIn
      rw [rSN R O g1]
theorem al_last (W : WI h w) (a1 : Int32) : Alk (f_X5_last 0 a1) (f_X6_last 71 a1) h := by
  obtain ⟨O, C, V, -⟩ := id W
  have hS := O.1.2.1
  by_cases g1 : inR a1 (sS (wX w))
  · obtain ⟨s, hs, rfl⟩ := inR_is g1
    have hs7 : s < ln 7 := by show s < 6; omega
    have b7 : sA (wX w) 7 s < 3 := O.1.b 7 s (by decide) hs7
    have hl := loss_le (wX w) s
    refine both W (lastV (wX w) s) w O ?_ (fun h1 R => ?_)
    · unfold f_X5_last
      rw [cSY C V O g1, C.g3, bd_ok, C.g0, bd_ok]
      exact Ret.icall C.O.1 (Ret.scr V (by decide) (by decide) (s_last C.O C.I O.1 V.1 (by decide) hs)) fun h2 q => Ret.mk q
    · unfold f_X6_last
      rw [rSY R O g1, R.md.rk 7 (by decide) rfl rfl, bd_ok, R_ld R.md R.v 7 (by decide) hs7 rfl, bd_ok]
      unfold lastV
      by_cases q0 : sA (wX w) 7 s = 0
      · have l0 : 0 < loss (wX w) s := by
          have sp := fstN_spec (lsP (wX w) s) 61
          apply Classical.byContradiction
          intro g
          have e : fstN (lsP (wX w) s) 61 = 0 := by unfold loss at g; omega
          have := sp.2.2 (by omega)
          rw [e] at this
          exact of_decide_eq_true this q0
        rw [if_pos (show nI (sA (wX w) 7 s) = 0 by rw [q0]; rfl), if_pos q0]
        refine Ret.icall R.md.1 (r_lostNow O R hs) fun h2 ⟨k, T, S, e27, had⟩ => ?_
        by_cases q : loss (wX w) s < 61
        · rw [if_pos q, if_pos (show nI (loss (wX w) s) ≤ 60 from leY (b := 60) (by omega) (by decide)), gR_ok T.R.md.1 e27, bd_ok, gI_ok T.k.2.1, bd_ok, had l0]
          exact Ret.mk ⟨T.R, S.1⟩
        · rw [if_neg q, if_neg (show ¬ nI (loss (wX w) s) ≤ 60 from leN (b := 60) (by omega) (by omega))]
          exact Ret.mk ⟨T.R, S.1⟩
      · rw [if_neg (show ¬ nI (sA (wX w) 7 s) = 0 from eqN (m := 0) q0 (by decide) (by omega)), if_neg q0]
        exact Ret.mk ⟨R, Sm.rf _ _⟩
  · refine bad W ?_ (fun h1 R => ?_)
    · unfold f_X5_last
      rw [cSN C V O g1]
    · unfold f_X6_last
      rw [rSN R O g1]
/-- the first within sixty, or none -/
theorem fst_at {P : Nat → Bool} {i : Nat} (hi : i ≤ 60) (hno : ∀ j, j < i → ¬ P j = true) (hy : i < 60 → P i = true) : nvI (fstN P 61) = if P i = true then nI i else -1 := by
  by_cases q : P i = true
  · rw [fstN_is (P := P) (n := 61) (k := i) (by omega) hno (fun _ => q), if_pos q]
    unfold nvI
    rw [if_pos (by omega)]
  · have : i = 60 := by
      apply Classical.byContradiction
      intro g
      exact q (hy (by omega))
    subst this
    rw [fstN_is (P := P) (n := 61) (k := 61) (Nat.le_refl _) (fun j hj => by
      by_cases e : j = 60
      · rw [e]; exact q
      · exact hno j (by omega)) (fun g => absurd g (by omega)), if_neg q]
    rfl
theorem al_sungIn (W : WI h w) (a1 : Int32) : Alk (f_X5_sungIn 0 a1) (f_X6_sungIn 71 a1) h := by
  obtain ⟨O, C, V, -⟩ := id W
  have hS := O.1.2.1
  by_cases g1 : inR a1 (sS (wX w))
  · obtain ⟨s, hs, rfl⟩ := inR_is g1
    have hs7 : s < ln 7 := by show s < 6; omega
    refine both W (nvI (fstN (sgP (wX w) s) 61)) w O ?_ (fun h1 R => ?_)
    · unfold f_X5_sungIn
      rw [cSY C V O g1, C.g3, bd_ok, C.g0, bd_ok]
      refine Ret.icall C.O.1 (Ret.scr V (by decide) (by decide) (s_findIn C.O C.I O.1 V.1 (by decide) hs)) fun h2 q => ?_
      rw [c_never (fstN_spec _ _).1, ob_ok]
      exact Ret.mk q
    · unfold f_X6_sungIn
      rw [rSY R O g1]
      obtain ⟨k, rt⟩ := r_thought O R
      refine Ret.icall R.md.1 rt fun h2 ⟨T, V2, S⟩ => ?_
      have en : ∀ {i : Nat} {q : HP}, i ≤ 60 → RT q 71 k w → VR q k (yN (wX w) i) → Sm 71 h1 q → (∀ j, j < i → ¬ sgP (wX w) s j = true) → (i < 60 → sgP (wX w) s i = true) → Ret ((gR 6 21 k q).bind fun x50 => (lI x50 (nI s) q).bind fun x54 => if x54 = 2 then some (nI i, q) else some ((-1), q)) (nvI (fstN (sgP (wX w) s) 61)) (fun h2 => RR h2 71 w ∧ Sm 71 h1 h2) := by
        intro i q hi T V S hno hy
        have b7 : sA (yN (wX w) i) 7 s < 3 := (Ok_yN O.1 i).b 7 s (by decide) hs7
        rw [fst_at hi hno hy, T.k.2.rk 7 (by decide) rfl rfl, bd_ok, R_ld T.k.2 V 7 (by decide) hs7 rfl, bd_ok]
        by_cases g : sA (yN (wX w) i) 7 s = 2
        · rw [if_pos (show nI (sA (yN (wX w) i) 7 s) = 2 by rw [g]; rfl), if_pos (show sgP (wX w) s i = true from decide_eq_true g)]
          exact Ret.mk ⟨T.R, S⟩
        · rw [if_neg (show ¬ nI (sA (yN (wX w) i) 7 s) = 2 from eqN (m := 2) g (by decide) (by omega)), if_neg (show ¬ sgP (wX w) s i = true from fun e => g (of_decide_eq_true e))]
          exact Ret.mk ⟨T.R, S⟩
      refine Ret.loop (lp := lp_X6_sungIn_22 (nI s) k _) (fun i q => RT q 71 k w ∧ VR q k (yN (wX w) i) ∧ Sm 71 h1 q ∧ ∀ j, j < i → ¬ sgP (wX w) s j = true) 60 (by decide) ⟨T, V2, S.1, fun j hj => absurd hj (by omega)⟩ ?_ ?_
      · rintro t i q hi ⟨T, V3, S, hno⟩ kk
        have b7 : sA (yN (wX w) i) 7 s < 3 := (Ok_yN O.1 i).b 7 s (by decide) hs7
        show Ret (lb_X6_sungIn_22 (nI s) k _ _ _ q) _ _
        unfold lb_X6_sungIn_22
        rw [if_neg (show ¬ (60 : Int32) ≤ nI i from leN (m := 60) hi (by decide)), T.k.2.rk 7 (by decide) rfl rfl, bd_ok, R_ld T.k.2 V3 7 (by decide) hs7 rfl, bd_ok, nI1]
        by_cases g : sA (yN (wX w) i) 7 s = 2
        · rw [if_pos (show nI (sA (yN (wX w) i) 7 s) = 2 by rw [g]; rfl)]
          exact en (by omega) T V3 S hno (fun _ => decide_eq_true g)
        · rw [if_neg (show ¬ nI (sA (yN (wX w) i) 7 s) = 2 from eqN (m := 2) g (by decide) (by omega))]
          refine Ret.icall T.k.2.1 (r_passes T.k.2 (Ok_yN O.1 i) V3) fun h3 ⟨F3, V4⟩ => ?_
          obtain ⟨T4, S4⟩ := T.fr F3.1
          refine kk h3 ⟨T4, V4, S.tr S4.1, fun j hj => ?_⟩
          by_cases e : j = i
          · rw [e]; exact fun e => g (of_decide_eq_true e)
          · exact hno j (by omega)
      · rintro t q ⟨T, V3, S, hno⟩
        show Ret (lb_X6_sungIn_22 (nI s) k _ _ _ q) _ _
        unfold lb_X6_sungIn_22
        rw [if_pos (show (60 : Int32) ≤ nI 60 by decide)]
        exact en (Nat.le_refl _) T V3 S hno (fun g => absurd g (by omega))
  · refine bad W ?_ (fun h1 R => ?_)
    · unfold f_X5_sungIn
      rw [cSN C V O g1]
    · unfold f_X6_sungIn
      rw [rSN R O g1]
theorem fgP_has (x : St) (p s i : Nat) : fgP x p s i = true ↔ ¬ has (yN x i) p s = true := by
  unfold fgP has
  simp
theorem al_forgets (W : WI h w) (a1 a2 : Int32) : Alk (f_X5_forgets 0 a1 a2) (f_X6_forgets 71 a1 a2) h := by
  obtain ⟨O, C, V, -⟩ := id W
  by_cases g1 : inR a1 (sP (wX w))
  · by_cases g2 : inR a2 (sS (wX w))
    · obtain ⟨p, hp, rfl⟩ := inR_is g1
      obtain ⟨s, hs, rfl⟩ := inR_is g2
      have hp' : ∀ i, p < sP (yN (wX w) i) := fun i => by rw [sP_yN]; exact hp
      have hs' : ∀ i, s < sS (yN (wX w) i) := fun i => by rw [sS_yN]; exact hs
      refine both W (nvI (fstN (fgP (wX w) p s) 61)) w O ?_ (fun h1 R => ?_)
      · unfold f_X5_forgets
        rw [cPY C V O g1, cSY C V O g2, C.g3, bd_ok, C.g0, bd_ok]
        refine Ret.icall C.O.1 (Ret.scr V (by decide) (by decide) (s_forgetIn C.O C.I O.1 V.1 (by decide) hp hs)) fun h2 q => ?_
        rw [c_never (fstN_spec _ _).1, ob_ok]
        exact Ret.mk q
      · unfold f_X6_forgets
        rw [rPY R O g1, rSY R O g2]
        obtain ⟨k, rt⟩ := r_thought O R
        refine Ret.icall R.md.1 rt fun h2 ⟨T, V2, S⟩ => ?_
        have en : ∀ {i : Nat} {q : HP}, i ≤ 60 → RT q 71 k w → VR q k (yN (wX w) i) → Sm 71 h1 q → (∀ j, j < i → ¬ fgP (wX w) p s j = true) → (i < 60 → fgP (wX w) p s i = true) → Ret (ob (inv 6 k q (f_X6_knowsIt k (nI p) (nI s) q)) fun x61 h61 => if x61 = 0 then some (nI i, h61) else some ((-1), h61)) (nvI (fstN (fgP (wX w) p s) 61)) (fun h2 => RR h2 71 w ∧ Sm 71 h1 h2) := by
          intro i q hi T V S hno hy
          rw [fst_at hi hno hy, inv_ok T.k.2.1, r_knows T.k.2 (Ok_yN O.1 i) V (hp' i) (hs' i), ob_ok]
          by_cases g : has (yN (wX w) i) p s = true
          · rw [if_pos g, if_neg (by decide), if_neg (fun e => (fgP_has _ _ _ _).mp e g)]
            exact Ret.mk ⟨T.R, S⟩
          · rw [if_neg g, if_pos rfl, if_pos ((fgP_has _ _ _ _).mpr g)]
            exact Ret.mk ⟨T.R, S⟩
        refine Ret.loop (lp := lp_X6_forgets_31 (nI p) (nI s) k _) (fun i q => RT q 71 k w ∧ VR q k (yN (wX w) i) ∧ Sm 71 h1 q ∧ ∀ j, j < i → ¬ fgP (wX w) p s j = true) 60 (by decide) ⟨T, V2, S.1, fun j hj => absurd hj (by omega)⟩ ?_ ?_
        · rintro t i q hi ⟨T, V3, S, hno⟩ kk
          show Ret (lb_X6_forgets_31 (nI p) (nI s) k _ _ _ q) _ _
          unfold lb_X6_forgets_31
          rw [if_neg (show ¬ (60 : Int32) ≤ nI i from leN (m := 60) hi (by decide)), inv_ok T.k.2.1, r_knows T.k.2 (Ok_yN O.1 i) V3 (hp' i) (hs' i), ob_ok, nI1]
          by_cases g : has (yN (wX w) i) p s = true
          · rw [if_pos g, if_neg (by decide)]
            refine Ret.icall T.k.2.1 (r_passes T.k.2 (Ok_yN O.1 i) V3) fun h3 ⟨F3, V4⟩ => ?_
            obtain ⟨T4, S4⟩ := T.fr F3.1
            refine kk h3 ⟨T4, V4, S.tr S4.1, fun j hj => ?_⟩
            by_cases e : j = i
            · rw [e]; exact fun e => (fgP_has _ _ _ _).mp e g
            · exact hno j (by omega)
          · rw [if_neg g, if_pos rfl]
            exact en (by omega) T V3 S hno (fun _ => (fgP_has _ _ _ _).mpr g)
        · rintro t q ⟨T, V3, S, hno⟩
          show Ret (lb_X6_forgets_31 (nI p) (nI s) k _ _ _ q) _ _
          unfold lb_X6_forgets_31
          rw [if_pos (show (60 : Int32) ≤ nI 60 by decide)]
          exact en (Nat.le_refl _) T V3 S hno (fun g => absurd g (by omega))
    · refine bad W ?_ (fun h1 R => ?_)
      · unfold f_X5_forgets
        rw [cPY C V O g1, cSN C V O g2]
      · unfold f_X6_forgets
        rw [rPY R O g1, rSN R O g2]
  · refine bad W ?_ (fun h1 R => ?_)
    · unfold f_X5_forgets
      rw [cPN C V O g1]
    · unfold f_X6_forgets
      rw [rPN R O g1]
theorem al_behind (W : WI h w) (a1 a2 a3 : Int32) : Alk (f_X5_behind 0 a1 a2 a3) (f_X6_behind 71 a1 a2 a3) h := by
  obtain ⟨O, C, V, -⟩ := id W
  have hS := O.1.2.1
  by_cases g1 : inR a1 (sS (wX w))
  · by_cases g2 : inR a2 61
    · by_cases g3 : inR a3 3
      · obtain ⟨s, hs, rfl⟩ := inR_is g1
        obtain ⟨n, hn, rfl⟩ := inR_is g2
        obtain ⟨k, hk, rfl⟩ := inR_is g3
        have Oy := Ok_yN O.1 n
        have hs' : s < sS (yN (wX w) n) := by rw [sS_yN]; exact hs
        have hs7 : s < ln 7 := by show s < 6; omega
        refine both W (if k = 0 then nI (havN (yN (wX w) n) s) else if k = 1 then nI (sA (yN (wX w) n) 7 s) else nI (knoN (yN (wX w) n))) w O ?_ (fun h1 R => ?_)
        · unfold f_X5_behind
          rw [cSY C V O g1, cY 61 g2 (by decide), cY 3 g3 (by decide), C.g3, bd_ok, C.g0, bd_ok]
          refine Ret.icall C.O.1 (s_after C.O C.I O.1 V.1 (by decide) (by omega)) fun h2 ⟨F2, V2⟩ => ?_
          have q2 := V.scr F2 (by decide) (by decide)
          have I2 : IsI h2 35 := F2.I C.O.I
          have hc : k = 0 ∨ k = 1 ∨ k = 2 := by omega
          rcases hc with rfl | rfl | rfl
          · rw [if_pos (by decide), if_pos (by decide), inv_ok I2.1, s_havers I2 Oy V2 hs', ob_ok]
            exact Ret.mk q2
          · rw [if_neg (by decide), if_pos (by decide), if_neg (by decide), if_pos (by decide), I2.r 7 (by decide) rfl rfl, bd_ok, I_ld I2 V2 7 (by decide) hs7 rfl, bd_ok]
            exact Ret.mk q2
          · rw [if_neg (by decide), if_neg (by decide), if_neg (by decide), if_neg (by decide), inv_ok I2.1, s_known I2 Oy V2, ob_ok]
            exact Ret.mk q2
        · unfold f_X6_behind
          rw [rSY R O g1, rY 60 g2, rY 2 g3]
          obtain ⟨b, rt⟩ := r_thought O R
          refine Ret.icall R.md.1 rt fun h2 ⟨T, V2, S⟩ => ?_
          refine Ret.loop (lp := lp_X6_behind_48 (nI s) (nI n) (nI k) b _) (fun i q => RT q 71 b w ∧ VR q b (yN (wX w) i) ∧ Sm 71 h1 q) n (by omega) ⟨T, V2, S.1⟩ ?_ ?_
          · rintro t i q hi ⟨T, V3, S⟩ kk
            show Ret (lb_X6_behind_48 _ _ _ b _ _ _ q) _ _
            unfold lb_X6_behind_48
            rw [iN hi (by omega), nI1]
            refine Ret.icall T.k.2.1 (r_passes T.k.2 (Ok_yN O.1 i) V3) fun h3 ⟨F3, V4⟩ => ?_
            obtain ⟨T4, S4⟩ := T.fr F3.1
            exact kk h3 ⟨T4, V4, S.tr S4.1⟩
          · rintro t q ⟨T, V3, S⟩
            show Ret (lb_X6_behind_48 _ _ _ b _ _ _ q) _ _
            unfold lb_X6_behind_48
            rw [iY (by omega)]
            have hc : k = 0 ∨ k = 1 ∨ k = 2 := by omega
            rcases hc with rfl | rfl | rfl
            · show Ret (if nI 0 = 0 then _ else _) _ _
              rw [if_pos (by decide), if_pos (by decide), inv_ok T.k.2.1, r_holdersOf T.k.2 Oy V3 hs', ob_ok]
              exact Ret.mk ⟨T.R, S⟩
            · show Ret (if nI 1 = 0 then _ else _) _ _
              rw [if_neg (by decide), if_pos (by decide), if_neg (by decide), if_pos (by decide), T.k.2.rk 7 (by decide) rfl rfl, bd_ok, R_ld T.k.2 V3 7 (by decide) hs7 rfl, bd_ok]
              exact Ret.mk ⟨T.R, S⟩
            · show Ret (if nI 2 = 0 then _ else _) _ _
              rw [if_neg (by decide), if_neg (by decide), if_neg (by decide), if_neg (by decide), inv_ok T.k.2.1, r_known T.k.2 Oy V3, ob_ok]
              exact Ret.mk ⟨T.R, S⟩
      · refine bad W ?_ (fun h1 R => ?_)
        · unfold f_X5_behind
          rw [cSY C V O g1, cY 61 g2 (by decide), cN 3 g3 (by decide)]
        · unfold f_X6_behind
          rw [rSY R O g1, rY 60 g2, rN 2 g3]
    · refine bad W ?_ (fun h1 R => ?_)
      · unfold f_X5_behind
        rw [cSY C V O g1, cN 61 g2 (by decide)]
      · unfold f_X6_behind
        rw [rSY R O g1, rN 60 g2]
  · refine bad W ?_ (fun h1 R => ?_)
    · unfold f_X5_behind
      rw [cSN C V O g1]
    · unfold f_X6_behind
      rw [rSN R O g1]
end COME
