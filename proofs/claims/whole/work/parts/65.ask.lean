/-! BOTH SIDES: what is so now -/
theorem CI.g0 {h : HP} (C : CI h) : gR 5 0 0 h = some 1 := gR_ok C.1 C.2.1.1
theorem CI.g1 {h : HP} (C : CI h) : gR 5 1 0 h = some 12 := gR_ok C.1 C.2.1.2.1
theorem CI.g2 {h : HP} (C : CI h) : gR 5 2 0 h = some 23 := gR_ok C.1 C.2.1.2.2.1
theorem CI.g3 {h : HP} (C : CI h) : gR 5 3 0 h = some 34 := gR_ok C.1 C.2.1.2.2.2.1
theorem CI.g4 {h : HP} (C : CI h) : gR 5 4 0 h = some 47 := gR_ok C.1 C.2.1.2.2.2.2.1
theorem CI.g5 {h : HP} (C : CI h) : gR 5 5 0 h = some 50 := gR_ok C.1 C.2.1.2.2.2.2.2.1
theorem CI.g6 {h : HP} (C : CI h) : gR 5 6 0 h = some 53 := gR_ok C.1 C.2.1.2.2.2.2.2.2.1
theorem CI.g7 {h : HP} (C : CI h) : gR 5 7 0 h = some 54 := gR_ok C.1 C.2.1.2.2.2.2.2.2.2
theorem CI.I {h : HP} (C : CI h) : IsI h 1 := C.2.2.1
theorem CI.K {h : HP} (C : CI h) : IsI h 12 := C.2.2.2.1
theorem CI.D {h : HP} (C : CI h) : IsI h 23 := C.2.2.2.2.1
theorem CI.O {h : HP} (C : CI h) : OutI h 34 := C.2.2.2.2.2.1
theorem CI.U {h : HP} (C : CI h) : TunI h 47 := C.2.2.2.2.2.2.1
theorem CI.Rd {h : HP} (C : CI h) : RdI h 50 := C.2.2.2.2.2.2.2.1
theorem CI.sh {h : HP} (C : CI h) {s : Nat} (hs : s < 8) : ShI h (55 + 2 * s) := (C.2.2.2.2.2.2.2.2.2.1 s hs).2
theorem CI.ls {h : HP} (C : CI h) {s : Nat} (hs : s < 8) : lR 9 53 (nI s) h = some (55 + 2 * s) := by
  have c9 := C.2.2.2.2.2.2.2.2.1
  have o : oC 9 h 53 = true := by unfold oC; rw [c9.2]; simp [c9.1]
  unfold lR
  rw [if_pos ⟨o, by rw [c9.2]; exact vpiN hs (by decide)⟩, tcN (by omega)]
  exact (C.2.2.2.2.2.2.2.2.2.1 s hs).1
theorem out_ne {v : Int32} {n k : Nat} (g : ¬ inR v n) (hk : k < n) (hn : n ≤ 1000) : ¬ v = nI k := by
  rintro rfl
  exact g ((inR_n (by omega)).mpr hk)
section ASK
variable {h : HP} {w : Wd}
theorem both_q {α : Type} {f g : HP → Option (α × HP)} (W : WI h w) (v : α) (ha : f h = some (v, h)) (hb : ∀ h1, RR h1 71 w → g h1 = some (v, h1)) : Alk f g h :=
  both W v w W.1 (Ret.pure ha ⟨FC.rf h, W.2.2.1⟩) (fun h1 R => Ret.pure (hb h1 R) ⟨R, Sm.rf _ _⟩)
theorem al_finder (W : WI h w) : Alk (f_X5_finder 0) (f_X6_finder 71) h := by
  obtain ⟨O, C, V, -⟩ := id W
  refine both_q W (hv (besN (wX w))) ?_ (fun h1 R => ?_)
  · unfold f_X5_finder
    rw [C.g0, bd_ok, inv_ok C.I.1, s_best C.I O.1 V.1, ob_ok]
  · unfold f_X6_finder
    rw [inv_ok R.md.1, r_finds R.md O.1 R.v, ob_ok]
theorem al_personOf (W : WI h w) (a1 a2 : Int32) : Alk (f_X5_personOf 0 a1 a2) (f_X6_personOf 71 a1 a2) h := by
  obtain ⟨O, C, V, -⟩ := id W
  have hP := O.1.1
  by_cases g1 : inR a1 (sP (wX w))
  · by_cases g2 : inR a2 7
    · obtain ⟨p, hp, rfl⟩ := inR_is g1
      obtain ⟨k, hk, rfl⟩ := inR_is g2
      have hp8 : p < 8 := by omega
      have ca := fun h1 (R : RR h1 71 w) => show f_X6_personOf 71 (nI p) (nI k) h1 = _ by
        unfold f_X6_personOf
        rw [rPY R O g1, rY 6 g2]
      have ha := show f_X5_personOf 0 (nI p) (nI k) h = _ by
        unfold f_X5_personOf
        rw [cPY C V O g1]
      have hc : k = 0 ∨ k = 1 ∨ k = 2 ∨ k = 3 ∨ k = 4 ∨ k = 5 ∨ k = 6 := by omega
      rcases hc with rfl | rfl | rfl | rfl | rfl | rfl | rfl
      · refine both_q W (nI (sA (wX w) 0 p)) (ha.trans ?_) (fun h1 R => (ca h1 R).trans ?_)
        · rw [if_pos (by decide), C.g0, bd_ok, C.I.r 0 (by decide) rfl rfl, bd_ok, I_ld C.I V.1 0 (by decide) hp8 rfl, bd_ok]
        · rw [if_pos (by decide), R.md.rk 0 (by decide) rfl rfl, bd_ok, R_ld R.md R.v 0 (by decide) hp8 rfl, bd_ok]
      · refine both_q W (nI (sA (wX w) 1 p)) (ha.trans ?_) (fun h1 R => (ca h1 R).trans ?_)
        · rw [if_neg (by decide), if_pos (by decide), C.g0, bd_ok, C.I.r 1 (by decide) rfl rfl, bd_ok, I_ld C.I V.1 1 (by decide) hp8 rfl, bd_ok]
        · rw [if_neg (by decide), if_pos (by decide), R.md.rk 1 (by decide) rfl rfl, bd_ok, R_ld R.md R.v 1 (by decide) hp8 rfl, bd_ok]
      · refine both_q W (nI (sA (wX w) 2 p)) (ha.trans ?_) (fun h1 R => (ca h1 R).trans ?_)
        · rw [if_neg (by decide), if_neg (by decide), if_pos (by decide), C.g0, bd_ok, C.I.r 2 (by decide) rfl rfl, bd_ok, I_ld C.I V.1 2 (by decide) hp8 rfl, bd_ok]
        · rw [if_neg (by decide), if_neg (by decide), if_pos (by decide), R.md.rk 2 (by decide) rfl rfl, bd_ok, R_ld R.md R.v 2 (by decide) hp8 rfl, bd_ok]
      · refine both_q W (nI (sA (wX w) 3 p)) (ha.trans ?_) (fun h1 R => (ca h1 R).trans ?_)
        · rw [if_neg (by decide), if_neg (by decide), if_neg (by decide), if_pos (by decide), C.g0, bd_ok, C.I.r 3 (by decide) rfl rfl, bd_ok, I_ld C.I V.1 3 (by decide) hp8 rfl, bd_ok]
        · rw [if_neg (by decide), if_neg (by decide), if_neg (by decide), if_pos (by decide), R.md.rk 3 (by decide) rfl rfl, bd_ok, R_ld R.md R.v 3 (by decide) hp8 rfl, bd_ok]
      · refine both_q W (nI (tb (sV (wX w) 5) p)) (ha.trans ?_) (fun h1 R => (ca h1 R).trans ?_)
        · rw [if_neg (by decide), if_neg (by decide), if_neg (by decide), if_neg (by decide), if_pos (by decide), C.g0, bd_ok, gI_ok C.I.1, bd_ok, V.1.hm, bit_tst p hp8 _ O.1.2.2.2.2.1]
        · rw [if_neg (by decide), if_neg (by decide), if_neg (by decide), if_neg (by decide), if_pos (by decide), R.v.gh R.md, bd_ok, bit_tst p hp8 _ O.1.2.2.2.2.1]
      · refine both_q W (nI (sA (wX w) 4 p)) (ha.trans ?_) (fun h1 R => (ca h1 R).trans ?_)
        · rw [if_neg (by decide), if_neg (by decide), if_neg (by decide), if_neg (by decide), if_neg (by decide), if_pos (by decide), C.g0, bd_ok, C.I.r 4 (by decide) rfl rfl, bd_ok, I_ld C.I V.1 4 (by decide) hp8 rfl, bd_ok]
        · rw [if_neg (by decide), if_neg (by decide), if_neg (by decide), if_neg (by decide), if_neg (by decide), if_pos (by decide), R.md.rk 4 (by decide) rfl rfl, bd_ok, R_ld R.md R.v 4 (by decide) hp8 rfl, bd_ok]
      · refine both_q W (nI (repN (wX w) p)) (ha.trans ?_) (fun h1 R => (ca h1 R).trans ?_)
        · rw [if_neg (by decide), if_neg (by decide), if_neg (by decide), if_neg (by decide), if_neg (by decide), if_neg (by decide), if_pos (by decide), C.g0, bd_ok, inv_ok C.I.1, s_repertoire C.I O.1 V.1 hp, ob_ok]
        · rw [if_neg (by decide), if_neg (by decide), if_neg (by decide), if_neg (by decide), if_neg (by decide), if_neg (by decide), inv_ok R.md.1, r_songsOf R.md O.1 R.v hp, ob_ok]
    · refine bad W ?_ (fun h1 R => ?_)
      · unfold f_X5_personOf
        rw [cPY C V O g1, if_neg (show ¬ a2 = 0 from out_ne (k := 0) g2 (by decide) (by decide)), if_neg (show ¬ a2 = 1 from out_ne (k := 1) g2 (by decide) (by decide)), if_neg (show ¬ a2 = 2 from out_ne (k := 2) g2 (by decide) (by decide)), if_neg (show ¬ a2 = 3 from out_ne (k := 3) g2 (by decide) (by decide)), if_neg (show ¬ a2 = 4 from out_ne (k := 4) g2 (by decide) (by decide)), if_neg (show ¬ a2 = 5 from out_ne (k := 5) g2 (by decide) (by decide)), if_neg (show ¬ a2 = 6 from out_ne (k := 6) g2 (by decide) (by decide))]
      · unfold f_X6_personOf
        rw [rPY R O g1, rN 6 g2]
  · refine bad W ?_ (fun h1 R => ?_)
    · unfold f_X5_personOf
      rw [cPN C V O g1]
    · unfold f_X6_personOf
      rw [rPN R O g1]
theorem al_songOf (W : WI h w) (a1 a2 : Int32) : Alk (f_X5_songOf 0 a1 a2) (f_X6_songOf 71 a1 a2) h := by
  obtain ⟨O, C, V, -⟩ := id W
  have hS := O.1.2.1
  by_cases g1 : inR a1 (sS (wX w))
  · by_cases g2 : inR a2 5
    · obtain ⟨p, hp, rfl⟩ := inR_is g1
      obtain ⟨k, hk, rfl⟩ := inR_is g2
      have hp6 : p < 6 := by omega
      have ca := fun h1 (R : RR h1 71 w) => show f_X6_songOf 71 (nI p) (nI k) h1 = _ by
        unfold f_X6_songOf
        rw [rSY R O g1, rY 4 g2]
      have ha := show f_X5_songOf 0 (nI p) (nI k) h = _ by
        unfold f_X5_songOf
        rw [cSY C V O g1]
      have hc : k = 0 ∨ k = 1 ∨ k = 2 ∨ k = 3 ∨ k = 4 := by omega
      rcases hc with rfl | rfl | rfl | rfl | rfl
      · refine both_q W (nI (sA (wX w) 5 p)) (ha.trans ?_) (fun h1 R => (ca h1 R).trans ?_)
        · rw [if_pos (by decide), C.g0, bd_ok, C.I.r 5 (by decide) rfl rfl, bd_ok, I_ld C.I V.1 5 (by decide) hp6 rfl, bd_ok]
        · rw [if_pos (by decide), R.md.rk 5 (by decide) rfl rfl, bd_ok, R_ld R.md R.v 5 (by decide) hp6 rfl, bd_ok]
      · refine both_q W (nI (sA (wX w) 6 p)) (ha.trans ?_) (fun h1 R => (ca h1 R).trans ?_)
        · rw [if_neg (by decide), if_pos (by decide), C.g0, bd_ok, C.I.r 6 (by decide) rfl rfl, bd_ok, I_ld C.I V.1 6 (by decide) hp6 rfl, bd_ok]
        · rw [if_neg (by decide), if_pos (by decide), R.md.rk 6 (by decide) rfl rfl, bd_ok, R_ld R.md R.v 6 (by decide) hp6 rfl, bd_ok]
      · refine both_q W (nI (sA (wX w) 7 p)) (ha.trans ?_) (fun h1 R => (ca h1 R).trans ?_)
        · rw [if_neg (by decide), if_neg (by decide), if_pos (by decide), C.g0, bd_ok, C.I.r 7 (by decide) rfl rfl, bd_ok, I_ld C.I V.1 7 (by decide) hp6 rfl, bd_ok]
        · rw [if_neg (by decide), if_neg (by decide), if_pos (by decide), R.md.rk 7 (by decide) rfl rfl, bd_ok, R_ld R.md R.v 7 (by decide) hp6 rfl, bd_ok]
      · refine both_q W (nI (havN (wX w) p)) (ha.trans ?_) (fun h1 R => (ca h1 R).trans ?_)
        · rw [if_neg (by decide), if_neg (by decide), if_neg (by decide), if_pos (by decide), C.g0, bd_ok, inv_ok C.I.1, s_havers C.I O.1 V.1 hp, ob_ok]
        · rw [if_neg (by decide), if_neg (by decide), if_neg (by decide), if_pos (by decide), inv_ok R.md.1, r_holdersOf R.md O.1 R.v hp, ob_ok]
      · refine both_q W (nI (dgN (tuF (wX w) p) 8)) (ha.trans ?_) (fun h1 R => (ca h1 R).trans ?_)
        · rw [if_neg (by decide), if_neg (by decide), if_neg (by decide), if_neg (by decide), if_pos (by decide), C.g4, bd_ok, C.g0, bd_ok, inv_ok C.U.1, s_digits C.I O.1 V.1 hp, ob_ok]
        · rw [if_neg (by decide), if_neg (by decide), if_neg (by decide), if_neg (by decide), inv_ok R.md.1, r_tuneOf R.md O.1 R.v hp, ob_ok]
    · refine bad W ?_ (fun h1 R => ?_)
      · unfold f_X5_songOf
        rw [cSY C V O g1, if_neg (show ¬ a2 = 0 from out_ne (k := 0) g2 (by decide) (by decide)), if_neg (show ¬ a2 = 1 from out_ne (k := 1) g2 (by decide) (by decide)), if_neg (show ¬ a2 = 2 from out_ne (k := 2) g2 (by decide) (by decide)), if_neg (show ¬ a2 = 3 from out_ne (k := 3) g2 (by decide) (by decide)), if_neg (show ¬ a2 = 4 from out_ne (k := 4) g2 (by decide) (by decide))]
      · unfold f_X6_songOf
        rw [rSY R O g1, rN 4 g2]
  · refine bad W ?_ (fun h1 R => ?_)
    · unfold f_X5_songOf
      rw [cSN C V O g1]
    · unfold f_X6_songOf
      rw [rSN R O g1]
theorem al_years (W : WI h w) (a1 a2 : Int32) : Alk (f_X5_years 0 a1 a2) (f_X6_years 71 a1 a2) h := by
  obtain ⟨O, C, V, -⟩ := id W
  by_cases g1 : inR a1 (sP (wX w))
  · by_cases g2 : inR a2 (sS (wX w))
    · obtain ⟨p, hp, rfl⟩ := inR_is g1
      obtain ⟨s, hs, rfl⟩ := inR_is g2
      have hb := O.1.h hp hs
      have ca := fun h1 (R : RR h1 71 w) => show f_X6_years 71 (nI p) (nI s) h1 = _ by
        unfold f_X6_years
        rw [rPY R O g1, rSY R O g2, inv_ok R.md.1, r_knows R.md O.1 R.v hp hs, ob_ok]
      have ha := show f_X5_years 0 (nI p) (nI s) h = _ by
        unfold f_X5_years
        rw [cPY C V O g1, cSY C V O g2, C.g0, bd_ok, inv_ok C.I.1, s_heldFor C.I O.1 V.1 hp hs, ob_ok]
      by_cases q : has (wX w) p s = true
      · refine both_q W (hv (sA (wX w) 9 (p * 6 + s))) (ha.trans ?_) (fun h1 R => (ca h1 R).trans ?_)
        · rw [if_neg (by rw [has_iff O.1 hp hs]; exact fun e => e q)]
        · rw [if_pos q, if_neg (by decide), R.md.rk 9 (by decide) rfl rfl, bd_ok, R_has R.md O.1 R.v hp hs, bd_ok]
      · refine both_q W 100 (ha.trans ?_) (fun h1 R => (ca h1 R).trans ?_)
        · rw [if_pos ((has_iff O.1 hp hs).mpr q)]
        · rw [if_neg q, if_pos rfl]
    · refine bad W ?_ (fun h1 R => ?_)
      · unfold f_X5_years
        rw [cPY C V O g1, cSN C V O g2]
      · unfold f_X6_years
        rw [rPY R O g1, rSN R O g2]
  · refine bad W ?_ (fun h1 R => ?_)
    · unfold f_X5_years
      rw [cPN C V O g1]
    · unfold f_X6_years
      rw [rPN R O g1]
theorem al_hold (W : WI h w) (a1 a2 : Int32) : Alk (f_X5_hold 0 a1 a2) (f_X6_hold 71 a1 a2) h := by
  obtain ⟨O, C, V, -⟩ := id W
  have hS := O.1.2.1
  by_cases g1 : inR a1 (sP (wX w))
  · by_cases g2 : inR a2 (sS (wX w))
    · obtain ⟨p, hp, rfl⟩ := inR_is g1
      obtain ⟨s, hs, rfl⟩ := inR_is g2
      have hs6 : s < ln 5 := by show s < 6; omega
      refine both_q W (nI (holdN (wX w) p (sA (wX w) 5 s))) ?_ (fun h1 R => ?_)
      · unfold f_X5_hold
        rw [cPY C V O g1, cSY C V O g2, C.g0, bd_ok, bd_ok, C.I.r 5 (by decide) rfl rfl, bd_ok, I_ld C.I V.1 5 (by decide) hs6 rfl, bd_ok, inv_ok C.I.1, s_hold C.I O.1 V.1 hp (O.1.b 5 s (by decide) hs6), ob_ok]
      · unfold f_X6_hold
        rw [rPY R O g1, rSY R O g2, inv_ok R.md.1, r_holdOf R.md O.1 R.v hp hs, ob_ok]
    · refine bad W ?_ (fun h1 R => ?_)
      · unfold f_X5_hold
        rw [cPY C V O g1, cSN C V O g2]
      · unfold f_X6_hold
        rw [rPY R O g1, rSN R O g2]
  · refine bad W ?_ (fun h1 R => ?_)
    · unfold f_X5_hold
      rw [cPN C V O g1]
    · unfold f_X6_hold
      rw [rPN R O g1]
theorem al_songs (W : WI h w) (a1 : Int32) : Alk (f_X5_songs 0 a1) (f_X6_songs 71 a1) h := by
  obtain ⟨O, C, V, -⟩ := id W
  have hS := O.1.2.1
  by_cases g1 : inR a1 4
  · obtain ⟨k, hk, rfl⟩ := inR_is g1
    have lp : ∀ h1, RR h1 71 w → ∀ {K : Int32 → HP → Option (Int32 × HP)}, lp_X6_songs_23 71 (nI k) K 1000 0 0 h1 = K (nI (bsN (fun s => decide (nI (sA (wX w) 7 s) = nI k - 1)) (sS (wX w)))) h1 := by
      intro h1 R K
      refine loop_acc (lp := lp_X6_songs_23 71 (nI k) K) (sS (wX w)) (by omega) (fun i => nI (bsN (fun s => decide (nI (sA (wX w) 7 s) = nI k - 1)) i)) h1 (K := K) (fun t => ?_) (fun t i hi => ?_)
      · show lb_X6_songs_23 71 (nI k) _ _ _ _ h1 = _
        unfold lb_X6_songs_23
        rw [R.v.gs R.md, bd_ok, iY (by omega)]
      · show lb_X6_songs_23 71 (nI k) _ _ _ _ h1 = _
        unfold lb_X6_songs_23
        have hi6 : i < ln 7 := by show i < 6; omega
        rw [R.v.gs R.md, bd_ok, iN hi (by omega), R.md.rk 7 (by decide) rfl rfl, bd_ok, R_ld R.md R.v 7 (by decide) hi6 rfl, bd_ok, nI1, or_z]
        by_cases q : nI (sA (wX w) 7 i) = nI k - 1
        · rw [if_pos q, bs_or (f := fun s => decide (nI (sA (wX w) 7 s) = nI k - 1)) (by omega) (decide_eq_true q)]
        · rw [if_neg q, bs_no (f := fun s => decide (nI (sA (wX w) 7 s) = nI k - 1)) (by simpa using q)]
    have ca := fun h1 (R : RR h1 71 w) => show f_X6_songs 71 (nI k) h1 = _ by
      unfold f_X6_songs
      rw [rY 3 g1, lp h1 R]
    by_cases q : k = 0
    · subst q
      refine both_q W (nI (knoN (wX w))) ?_ (fun h1 R => (ca h1 R).trans ?_)
      · unfold f_X5_songs
        rw [cY 4 g1 (by decide), if_pos (by decide), C.g0, bd_ok, inv_ok C.I.1, s_known C.I O.1 V.1, ob_ok]
      · rw [if_pos (by decide), inv_ok R.md.1, r_known R.md O.1 R.v, ob_ok]
    · have qn : ¬ nI k = 0 := by rw [nI0 (by omega)]; exact q
      have e : nI k - 1 = nI (k - 1) := pk_sub (b := 1) (by omega)
      refine both_q W (nI (staN (wX w) (k - 1))) ?_ (fun h1 R => (ca h1 R).trans ?_)
      · unfold f_X5_songs
        rw [cY 4 g1 (by decide), if_neg qn, C.g0, bd_ok, inv_ok C.I.1, e, s_ofState C.I O.1 V.1 (by omega), ob_ok]
      · rw [if_neg qn, e]
        have : bsN (fun s => decide (nI (sA (wX w) 7 s) = nI (k - 1))) (sS (wX w)) = staN (wX w) (k - 1) := by
          unfold staN
          refine bsN_congr _ (fun s hs => ?_)
          have b7 : sA (wX w) 7 s < 3 := O.1.b 7 s (by decide) (by show s < 6; omega)
          rw [decide_eq_decide]
          exact nIe (by omega) (by omega)
        rw [this]
  · refine bad W ?_ (fun h1 R => ?_)
    · unfold f_X5_songs
      rw [cN 4 g1 (by decide)]
    · unfold f_X6_songs
      rw [rN 3 g1]
theorem rep_sub (x : St) : ∀ n p, p < n → repN x p &&& kacc x n = repN x p
  | 0, p, hp => absurd hp (by omega)
  | n + 1, p, hp => by
    show repN x p &&& (kacc x n ||| repN x n) = repN x p
    by_cases q : p = n
    · subst q
      apply Nat.eq_of_testBit_eq
      intro i
      rw [Nat.testBit_and, Nat.testBit_or]
      cases (repN x p).testBit i <;> simp
    · have ih := rep_sub x n p (by omega)
      apply Nat.eq_of_testBit_eq
      intro i
      have e := congrArg (fun z => Nat.testBit z i) ih
      rw [Nat.testBit_and] at e
      rw [Nat.testBit_and, Nat.testBit_or]
      cases h1 : (repN x p).testBit i <;> simp_all
theorem al_people (W : WI h w) (a1 : Int32) : Alk (f_X5_people 0 a1) (f_X6_people 71 a1) h := by
  obtain ⟨O, C, V, -⟩ := id W
  have hP := O.1.1
  by_cases g1 : inR a1 2
  · obtain ⟨k, hk, rfl⟩ := inR_is g1
    have hkn := knoN_lt O.1
    have lp : ∀ h1, RR h1 71 w → ∀ {K : Int32 → HP → Option (Int32 × HP)}, lp_X6_people_27 71 (nI k) (nI (knoN (wX w))) K 1000 0 0 h1 = K (nI (bsN (fun p => decide (repN (wX w) p = if k = 0 then 0 else knoN (wX w))) (sP (wX w)))) h1 := by
      intro h1 R K
      refine loop_acc (lp := lp_X6_people_27 71 (nI k) (nI (knoN (wX w))) K) (sP (wX w)) (by omega) (fun i => nI (bsN (fun p => decide (repN (wX w) p = if k = 0 then 0 else knoN (wX w))) i)) h1 (K := K) (fun t => ?_) (fun t i hi => ?_)
      · show lb_X6_people_27 71 (nI k) _ _ _ _ _ h1 = _
        unfold lb_X6_people_27
        rw [R.v.gp R.md, bd_ok, iY (by omega)]
      · show lb_X6_people_27 71 (nI k) _ _ _ _ _ h1 = _
        unfold lb_X6_people_27
        have hr := repN_lt O.1 i
        rw [R.v.gp R.md, bd_ok, iN hi (by omega), inv_ok R.md.1, r_songsOf R.md O.1 R.v hi, ob_ok, nI1, or_z]
        have hc : k = 0 ∨ k = 1 := by omega
        rcases hc with rfl | rfl
        · rw [if_pos (show nI 0 = 0 from rfl)]
          by_cases q : repN (wX w) i = 0
          · rw [if_pos ((nI0 (by omega)).mpr q), bs_or (f := fun p => decide (repN (wX w) p = if 0 = 0 then 0 else knoN (wX w))) (by omega) (decide_eq_true q)]
          · rw [if_neg (by rw [nI0 (by omega)]; exact q), bs_no (f := fun p => decide (repN (wX w) p = if 0 = 0 then 0 else knoN (wX w))) (by simpa using q)]
        · rw [if_neg (by decide)]
          by_cases q : repN (wX w) i = knoN (wX w)
          · rw [if_pos (congrArg nI q), bs_or (f := fun p => decide (repN (wX w) p = if 1 = 0 then 0 else knoN (wX w))) (by omega) (decide_eq_true q)]
          · rw [if_neg (by rw [nIe (by omega) (by omega)]; exact q), bs_no (f := fun p => decide (repN (wX w) p = if 1 = 0 then 0 else knoN (wX w))) (by simpa using q)]
    have ca := fun h1 (R : RR h1 71 w) => show f_X6_people 71 (nI k) h1 = _ by
      unfold f_X6_people
      rw [rY 1 g1, inv_ok R.md.1, r_known R.md O.1 R.v, ob_ok, lp h1 R]
    have hc : k = 0 ∨ k = 1 := by omega
    rcases hc with rfl | rfl
    · refine both_q W (nI (nonN (wX w))) ?_ ca
      unfold f_X5_people
      rw [cY 2 g1 (by decide), if_pos (by decide), C.g0, bd_ok, inv_ok C.I.1, s_none C.I O.1 V.1, ob_ok]
    · have e : allN (wX w) (knoN (wX w)) = bsN (fun p => decide (repN (wX w) p = if 1 = 0 then 0 else knoN (wX w))) (sP (wX w)) := by
        unfold allN
        refine bsN_congr _ (fun p hp => ?_)
        rw [decide_eq_decide, if_neg (by decide)]
        have := rep_sub (wX w) (sP (wX w)) p hp
        unfold knoN
        rw [this]
      refine both_q W (nI (allN (wX w) (knoN (wX w)))) ?_ (fun h1 R => by rw [e]; exact ca h1 R)
      unfold f_X5_people
      rw [cY 2 g1 (by decide), if_neg (by decide), C.g0, bd_ok, bd_ok, inv_ok C.I.1, s_known C.I O.1 V.1, ob_ok, inv_ok C.I.1, s_all C.I O.1 V.1 hkn, ob_ok]
  · refine bad W ?_ (fun h1 R => ?_)
    · unfold f_X5_people
      rw [cN 2 g1 (by decide)]
    · unfold f_X6_people
      rw [rN 1 g1]
theorem al_both (W : WI h w) (a1 a2 : Int32) : Alk (f_X5_both 0 a1 a2) (f_X6_both 71 a1 a2) h := by
  obtain ⟨O, C, V, -⟩ := id W
  by_cases g1 : inR a1 (sP (wX w))
  · by_cases g2 : inR a2 (sP (wX w))
    · by_cases g3 : a1 = a2
      · refine bad W ?_ (fun h1 R => ?_)
        · unfold f_X5_both
          rw [cPY C V O g1, cPY C V O g2, if_pos g3]
        · unfold f_X6_both
          rw [rPY R O g1, rPY R O g2, if_pos g3]
      · obtain ⟨p, hp, rfl⟩ := inR_is g1
        obtain ⟨q, hq, rfl⟩ := inR_is g2
        refine both_q W (nI (repN (wX w) p &&& repN (wX w) q)) ?_ (fun h1 R => ?_)
        · unfold f_X5_both
          rw [cPY C V O g1, cPY C V O g2, if_neg g3, C.g0, bd_ok, inv_ok C.I.1, s_repertoire C.I O.1 V.1 hp, ob_ok, C.g0, bd_ok, inv_ok C.I.1, s_repertoire C.I O.1 V.1 hq, ob_ok, nI_and]
        · unfold f_X6_both
          rw [rPY R O g1, rPY R O g2, if_neg g3, inv_ok R.md.1, r_songsOf R.md O.1 R.v hp, ob_ok, inv_ok R.md.1, r_songsOf R.md O.1 R.v hq, ob_ok, nI_and]
    · refine bad W ?_ (fun h1 R => ?_)
      · unfold f_X5_both
        rw [cPY C V O g1, cPN C V O g2]
      · unfold f_X6_both
        rw [rPY R O g1, rPN R O g2]
  · refine bad W ?_ (fun h1 R => ?_)
    · unfold f_X5_both
      rw [cPN C V O g1]
    · unfold f_X6_both
      rw [rPN R O g1]
end ASK
