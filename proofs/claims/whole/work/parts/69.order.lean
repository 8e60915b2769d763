/-! BOTH SIDES: hummer, next, order, griefs -/
/-- the counting of those ahead: all places are taken -/
theorem plc_mono (L : Nat → Nat) {s r : Nat} (hl : L s < L r ∨ (L s = L r ∧ s < r)) : ∀ n, plcN L s n + (if s < n then 1 else 0) ≤ plcN L r n
  | 0 => by rw [if_neg (by omega)]; exact Nat.le_refl _
  | n + 1 => by
    have ih := plc_mono L hl n
    have e1 : plcN L s (n + 1) = if L n < L s ∨ (L n = L s ∧ n < s) then plcN L s n + 1 else plcN L s n := rfl
    have e2 : plcN L r (n + 1) = if L n < L r ∨ (L n = L r ∧ n < r) then plcN L r n + 1 else plcN L r n := rfl
    rw [e1, e2]
    by_cases q : n = s
    · subst q
      rw [if_neg (by omega), if_pos (by omega), if_pos hl]
      rw [if_neg (by omega)] at ih
      omega
    · by_cases g : L n < L s ∨ (L n = L s ∧ n < s)
      · have g2 : L n < L r ∨ (L n = L r ∧ n < r) := by omega
        rw [if_pos g, if_pos g2]
        by_cases sn : s < n
        · rw [if_pos (show s < n + 1 by omega)]
          rw [if_pos sn] at ih
          omega
        · rw [if_neg (show ¬ s < n + 1 by omega)]
          rw [if_neg sn] at ih
          omega
      · rw [if_neg g]
        have hr : plcN L r n ≤ (if L n < L r ∨ (L n = L r ∧ n < r) then plcN L r n + 1 else plcN L r n) := by split <;> omega
        by_cases sn : s < n
        · rw [if_pos (show s < n + 1 by omega)]
          rw [if_pos sn] at ih
          omega
        · rw [if_neg (show ¬ s < n + 1 by omega)]
          rw [if_neg sn] at ih
          omega
theorem plc_lt (L : Nat → Nat) {s : Nat} : ∀ n, s < n → plcN L s n < n
  | 0, h => absurd h (by omega)
  | n + 1, h => by
    have e1 : plcN L s (n + 1) = if L n < L s ∨ (L n = L s ∧ n < s) then plcN L s n + 1 else plcN L s n := rfl
    rw [e1]
    by_cases q : n = s
    · subst q
      have := plcN_le L n n
      rw [if_neg (by omega)]
      omega
    · have := plc_lt L n (show s < n by omega)
      split <;> omega
theorem plc_inj (L : Nat → Nat) {s r n : Nat} (hs : s < n) (hr : r < n) (e : plcN L s n = plcN L r n) : s = r := by
  apply Classical.byContradiction
  intro ne
  have h1 : (L s < L r ∨ (L s = L r ∧ s < r)) ∨ (L r < L s ∨ (L r = L s ∧ r < s)) := by omega
  rcases h1 with h1 | h1
  · have := plc_mono L h1 n
    rw [if_pos hs] at this
    omega
  · have := plc_mono L h1 n
    rw [if_pos hr] at this
    omega
/-- one-to-one below n is onto -/
theorem onto : ∀ (n : Nat) (f : Nat → Nat), (∀ i, i < n → f i < n) → (∀ i, i < n → ∀ j, j < n → f i = f j → i = j) → ∀ t, t < n → ∃ i, i < n ∧ f i = t
  | 0, _, _, _, t, ht => absurd ht (by omega)
  | n + 1, f, hb, hi, t, ht => by
    by_cases q : ∃ j, j < n ∧ f j = n
    · obtain ⟨j, hj, ej⟩ := q
      have fn : f n ≠ n := fun e => by
        have := hi j (by omega) n (by omega) (ej.trans e.symm)
        omega
      have fnb := hb n (by omega)
      by_cases qt : t = n
      · exact ⟨j, by omega, by rw [ej, qt]⟩
      · obtain ⟨i, hi2, ei⟩ := onto n (fun i => if i = j then f n else f i) (fun i hi2 => by
          split
          · omega
          · rename_i g
            have := hb i (by omega)
            by_cases g2 : f i = n
            · exact absurd (hi i (by omega) j (by omega) (g2.trans ej.symm)) g
            · omega) (fun i hi2 k hk e => by
          by_cases g1 : i = j
          · by_cases g2 : k = j
            · omega
            · rw [if_pos g1, if_neg g2] at e
              have := hi n (by omega) k (by omega) e
              omega
          · by_cases g2 : k = j
            · rw [if_neg g1, if_pos g2] at e
              have := hi i (by omega) n (by omega) e
              omega
            · rw [if_neg g1, if_neg g2] at e
              exact hi i (by omega) k (by omega) e) t (by omega)
        by_cases g : i = j
        · rw [if_pos g] at ei
          exact ⟨n, by omega, ei⟩
        · rw [if_neg g] at ei
          exact ⟨i, by omega, ei⟩
    · have hb2 : ∀ i, i < n → f i < n := fun i hi2 => by
        have := hb i (by omega)
        by_cases g : f i = n
        · exact absurd ⟨i, hi2, g⟩ q
        · omega
      have hi2 : ∀ i, i < n → ∀ j, j < n → f i = f j → i = j := fun i h1 j h2 e => hi i (show i < n + 1 by omega) j (show j < n + 1 by omega) e
      by_cases g : f n = n
      · by_cases qt : t = n
        · exact ⟨n, by omega, by rw [g, qt]⟩
        · obtain ⟨i, h1, h2⟩ := onto n f hb2 hi2 t (by omega)
          exact ⟨i, by omega, h2⟩
      · have := hb n (by omega)
        obtain ⟨i, h1, h2⟩ := onto n f hb2 hi2 (f n) (by omega)
        have := hi i (by omega) n (by omega) h2
        omega
section ORDER
variable {h : HP} {w : Wd}
theorem al_hummer (W : WI h w) (a1 : Int32) : Alk (f_X5_hummer 0 a1) (f_X6_hummer 71 a1) h := by
  obtain ⟨O, C, V, -⟩ := id W
  have hP := O.1.1
  by_cases g1 : inR a1 (sS (wX w))
  · obtain ⟨s, hs, rfl⟩ := inR_is g1
    refine both W (hv (maxG (fun p => has (wX w) p s) (fun p => loss (uV (wX w) 5 (setb (sV (wX w) 5) p)) s) (sP (wX w))).1) w O ?_ (fun h1 R => ?_)
    · unfold f_X5_hummer
      rw [cSY C V O g1, C.g3, bd_ok, C.g0, bd_ok]
      exact Ret.icall C.O.1 (Ret.scr V (by decide) (by decide) (s_hummer C.O C.I O.1 V.1 (by decide) hs)) fun h2 q => Ret.mk q
    · unfold f_X6_hummer
      rw [rSY R O g1]
      refine Ret.loopB (lp := lp_X6_hummer_22 71 (nI s) _) (fun i => (hv (maxG (fun p => has (wX w) p s) (fun p => loss (uV (wX w) 5 (setb (sV (wX w) 5) p)) s) i).1, mc (maxG (fun p => has (wX w) p s) (fun p => loss (uV (wX w) 5 (setb (sV (wX w) 5) p)) s) i))) (fun i q => RR q 71 w ∧ Sm 71 h1 q) (sP (wX w)) (by omega) rfl ⟨R, Sm.rf _ _⟩ ?_ ?_
      · rintro t p h2 hp ⟨R2, S2⟩ kk
        have ml := maxG_le (fun p => has (wX w) p s) (fun p => loss (uV (wX w) 5 (setb (sV (wX w) 5) p)) s) (fun i => loss_le _ _) p
        have e : maxG (fun p => has (wX w) p s) (fun p => loss (uV (wX w) 5 (setb (sV (wX w) 5) p)) s) (p + 1) = if has (wX w) p s = true ∧ ((maxG (fun p => has (wX w) p s) (fun p => loss (uV (wX w) 5 (setb (sV (wX w) 5) p)) s) p).1 = 0 ∨ (maxG (fun p => has (wX w) p s) (fun p => loss (uV (wX w) 5 (setb (sV (wX w) 5) p)) s) p).2 < loss (uV (wX w) 5 (setb (sV (wX w) 5) p)) s) then (p + 1, loss (uV (wX w) 5 (setb (sV (wX w) 5) p)) s) else maxG (fun p => has (wX w) p s) (fun p => loss (uV (wX w) 5 (setb (sV (wX w) 5) p)) s) p := rfl
        generalize hG : maxG (fun p => has (wX w) p s) (fun p => loss (uV (wX w) 5 (setb (sV (wX w) 5) p)) s) p = G at kk ml e ⊢
        rw [e] at kk
        show Ret (lb_X6_hummer_22 71 _ _ _ _ _ _ h2) _ _
        unfold lb_X6_hummer_22
        rw [R2.v.gp R2.md, bd_ok, iN hp (by omega), inv_ok R2.md.1, r_knows R2.md O.1 R2.v hp hs, ob_ok, nI1]
        by_cases q : has (wX w) p s = true
        · rw [if_pos q, if_neg (by decide)]
          obtain ⟨k, rt⟩ := r_thought O R2
          refine Ret.icall R2.md.1 rt fun h3 ⟨T3, V3, S3⟩ => ?_
          have bh : sV (wX w) 5 < 256 := O.1.2.2.2.2.1
          have bo := bit_or p (show p < 8 by omega) _ bh
          have Ow : Ok (uV (wX w) 5 (setb (sV (wX w) 5) p)) := Ok_uV O.1 (fun q => by cases q) (fun q => by cases q) (fun _ => bo.2)
          obtain ⟨h4, e4, H4, V4, F4⟩ := W_num T3.k.2 V3 (k := 5) (v := setb (sV (wX w) 5) p) (by omega) (q := 13) rfl rfl
          rw [V3.gh T3.k.2, bd_ok, bo.1, e4, bd_ok]
          obtain ⟨T4, S4⟩ := T3.fr F4.1
          refine Ret.icall T4.k.2.1 (r_runs T4.k.2 Ow V4 (s := s) hs) fun h5 ⟨F5, _⟩ => ?_
          obtain ⟨T5, S5⟩ := T4.fr F5
          have go := kk h5 ⟨T5.R, ((S2.tr S3.1).tr S4.1).tr S5.1⟩
          have hl := loss_le (uV (wX w) 5 (setb (sV (wX w) 5) p)) s
          dsimp only at go ⊢
          have e9 : mc (p + 1, loss (uV (wX w) 5 (setb (sV (wX w) 5) p)) s) = nI (loss (uV (wX w) 5 (setb (sV (wX w) 5) p)) s) := by unfold mc; rw [if_neg (by simp)]
          by_cases q1 : G.1 = 0
          · have em : mc G = -1 := by unfold mc; rw [if_pos q1]
            rw [if_pos ⟨q, Or.inl q1⟩] at go
            rw [e9] at go
            rw [em, if_neg (by
              rw [Int32.le_iff_toInt_le, nI_toInt (by omega)]
              have : (-1 : Int32).toInt = -1 := rfl
              omega)]
            exact go
          · have em : mc G = nI G.2 := by unfold mc; rw [if_neg q1]
            rw [em]
            by_cases q2 : G.2 < loss (uV (wX w) 5 (setb (sV (wX w) 5) p)) s
            · rw [if_pos ⟨q, Or.inr q2⟩, e9] at go
              rw [if_neg (leN q2 (by omega))]
              exact go
            · rw [if_neg (by omega), em] at go
              rw [if_pos (leY (by omega) (by omega))]
              exact go
        · rw [if_neg q, if_pos rfl]
          have go := kk h2 ⟨R2, S2⟩
          rw [if_neg (fun e => q e.1)] at go
          exact go
      · rintro t h2 ⟨R2, S2⟩
        show Ret (lb_X6_hummer_22 71 _ _ _ _ _ _ h2) _ _
        unfold lb_X6_hummer_22
        rw [R2.v.gp R2.md, bd_ok, iY (by omega)]
        exact Ret.mk ⟨R2, S2⟩
  · refine bad W ?_ (fun h1 R => ?_)
    · unfold f_X5_hummer
      rw [cSN C V O g1]
    · unfold f_X6_hummer
      rw [rSN R O g1]
theorem al_next (W : WI h w) : Alk (f_X5_next 0) (f_X6_next 71) h := by
  obtain ⟨O, C, V, -⟩ := id W
  have hS := O.1.2.1
  refine both W (hv (minG (fun s => decide (sA (wX w) 7 s = 0)) (fun s => loss (wX w) s) (sS (wX w))).1) w O ?_ (fun h1 R => ?_)
  · unfold f_X5_next
    rw [C.g3, bd_ok, C.g0, bd_ok]
    exact Ret.icall C.O.1 (Ret.scr V (by decide) (by decide) (s_next C.O C.I O.1 V.1 (by decide))) fun h2 q => Ret.mk q
  · unfold f_X6_next
    refine Ret.loopB (lp := lp_X6_next_7 71 _) (fun i => (hv (minG (fun s => decide (sA (wX w) 7 s = 0)) (fun s => loss (wX w) s) i).1, nI (minG (fun s => decide (sA (wX w) 7 s = 0)) (fun s => loss (wX w) s) i).2)) (fun i q => RR q 71 w ∧ Sm 71 h1 q) (sS (wX w)) (by omega) rfl ⟨R, Sm.rf _ _⟩ ?_ ?_
    · rintro t s h2 hs ⟨R2, S2⟩ kk
      have ml := minG_le (fun s => decide (sA (wX w) 7 s = 0)) (fun s => loss (wX w) s) s
      have hs7 : s < ln 7 := by show s < 6; omega
      have b7 : sA (wX w) 7 s < 3 := O.1.b 7 s (by decide) hs7
      have e : minG (fun s => decide (sA (wX w) 7 s = 0)) (fun s => loss (wX w) s) (s + 1) = if decide (sA (wX w) 7 s = 0) = true ∧ loss (wX w) s < (minG (fun s => decide (sA (wX w) 7 s = 0)) (fun s => loss (wX w) s) s).2 then (s + 1, loss (wX w) s) else minG (fun s => decide (sA (wX w) 7 s = 0)) (fun s => loss (wX w) s) s := rfl
      generalize hG : minG (fun s => decide (sA (wX w) 7 s = 0)) (fun s => loss (wX w) s) s = G at kk ml e ⊢
      rw [e] at kk
      show Ret (lb_X6_next_7 71 _ _ _ _ _ h2) _ _
      unfold lb_X6_next_7
      rw [R2.v.gs R2.md, bd_ok, iN hs (by omega), R2.md.rk 7 (by decide) rfl rfl, bd_ok, R_ld R2.md R2.v 7 (by decide) hs7 rfl, bd_ok, nI1]
      by_cases q : sA (wX w) 7 s = 0
      · rw [if_pos (show nI (sA (wX w) 7 s) = 0 by rw [q]; rfl)]
        refine Ret.icall R2.md.1 (r_lostNow O R2 hs) fun h3 ⟨k, T, S3, _, _⟩ => ?_
        have hl := loss_le (wX w) s
        have go := kk h3 ⟨T.R, S2.tr S3.1⟩
        dsimp only at go ⊢
        by_cases g : loss (wX w) s < G.2
        · rw [if_pos ⟨decide_eq_true q, g⟩] at go
          dsimp only at go
          rw [hvS] at go
          rw [if_neg (leN g (by omega))]
          exact go
        · rw [if_neg (fun e => g e.2)] at go
          rw [if_pos (leY (by omega) (by omega))]
          exact go
      · have go := kk h2 ⟨R2, S2⟩
        rw [if_neg (fun e => q (of_decide_eq_true e.1))] at go
        rw [if_neg (show ¬ nI (sA (wX w) 7 s) = 0 from eqN (m := 0) q (by decide) (by omega))]
        dsimp only at go ⊢
        rw [if_pos (show nI G.2 ≤ 61 from leY (b := 61) ml.2 (by decide))]
        exact go
    · rintro t h2 ⟨R2, S2⟩
      show Ret (lb_X6_next_7 71 _ _ _ _ _ h2) _ _
      unfold lb_X6_next_7
      rw [R2.v.gs R2.md, bd_ok, iY (by omega)]
      exact Ret.mk ⟨R2, S2⟩
/-- what is written beside the isle -/
theorem RR.scr {h' : HP} {b n : Nat} (R : RR h 71 w) (F : Fr b n h h') (h1 : 98 ≤ b) (h2 : b + n ≤ 104) : RR h' 71 w ∧ Sm 71 h h' := by
  obtain ⟨c, f, R1, R2⟩ := R
  refine ⟨⟨c, f, R1.fr F, ?_⟩, fun q hq => ⟨by rw [F.2.2.1], by rw [F.2.2.2.1], F.2.2.2.2.2 q (by omega), by rw [F.2.2.2.2.1]⟩⟩
  obtain ⟨v1, v2, v3, v4, v5, v6, v7⟩ := R2
  have e : ∀ q, (q < b ∨ b + n ≤ q) → hI h' q = hI h q := F.2.2.2.2.2
  refine ⟨VG.fr F (by omega) (by omega) v1, v2, fun y hy => ?_, v4.keep (e _ (by omega)), by rw [e 71 (by omega)]; exact v5, fun s hs => ?_, fun i hi => by rw [e _ (by omega)]; exact v7 i hi⟩
  · obtain ⟨j, hj, hv⟩ := v3 y hy
    have := R1.2.2.2.2.2.1 0 (by decide) j hj
    exact ⟨j, hj, VG.fr F (by omega) (by omega) hv⟩
  · obtain ⟨s1, s2, s3⟩ := v6 s hs
    refine ⟨by rw [e _ (by omega)]; exact s1, fun g => ?_, fun g => by rw [e _ (by omega)]; exact s3 g⟩
    obtain ⟨t1, t2, t3⟩ := s2 g
    exact ⟨by rw [e _ (by omega)]; exact t1, by rw [e _ (by omega)]; exact t2, fun i hi => by rw [F.2.2.2.2.1]; exact t3 i hi⟩
theorem r_placeOf (R : RR h 71 w) (O : OkW w) {L : Nat → Nat} (HL : LosI h 100 (sS (wX w)) L) (hL : ∀ i, L i ≤ 61) {s : Nat} (hs : s < sS (wX w)) : f_X6_placeOf 71 (nI s) h = some (nI (plcN L s (sS (wX w))), h) := by
  have hS := O.1.2.1
  have la : ∀ i, i < sS (wX w) → lI 100 (nI i) h = some (nI (L i)) := fun i hi => by rw [lI_ok (R.md.a 37 29 6 (by decide) (b := 100) rfl) (by omega) (by decide), HL i hi]
  refine loop_acc (lp := lp_X6_placeOf_4 71 (nI s) _) (sS (wX w)) (by omega) (fun i => nI (plcN L s i)) h (K := fun v h => some (v, h)) (fun t => ?_) (fun t i hi => ?_)
  · show lb_X6_placeOf_4 71 _ _ _ _ _ h = _
    unfold lb_X6_placeOf_4
    rw [R.v.gs R.md, bd_ok, iY (by omega)]
  · show lb_X6_placeOf_4 71 _ _ _ _ _ h = _
    unfold lb_X6_placeOf_4
    have b1 := hL i
    have b2 := hL s
    have e : plcN L s (i + 1) = if L i < L s ∨ (L i = L s ∧ i < s) then plcN L s i + 1 else plcN L s i := rfl
    have r37 : gR 6 37 71 h = some 100 := R.md.r 37 29 6 (by decide) rfl
    simp only [R.v.gs R.md, r37, la i hi, la s hs, Option.bind_some, nI1, Int32.add_zero]
    rw [iN hi (by omega), e]
    by_cases q1 : L i < L s
    · rw [if_pos (ltY q1 (by omega)), if_pos (Or.inl q1)]
    · rw [if_neg (ltN (by omega) (by omega))]
      by_cases q2 : L i = L s
      · rw [if_pos (congrArg nI q2)]
        by_cases q3 : i < s
        · rw [if_neg (leN q3 (by omega)), if_pos (Or.inr ⟨q2, q3⟩)]
        · rw [if_pos (leY (by omega) (by omega)), if_neg (by omega)]
      · rw [if_neg (by rw [nIe (by omega) (by omega)]; exact q2), if_neg (by omega)]
theorem al_order (W : WI h w) (a1 : Int32) : Alk (f_X5_order 0 a1) (f_X6_order 71 a1) h := by
  obtain ⟨O, C, V, -⟩ := id W
  have hS := O.1.2.1
  by_cases g1 : inR a1 (sS (wX w))
  · obtain ⟨i0, hi0, rfl⟩ := inR_is g1
    refine both W (fstI (fun s => decide (plcN (loss (wX w)) s (sS (wX w)) = i0)) (sS (wX w))) w O ?_ (fun h1 R => ?_)
    · unfold f_X5_order
      rw [cSY C V O g1, C.g3, bd_ok, C.g0, bd_ok]
      exact Ret.icall C.O.1 (Ret.scr V (by decide) (by decide) (s_order C.O C.I O.1 V.1 (by decide) (by omega))) fun h2 q => Ret.mk q
    · unfold f_X6_order
      rw [rSY R O g1]
      refine Ret.loop (lp := lp_X6_order_17 71 (nI i0) _) (fun i q => RR q 71 w ∧ Sm 71 h1 q ∧ LosI q 100 i (loss (wX w))) (sS (wX w)) (by omega) ⟨R, Sm.rf _ _, fun i hi => absurd hi (by omega)⟩ ?_ ?_
      · rintro t s h2 hs ⟨R2, S2, L2⟩ kk
        show Ret (lb_X6_order_17 71 _ _ _ _ h2) _ _
        unfold lb_X6_order_17
        rw [R2.v.gs R2.md, bd_ok, iN hs (by omega), R2.md.r 37 29 6 (by decide) (b := 100) rfl, bd_ok, nI1]
        refine Ret.icall R2.md.1 (r_lostNow O R2 hs) fun h3 ⟨k, T, S3, _, _⟩ => ?_
        rw [sI_ok (T.R.md.a 37 29 6 (by decide) (b := 100) rfl) (by omega) (by decide), bd_ok]
        have Fw : Fr 100 1 h3 (wI h3 100 (upd (hI h3 100) s (nI (loss (wX w) s)))) := Fr.w (by omega) (by omega)
        obtain ⟨R4, S4⟩ := T.R.scr Fw (by decide) (by decide)
        refine kk _ ⟨R4, (S2.tr S3.1).tr S4, fun j hj => ?_⟩
        rw [hI_w]
        by_cases e : j = s
        · rw [e, upd_s]
        · rw [upd_n _ _ e, S3.2 100 (by decide)]
          exact L2 j (by omega)
      · rintro t h2 ⟨R2, S2, L2⟩
        show Ret (lb_X6_order_17 71 _ _ _ _ h2) _ _
        unfold lb_X6_order_17
        rw [R2.v.gs R2.md, bd_ok, iY (by omega)]
        dsimp only
        have sp := fstN_spec (fun s => decide (plcN (loss (wX w)) s (sS (wX w)) = i0)) (sS (wX w))
        obtain ⟨z, hz, ez⟩ := onto (sS (wX w)) (fun s => plcN (loss (wX w)) s (sS (wX w))) (fun i hi => plc_lt _ _ hi) (fun i hi j hj e => plc_inj _ hi hj e) i0 hi0
        have hm : fstN (fun s => decide (plcN (loss (wX w)) s (sS (wX w)) = i0)) (sS (wX w)) ≤ z := by
          apply Classical.byContradiction
          intro g
          exact sp.2.1 z (by omega) (decide_eq_true ez)
        generalize hM : fstN (fun s => decide (plcN (loss (wX w)) s (sS (wX w)) = i0)) (sS (wX w)) = M at sp hm
        have eM : fstI (fun s => decide (plcN (loss (wX w)) s (sS (wX w)) = i0)) (sS (wX w)) = nI M := by
          unfold fstI
          rw [hM, if_pos (by omega)]
        rw [eM]
        refine Ret.loop (lp := lp_X6_order_44 71 (nI i0) _) (fun i q => q = h2) M (by omega) rfl ?_ ?_
        · rintro t2 i q hi rfl kk
          show Ret (lb_X6_order_44 71 _ _ _ _ _) _ _
          unfold lb_X6_order_44
          have ple := plcN_le (loss (wX w)) i (sS (wX w))
          rw [inv_ok R2.md.1, r_placeOf R2 O L2 (fun i => loss_le _ _) (by omega), ob_ok, if_neg (by
            rw [nIe (by omega) (by omega)]
            exact fun e => sp.2.1 i hi (decide_eq_true e)), nI1]
          exact kk _ rfl
        · rintro t2 q rfl
          show Ret (lb_X6_order_44 71 _ _ _ _ _) _ _
          unfold lb_X6_order_44
          have := of_decide_eq_true (sp.2.2 (by omega))
          rw [inv_ok R2.md.1, r_placeOf R2 O L2 (fun i => loss_le _ _) (by omega), ob_ok, if_pos (congrArg nI this)]
          exact Ret.mk ⟨R2, S2⟩
  · refine bad W ?_ (fun h1 R => ?_)
    · unfold f_X5_order
      rw [cSN C V O g1]
    · unfold f_X6_order
      rw [rSN R O g1]
theorem al_griefs (W : WI h w) (a1 a2 a3 : Int32) : Alk (f_X5_griefs 0 a1 a2 a3) (f_X6_griefs 71 a1 a2 a3) h := by
  obtain ⟨O, C, V, -⟩ := id W
  have hP := O.1.1
  by_cases g1 : inR a1 (sP (wX w))
  · by_cases g2 : inR a2 (sS (wX w))
    · by_cases g3 : inR a3 61
      · obtain ⟨p, hp, rfl⟩ := inR_is g1
        obtain ⟨s, hs, rfl⟩ := inR_is g2
        obtain ⟨n, hn, rfl⟩ := inR_is g3
        have ca := fun h1 (R : RR h1 71 w) => show f_X6_griefs 71 (nI p) (nI s) (nI n) h1 = _ by
          unfold f_X6_griefs
          rw [rPY R O g1, rSY R O g2, rY 60 g3, inv_ok R.md.1, r_knows R.md O.1 R.v hp hs, ob_ok]
        have ha := show f_X5_griefs 0 (nI p) (nI s) (nI n) h = _ by
          unfold f_X5_griefs
          rw [cPY C V O g1, cSY C V O g2, cY 61 g3 (by decide), C.g0, bd_ok, inv_ok C.I.1, s_heldFor C.I O.1 V.1 hp hs, ob_ok]
        by_cases q : has (wX w) p s = true
        · refine both W (fstI (fun v => lwP (uA (wX w) 3 p v) p s n) 10) w O ?_ (fun h1 R => ?_)
          · rw [ha, if_neg (by rw [has_iff O.1 hp hs]; exact fun e => e q), C.g3, bd_ok, C.g0, bd_ok]
            exact Ret.icall C.O.1 (Ret.scr V (by decide) (by decide) (s_grief C.O C.I O.1 V.1 (by decide) (by omega) hp hs)) fun h2 q => Ret.mk q
          · rw [ca h1 R, if_pos q, if_neg (by decide)]
            refine down (lp := lp_X6_griefs_58 71 (nI p) (nI s) (nI n) _) (fun v => lwP (uA (wX w) 3 p v) p s n) (fun q => RR q 71 w ∧ Sm 71 h1 q) ⟨R, Sm.rf _ _⟩ ?_ ?_
            · rintro t i h2 hi ⟨R2, S2⟩ kk
              have hp8 : p < ln 3 := by show p < 8; omega
              have Oy : Ok (uA (wX w) 3 p (9 - i)) := Ok_uA O.1 (by decide) (fun _ => by show 9 - i < 10; omega)
              have hP' : ∀ j, p < sP (yN (uA (wX w) 3 p (9 - i)) j) := fun j => by rw [sP_yN]; exact hp
              have hS' : ∀ j, s < sS (yN (uA (wX w) 3 p (9 - i)) j) := fun j => by rw [sS_yN]; exact hs
              have no0 : ¬ fgP (uA (wX w) 3 p (9 - i)) p s 0 = true := fun e => by
                have := (fgP_has _ _ _ _).mp e
                exact this q
              show Ret (lb_X6_griefs_58 71 _ _ _ _ _ _ _ h2) _ _
              unfold lb_X6_griefs_58
              rw [if_neg (show ¬ nI (9 - i) < 0 from ltN (b := 0) (by omega) (by omega))]
              obtain ⟨k, rt⟩ := r_thought O R2
              refine Ret.icall R2.md.1 rt fun h3 ⟨T3, V3, S3⟩ => ?_
              obtain ⟨h4, e4, H4, V4, F4⟩ := W_row T3.k.2 V3 3 (by decide) (i := p) (v := 9 - i) hp8 rfl (b := k + 20) rfl
              rw [T3.k.2.rk 3 (by decide) rfl (b := k + 20) rfl, bd_ok, e4, bd_ok]
              obtain ⟨T4, S4⟩ := T3.fr F4.w33.1
              have e : lowF (fun v => lwP (uA (wX w) 3 p v) p s n) (i + 1) = if lwP (uA (wX w) 3 p (9 - i)) p s n = true then 9 - i + 1 else lowF (fun v => lwP (uA (wX w) 3 p v) p s n) i := rfl
              rw [e] at kk
              generalize hy : uA (wX w) 3 p (9 - i) = y at Oy hP' hS' no0 V4 kk
              have en : ∀ {j : Nat} {q : HP}, j ≤ n → RT q 71 k w → VR q k (yN y j) → Sm 71 h1 q → (∀ l, l ≤ j → (l < j ∨ j < n → l < j → ¬ fgP y p s l = true)) → (j < n → fgP y p s j = true) → Ret (ob (inv 6 k q (f_X6_knowsIt k (nI p) (nI s) q)) fun x113 h113 => if x113 = 0 then lp_X6_griefs_58 71 (nI p) (nI s) (nI n) (fun b4_58 h58_ => some (b4_58, h58_)) t (nI (9 - i)) (nI (9 - i) + (-1)) h113 else lp_X6_griefs_58 71 (nI p) (nI s) (nI n) (fun b4_58 h58_ => some (b4_58, h58_)) t (hv (lowF (fun v => lwP (uA (wX w) 3 p v) p s n) i)) (nI (9 - i) + (-1)) h113) (fstI (fun v => lwP (uA (wX w) 3 p v) p s n) 10) (fun h2 => RR h2 71 w ∧ Sm 71 h1 h2) := by
                intro j q hj T V S hno hyes
                have go := kk q ⟨T.R, S⟩
                rw [inv_ok T.k.2.1, r_knows T.k.2 (Ok_yN Oy j) V (hP' j) (hS' j), ob_ok]
                by_cases g : has (yN y j) p s = true
                · have hjn : j = n := by
                    apply Classical.byContradiction
                    intro ne
                    exact (fgP_has _ _ _ _).mp (hyes (by omega)) g
                  have nl : ¬ lwP y p s n = true := fun e => by
                    have lt := of_decide_eq_true e
                    have sp := (fstN_spec (fun i => fgP y p s (i + 1)) n).2.2 lt
                    by_cases g2 : fstN (fun i => fgP y p s (i + 1)) n + 1 = j
                    · rw [g2] at sp
                      exact (fgP_has _ _ _ _).mp sp g
                    · exact hno _ (show fstN (fun i => fgP y p s (i + 1)) n + 1 ≤ j by omega) (Or.inl (by omega)) (by omega) sp
                  rw [if_neg nl] at go
                  rw [if_pos g, if_neg (by decide)]
                  exact go
                · have j0 : 0 < j := by
                    apply Classical.byContradiction
                    intro ne
                    rw [show j = 0 by omega] at g
                    exact no0 ((fgP_has _ _ _ _).mpr g)
                  have yl : lwP y p s n = true := by
                    refine decide_eq_true ?_
                    have : fstN (fun i => fgP y p s (i + 1)) n ≤ j - 1 := by
                      apply Classical.byContradiction
                      intro ne
                      have := (fstN_spec (fun i => fgP y p s (i + 1)) n).2.1 (j - 1) (by omega)
                      rw [show j - 1 + 1 = j by omega] at this
                      exact this ((fgP_has _ _ _ _).mpr g)
                    omega
                  rw [if_pos yl, hvS] at go
                  rw [if_neg g, if_pos rfl]
                  exact go
              refine Ret.loop (lp := lp_X6_griefs_81 71 (nI p) (nI s) (nI n) _ _ k _) (fun j q => RT q 71 k w ∧ VR q k (yN y j) ∧ Sm 71 h1 q ∧ ∀ l, l < j → ¬ fgP y p s l = true) n (by omega) ⟨T4, V4, (S2.tr S3.1).tr S4.1, fun l hl => absurd hl (by omega)⟩ ?_ ?_
              · rintro t2 j q hj ⟨T, V5, S, hno⟩ kk2
                show Ret (lb_X6_griefs_81 71 _ _ _ _ _ k _ _ _ q) _ _
                unfold lb_X6_griefs_81
                rw [iN hj (by omega), inv_ok T.k.2.1, r_knows T.k.2 (Ok_yN Oy j) V5 (hP' j) (hS' j), ob_ok, nI1]
                by_cases g : has (yN y j) p s = true
                · rw [if_pos g, if_neg (by decide)]
                  refine Ret.icall T.k.2.1 (r_passes T.k.2 (Ok_yN Oy j) V5) fun h6 ⟨F6, V6⟩ => ?_
                  obtain ⟨T6, S6⟩ := T.fr F6.1
                  refine kk2 h6 ⟨T6, V6, S.tr S6.1, fun l hl => ?_⟩
                  by_cases e : l = j
                  · rw [e]; exact fun e => (fgP_has _ _ _ _).mp e g
                  · exact hno l (by omega)
                · rw [if_neg g, if_pos rfl]
                  exact en (by omega) T V5 S (fun l _ _ hl => hno l hl) (fun _ => (fgP_has _ _ _ _).mpr g)
              · rintro t2 q ⟨T, V5, S, hno⟩
                show Ret (lb_X6_griefs_81 71 _ _ _ _ _ k _ _ _ q) _ _
                unfold lb_X6_griefs_81
                rw [iY (by omega)]
                exact en (Nat.le_refl _) T V5 S (fun l _ _ hl => hno l hl) (fun g => absurd g (by omega))
            · rintro t h2 ⟨R2, S2⟩
              show Ret (lb_X6_griefs_58 71 _ _ _ _ _ _ _ h2) _ _
              unfold lb_X6_griefs_58
              rw [if_pos (by decide)]
              exact Ret.mk ⟨R2, S2⟩
        · refine no_both W (i := 3) (by decide) (v := -5) (by decide) (by decide) ?_ (fun h1 R => ?_)
          · rw [ha, if_pos ((has_iff O.1 hp hs).mpr q)]
          · rw [ca h1 R, if_neg q, if_pos rfl]
      · refine bad W ?_ (fun h1 R => ?_)
        · unfold f_X5_griefs
          rw [cPY C V O g1, cSY C V O g2, cN 61 g3 (by decide)]
        · unfold f_X6_griefs
          rw [rPY R O g1, rSY R O g2, rN 60 g3]
    · refine bad W ?_ (fun h1 R => ?_)
      · unfold f_X5_griefs
        rw [cPY C V O g1, cSN C V O g2]
      · unfold f_X6_griefs
        rw [rPY R O g1, rSN R O g2]
  · refine bad W ?_ (fun h1 R => ?_)
    · unfold f_X5_griefs
      rw [cPN C V O g1]
    · unfold f_X6_griefs
      rw [rPN R O g1]
end ORDER
