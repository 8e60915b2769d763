/-! BOTH SIDES: nearest -/
theorem minG_at (f : Nat → Nat) (hf : ∀ s, f s ≤ 8) : ∀ n, ((minG (fun _ => true) f n).1 = 0 → n = 0) ∧ ((minG (fun _ => true) f n).1 = 0 → (minG (fun _ => true) f n).2 = 61) ∧ ((minG (fun _ => true) f n).1 ≠ 0 → (minG (fun _ => true) f n).2 = f ((minG (fun _ => true) f n).1 - 1)) := by
  intro n
  induction n with
  | zero => exact ⟨fun _ => rfl, fun _ => rfl, fun q => absurd rfl q⟩
  | succ n ih =>
    have e : minG (fun _ => true) f (n + 1) = if true = true ∧ f n < (minG (fun _ => true) f n).2 then (n + 1, f n) else minG (fun _ => true) f n := rfl
    generalize minG (fun _ => true) f n = g at ih e
    obtain ⟨i1, i2, i3⟩ := ih
    by_cases q : f n < g.2
    · rw [e, if_pos ⟨rfl, q⟩]
      exact ⟨fun z => absurd (show n + 1 = 0 from z) (by omega), fun z => absurd (show n + 1 = 0 from z) (by omega), fun _ => rfl⟩
    · rw [e, if_neg (fun z => q z.2)]
      refine ⟨fun z => ?_, i2, i3⟩
      have := i2 z
      have := hf n
      omega
theorem r_in4 {v : Int64} (h : HP) : f_X6_in v 0 4 h = some (if ntO v then 1 else 0, h) := by
  unfold f_X6_in ntO
  have e0 : (0 : Int64).toInt = 0 := rfl
  have e4 : (4 : Int64).toInt = 4 := rfl
  by_cases g1 : v.toInt < 0
  · rw [if_pos (cmp_lt.mpr (by rw [e0]; exact g1)), rZ0, if_neg (fun q => by have := q.1; omega)]
  · rw [if_neg (fun q => g1 (by have := cmp_lt.mp q; rw [e0] at this; exact this))]
    by_cases g2 : v.toInt ≤ 4
    · rw [if_neg (fun q => by have := cmp_gt.mp q; rw [e4] at this; omega), rZ1, if_pos ⟨by omega, by omega⟩]
    · rw [if_pos (cmp_gt.mpr (by rw [e4]; omega)), rZ0, if_neg (fun q => g2 (by have := q.2; omega))]
section NEAR
variable {h : HP} {w : Wd}
theorem r_near {n : Nat} {hd : Nat → Nat} {a3 : Int32} {v : Int32} {Q : HP → Prop} {K : Int32 → Int32 → HP → Option (Int32 × HP)} (R : RR h 71 w) (O : OkW w) (N : HnI h n hd) (kk : ∀ q, RR q 71 w → Sm 71 h q → Ret (K (hv (minG (fun _ => true) (fun s => edN hd (tuF (wX w) s) n 8) (sS (wX w))).1) (if (minG (fun _ => true) (fun s => edN hd (tuF (wX w) s) n 8) (sS (wX w))).1 = 0 then -1 else nI (minG (fun _ => true) (fun s => edN hd (tuF (wX w) s) n 8) (sS (wX w))).2) q) v Q) : Ret (lp_X6_nearest_92 71 (nI n) a3 K 1000 (-1) (-1) 0 h) v Q := by
  have hS := O.1.2.1
  have hn8 := N.1
  have hf : ∀ s, edN hd (tuF (wX w) s) n 8 ≤ 8 := fun s => by have := edN_le hd (tuF (wX w) s) n 8; omega
  have ma := minG_at (fun s => edN hd (tuF (wX w) s) n 8) hf
  have ml := minG_le (fun _ => true) (fun s => edN hd (tuF (wX w) s) n 8)
  refine Ret.loopB (lp := lp_X6_nearest_92 71 (nI n) a3 K) (fun i => (hv (minG (fun _ => true) (fun s => edN hd (tuF (wX w) s) n 8) i).1, if (minG (fun _ => true) (fun s => edN hd (tuF (wX w) s) n 8) i).1 = 0 then -1 else nI (minG (fun _ => true) (fun s => edN hd (tuF (wX w) s) n 8) i).2)) (fun i q => Fr 102 2 h q) (sS (wX w)) (by omega) rfl (Fr.rf _ _ _) ?_ ?_
  · rintro t i q hi F k2
    obtain ⟨R2, S2⟩ := R.scr F (by decide) (by decide)
    have e : minG (fun _ => true) (fun s => edN hd (tuF (wX w) s) n 8) (i + 1) = if true = true ∧ edN hd (tuF (wX w) i) n 8 < (minG (fun _ => true) (fun s => edN hd (tuF (wX w) s) n 8) i).2 then (i + 1, edN hd (tuF (wX w) i) n 8) else minG (fun _ => true) (fun s => edN hd (tuF (wX w) s) n 8) i := rfl
    have mi := ma i
    have li := ml i
    rw [e] at k2
    generalize minG (fun _ => true) (fun s => edN hd (tuF (wX w) s) n 8) i = g at k2 mi li ⊢
    obtain ⟨i1, i2, i3⟩ := mi
    have h8 := hf i
    show Ret (lb_X6_nearest_92 71 _ _ _ _ _ _ _ q) _ _
    unfold lb_X6_nearest_92
    rw [R2.v.gs R2.md, bd_ok, iN hi (by omega)]
    refine Ret.icall R2.md.1 (r_chg R2.md O.1 R2.v hi (N.R (x := wX w) F)) fun h2 F2 => ?_
    have go := k2 h2 (F.tr F2)
    rw [nI1]
    dsimp only at go ⊢
    by_cases z : g.1 = 0
    · have := i2 z
      rw [if_pos ⟨rfl, by omega⟩] at go
      dsimp only at go
      rw [hvS, if_neg (by omega)] at go
      rw [show hv g.1 = -1 by rw [z]; rfl, if_pos rfl, if_pos rfl]
      exact go
    · obtain ⟨c, hc⟩ : ∃ c, g.1 = c + 1 := ⟨g.1 - 1, by omega⟩
      have hg2 := i3 z
      have h28 := hf (g.1 - 1)
      rw [← hg2] at h28
      rw [if_neg z, show hv g.1 = nI c by rw [hc, hvS], if_neg (nI_nm1 (by omega))]
      by_cases q2 : edN hd (tuF (wX w) i) n 8 < g.2
      · rw [if_pos ⟨rfl, q2⟩] at go
        dsimp only at go
        rw [hvS, if_neg (by omega)] at go
        rw [if_neg (leN q2 (by omega)), if_pos rfl]
        exact go
      · rw [if_neg (fun e => q2 e.2), if_neg z, show hv g.1 = nI c by rw [hc, hvS]] at go
        rw [if_pos (leY (by omega) (by omega)), if_neg (by rw [nIe (by omega) (by omega)]; omega)]
        exact go
  · rintro t q F
    obtain ⟨R2, S2⟩ := R.scr F (by decide) (by decide)
    show Ret (lb_X6_nearest_92 71 _ _ _ _ _ _ _ q) _ _
    unfold lb_X6_nearest_92
    rw [R2.v.gs R2.md, bd_ok, iY (by omega)]
    exact kk q R2 S2
theorem r_step28 {s n i : Nat} {q : HP} {a3 : Int32} {K F : _} (R : RR q 71 w) (hs : s < 8) (q1 : (wS w s).1 = 1) (hi : i < n) (hn : n ≤ 8) : lb_X6_nearest_28 71 (nI s) (nI n) a3 K F (nI i) q = if ntO ((wS w s).2.2.2 i) then F (nI (i + 1)) (wI q 101 (upd (hI q 101) i ((wS w s).2.2.2 i).toInt32)) else ob (inv 6 71 q (f_X6_refuse 71 (-5) q)) fun x h => some (x, h) := by
  have M := R.md
  have r3 : gR 6 3 71 q = some 75 := M.g3 rfl
  have lr : lR 10 75 (nI s) q = some (76 + s) := M.lr hs rfl rfl
  have lj : lJ (76 + s) (nI i) q = some ((wS w s).2.2.2 i) := by
    rw [lJ_ok (M.la hs (b := 76 + s) rfl) (by omega) (by decide)]
    exact congrArg some (((R.sh hs).2.1 q1).2.2 i (by omega))
  unfold lb_X6_nearest_28
  rw [iN hi (by omega), r3, bd_ok, lr, bd_ok, lj, bd_ok, r_in4, ob_ok]
  by_cases g : ntO ((wS w s).2.2.2 i)
  · rw [if_pos g, if_neg (by decide), M.g38, bd_ok, r3, bd_ok, lr, bd_ok, lj, bd_ok, sI_ok M.a38 (by omega) (by decide), bd_ok, nI1, if_pos g]
  · rw [if_neg g, if_pos rfl, if_neg g]
theorem al_nearest (W : WI h w) (a1 a2 a3 : Int32) : Alk (f_X5_nearest 0 a1 a2 a3) (f_X6_nearest 71 a1 a2 a3) h := by
  obtain ⟨O, C, V, -⟩ := id W
  have hP := O.1.1
  have hS := O.1.2.1
  have hb : (8 : Int32).toInt64.toInt = ((8 + 1 : Nat) : Int) - 1 := rfl
  have hg : ∀ h1, RR h1 71 w → f_X6_nearest 71 a1 a2 a3 h1 = ob (inv 6 71 h1 (f_X6_noTold 71 a1 a2 8 (if inR a3 2 then 1 else 0) h1)) fun x12 h12 => if x12 = 0 then lp_X6_nearest_28 71 a1 a2 a3 (fun h28_ => lp_X6_nearest_92 71 a2 a3 (fun b5_92 b6_92 h92_ => if a3 = 0 then some (b5_92, h92_) else some (b6_92, h92_)) 1000 (-1) (-1) 0 h28_) 1000 0 h12 else some (x12, h12) := by
    intro h1 R
    unfold f_X6_nearest
    rw [r_in (n := 2) (b := 1) rfl, ob_ok]
  by_cases g1 : inR a1 8
  · by_cases g2 : inR a2 9
    · by_cases g3 : inR a3 2
      · rw [if_pos g3] at hg
        obtain ⟨s, hs, rfl⟩ := inR_is g1
        obtain ⟨n, hn, rfl⟩ := inR_is g2
        have so := O.2.2.1 s hs
        have sv := V.2.2.2.2.2.1 s hs
        have ha := show f_X5_nearest 0 (nI s) (nI n) a3 h = _ by
          unfold f_X5_nearest
          rw [cY 8 g1 (by decide), cY 9 g2 (by decide), cY 2 g3 (by decide), C.g6, bd_ok, C.ls hs, bd_ok, inv_ok (C.sh hs).1, s_asTold (C.sh hs) so hP sv (by omega), ob_ok]
        by_cases gt : rfTo (wS w s) n = 0
        · obtain ⟨q1, qz⟩ := rfTo_row so gt
          have hz := (so.2.1 q1).2
          have rows := (sv.2 q1).2
          rw [if_pos gt, C.g4, bd_ok] at ha
          have hg2 := fun h1 (R : RR h1 71 w) => show f_X6_nearest 71 (nI s) (nI n) a3 h1 = _ by
            rw [hg h1 R, inv_ok R.md.1, (r_told R O hs hn (by decide) hb (by decide)).1 gt, ob_ok, if_pos rfl]
          have ec : fstN (fun i => decide (¬ ntO (hJ h (55 + 2 * s + 1) i))) n = fstN (fun i => decide (¬ ntO ((wS w s).2.2.2 i))) n := fstN_congr (fun i hi => by rw [rows i (by omega)])
          obtain ⟨hr1, hr2⟩ := s_hearR C.U (C.sh hs).T (show n ≤ 8 by omega)
          rw [ec] at hr1 hr2
          obtain ⟨p1, p2, p3⟩ := fstN_spec (fun i => decide (¬ ntO ((wS w s).2.2.2 i))) n
          by_cases gs : fstN (fun i => decide (¬ ntO ((wS w s).2.2.2 i))) n < n
          · refine both W (-5) (rfW w 3) (OkW_rf O 3) ?_ (fun h1 R => ?_)
            · rw [ha]
              refine Ret.icall C.U.1 (hr2 gs) fun h2 F2 => ?_
              obtain ⟨FC2, V2⟩ := V.scr F2 (by decide) (by decide)
              rw [if_pos rfl]
              exact (c_no (FC2.I C) V2 (by decide) (by decide)).mono fun h3 q => ⟨FC2.tr q.1, q.2⟩
            · rw [hg2 h1 R]
              have p3 := p3 gs
              generalize fstN (fun i => decide (¬ ntO ((wS w s).2.2.2 i))) n = M at p1 p2 p3 gs
              refine Ret.loop (lp := lp_X6_nearest_28 71 (nI s) (nI n) a3 _) (fun i q => Fr 101 1 h1 q) M (by omega) (Fr.rf _ _ _) ?_ ?_
              · rintro t i q hi F kk
                obtain ⟨R2, S2⟩ := R.scr F (by decide) (by decide)
                have nt : ntO ((wS w s).2.2.2 i) := Classical.byContradiction fun e => p2 i hi (decide_eq_true e)
                show Ret (lb_X6_nearest_28 71 _ _ _ _ _ _ q) _ _
                rw [r_step28 R2 hs q1 (by omega) (by omega), if_pos nt]
                exact kk _ (F.tr (Fr.w (by omega) (by omega)))
              · rintro t q F
                obtain ⟨R2, S2⟩ := R.scr F (by decide) (by decide)
                show Ret (lb_X6_nearest_28 71 _ _ _ _ _ _ q) _ _
                rw [r_step28 R2 hs q1 gs (by omega), if_neg (of_decide_eq_true p3)]
                exact (r_no R2 (by decide) (by decide)).mono fun h3 q => ⟨q.1, S2.tr q.2⟩
          · have hf : ∀ z, edN (fun i => ((wS w s).2.2.2 i).toInt.toNat) (tuF (wX w) z) n 8 ≤ 8 := fun z => by have := edN_le (fun i => ((wS w s).2.2.2 i).toInt.toNat) (tuF (wX w) z) n 8; omega
            have ma := minG_at (fun z => edN (fun i => ((wS w s).2.2.2 i).toInt.toNat) (tuF (wX w) z) n 8) hf (sS (wX w))
            have ml := minG_le (fun _ => true) (fun z => edN (fun i => ((wS w s).2.2.2 i).toInt.toNat) (tuF (wX w) z) n 8) (sS (wX w))
            have nts : ∀ i, i < n → ntO ((wS w s).2.2.2 i) := fun i hi => Classical.byContradiction fun e => p2 i (by omega) (decide_eq_true e)
            have a3z : a3 = 0 ∨ ¬ a3 = 0 := Classical.em _
            refine both W (if a3 = 0 then hv (minG (fun _ => true) (fun z => edN (fun i => ((wS w s).2.2.2 i).toInt.toNat) (tuF (wX w) z) n 8) (sS (wX w))).1 else if (minG (fun _ => true) (fun z => edN (fun i => ((wS w s).2.2.2 i).toInt.toNat) (tuF (wX w) z) n 8) (sS (wX w))).1 = 0 then -1 else nI (minG (fun _ => true) (fun z => edN (fun i => ((wS w s).2.2.2 i).toInt.toNat) (tuF (wX w) z) n 8) (sS (wX w))).2) w O ?_ (fun h1 R => ?_)
            · rw [ha]
              refine Ret.icall C.U.1 (hr1 gs) fun h2 ⟨F2, N2⟩ => ?_
              obtain ⟨FC2, V2⟩ := V.scr F2 (by decide) (by decide)
              have C2 := FC2.I C
              have N2 : HrI h2 47 n (fun i => ((wS w s).2.2.2 i).toInt.toNat) := ⟨N2.1, N2.2.1, fun i hi => by
                have := N2.2.2 i hi
                dsimp only at this
                rw [rows i (by omega)] at this
                exact this⟩
              rw [if_neg (by decide), C2.g4, bd_ok, C2.g0, bd_ok]
              refine Ret.icall C2.U.1 (s_near C2.U C2.I O.1 V2.1 (by decide) N2) fun h3 ⟨F3, N3⟩ => ?_
              obtain ⟨FC3, V3⟩ := V.scr (F2.tr F3) (by decide) (by decide)
              have C3 := FC3.I C
              generalize minG (fun _ => true) (fun z => edN (fun i => ((wS w s).2.2.2 i).toInt.toNat) (tuF (wX w) z) n 8) (sS (wX w)) = g at ma ml ⊢
              obtain ⟨i1, i2, i3⟩ := ma
              by_cases z : g.1 = 0
              · rw [if_pos ((hv_m1 (by omega)).mpr z), if_pos z]
                have e1 : hv g.1 = -1 := by rw [z]; rfl
                rw [e1]
                have : (if a3 = 0 then (-1 : Int32) else -1) = -1 := by split <;> rfl
                rw [this]
                exact Ret.mk ⟨FC3, V3⟩
              · rw [if_neg (fun e => z ((hv_m1 (by omega)).mp e)), if_neg z]
                rcases a3z with e | e
                · rw [if_pos e, if_pos e]
                  exact Ret.mk ⟨FC3, V3⟩
                · rw [if_neg e, if_neg e, C3.g4, bd_ok, C3.g0, bd_ok]
                  have e2 : hv g.1 = nI (g.1 - 1) := by unfold hv; rw [if_neg z]
                  rw [e2, i3 z]
                  refine Ret.icall C3.U.1 (s_chg C3.U C3.I O.1 V3.1 (by decide) (by omega) N3) fun h4 ⟨F4, N4⟩ => ?_
                  exact Ret.mk (V.scr ((F2.tr F3).tr F4) (by decide) (by decide))
            · rw [hg2 h1 R]
              refine Ret.loop (lp := lp_X6_nearest_28 71 (nI s) (nI n) a3 _) (fun i q => Fr 101 1 h1 q ∧ ∀ j, j < i → hI q 101 j = nI ((wS w s).2.2.2 j).toInt.toNat) n (by omega) ⟨Fr.rf _ _ _, fun j hj => absurd hj (by omega)⟩ ?_ ?_
              · rintro t i q hi ⟨F, hr⟩ kk
                obtain ⟨R2, S2⟩ := R.scr F (by decide) (by decide)
                show Ret (lb_X6_nearest_28 71 _ _ _ _ _ _ q) _ _
                rw [r_step28 R2 hs q1 hi (by omega), if_pos (nts i hi)]
                refine kk _ ⟨F.tr (Fr.w (by omega) (by omega)), fun j hj => ?_⟩
                rw [hI_w]
                by_cases e : j = i
                · rw [e, upd_s]
                  exact ntO_i (nts i hi)
                · rw [upd_n _ _ e]
                  exact hr j (by omega)
              · rintro t q ⟨F, hr⟩
                obtain ⟨R2, S2⟩ := R.scr F (by decide) (by decide)
                show Ret (lb_X6_nearest_28 71 _ _ _ _ _ _ q) _ _
                unfold lb_X6_nearest_28
                rw [iY (by omega)]
                refine r_near R2 O ⟨by omega, fun i hi => ⟨hr i hi, by have := nts i hi; have := this.2; omega⟩⟩ fun q2 R3 S3 => ?_
                rcases a3z with e | e
                · rw [if_pos e, if_pos e]
                  exact Ret.mk ⟨R3, S2.tr S3⟩
                · rw [if_neg e, if_neg e]
                  exact Ret.mk ⟨R3, S2.tr S3⟩
        · refine told_no W hs hn (by decide) hb (by decide) gt ?_ ?_ hg
          · rw [ha, if_neg gt]
          · intro v h v0
            exact if_neg v0
      · rw [if_neg g3] at hg
        refine told_bad W hb (Or.inr (Or.inr rfl)) ?_ ?_ hg
        · unfold f_X5_nearest
          rw [cY 8 g1 (by decide), cY 9 g2 (by decide), cN 2 g3 (by decide)]
        · intro h
          exact if_neg (by decide)
    · refine told_bad W hb (Or.inr (Or.inl g2)) ?_ ?_ hg
      · unfold f_X5_nearest
        rw [cY 8 g1 (by decide), cN 9 g2 (by decide)]
      · intro h
        exact if_neg (by decide)
  · refine told_bad W hb (Or.inl g1) ?_ ?_ hg
    · unfold f_X5_nearest
      rw [cN 8 g1 (by decide)]
    · intro h
      exact if_neg (by decide)
end NEAR
