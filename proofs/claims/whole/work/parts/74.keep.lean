/-! BOTH SIDES: drawn, image, back, status -/
section DRAW
variable {h : HP} {m : Nat} {x : St}
theorem r_below (H : MdI h m) (V : VR h m x) {k : Nat} (hk : 0 < k) (hk2 : k < 100) : Ret (f_X6_below m (nI k) h) (nI (drN (sD x) k)) (fun h' => Fk m h h' ∧ VR h' m (uD x (drw (sD x)))) := by
  obtain ⟨h2, e2, H2, V2, F2⟩ := W_seed H V (drw (sD x))
  unfold f_X6_below
  rw [V.gd H, bd_ok]
  show Ret (Option.bind (pI 6 24 m (drw (sD x)) h) _) _ _
  rw [e2, bd_ok, V2.gd H2, bd_ok, dzN hk hk2, bd_ok, sD_uD]
  show Ret (some ((((drw (sD x)).toUInt32 >>> ((16 : Int32).toUInt32 &&& Int32.toUInt32 31)).toInt32) - ((((drw (sD x)).toUInt32 >>> ((16 : Int32).toUInt32 &&& Int32.toUInt32 31)).toInt32) / nI k) * nI k, h2)) _ _
  rw [drem hk hk2]
  exact Ret.mk ⟨F2, V2⟩
theorem r_drawn1 {α : Type} {G : Int32 → HP → Option (α × HP)} {v : α} {Q : HP → Prop} (H : MdI h m) (O : Ok x) (V : VR h m x) (hp : 0 < sP x) (kk : ∀ h', Fk m h h' → VR h' m (yearS (drS x)) → Ret (G (nI (fndN (yr1 (drS x)) (sS x))) h') v Q) : Ret (ob (inv 6 m h (f_X6_below m 10 h)) fun x46 h46 =>
    (pI 6 9 m x46 h46).bind fun h49 =>
    (gI 6 11 m h49).bind fun x54 =>
    ob (inv 6 m h49 (f_X6_below m x54 h49)) fun x57 h57 =>
    (gR 6 17 m h57).bind fun x63 =>
    ob (inv 6 m h57 (f_X6_below m 10 h57)) fun x71 h71 =>
    (sI x63 x57 x71 h71).bind fun h74 =>
    ob (inv 6 m h74 (f_X6_passes m h74)) fun x77 h77 =>
    G x77 h77) v Q := by
  have hP := O.1
  refine Ret.icall H.1 (r_below (k := 10) H V (by decide) (by decide)) fun h1 ⟨F1, V1⟩ => ?_
  have H1 := F1.Md H
  obtain ⟨h2, e2, H2, V2, F2⟩ := W_num H1 V1 (k := 2) (v := drN (sD x) 10) (by omega) (q := 9) rfl rfl
  rw [e2, bd_ok, V2.gp H2, bd_ok, sP_uV, sP_uD]
  refine Ret.icall H2.1 (r_below (k := sP x) H2 V2 hp (by omega)) fun h3 ⟨F3, V3⟩ => ?_
  rw [sD_uV, sD_uD] at V3
  rw [sD_uV, sD_uD]
  have H3 := F3.Md H2
  rw [H3.rk 3 (by decide) rfl (b := m + 20) rfl, bd_ok]
  refine Ret.icall H3.1 (r_below (k := 10) H3 V3 (by decide) (by decide)) fun h4 ⟨F4, V4⟩ => ?_
  rw [sD_uD] at V4
  rw [sD_uD]
  have H4 := F4.Md H3
  have hq : drN (drw (sD x)) (sP x) < 8 := by have := drN_lt (d := drw (sD x)) hp; omega
  obtain ⟨h5, e5, H5, V5, F5⟩ := W_row H4 V4 3 (by decide) (i := drN (drw (sD x)) (sP x)) (v := drN (drw (drw (sD x))) 10) hq rfl (b := m + 20) rfl
  rw [e5, bd_ok]
  have r := r_passes (x := drS x) H5 (Ok_drS O) V5
  rw [drS_S] at r
  exact Ret.icall H5.1 r fun h6 ⟨F6, V6⟩ => kk h6 (((((F1.tr F2).tr F3).tr F4).tr F5.w33).tr F6) V6
end DRAW
/-- all is kept; all is again -/
def wUK (w : Wd) : Wd := (w.1, some (wX w), w.2.2.1, w.2.2.2.1, wC w)
def bkS (P : Nat) (q : Sh) : Sh := if q.1 = 2 ∧ P ≤ q.2.1 then (0, q.2) else q
def wBK (w : Wd) (y : St) (n : Nat) : Wd := (y, w.2.1, w.2.2.1, fun s => if s < n then bkS (sP y) (wS w s) else wS w s, wC w)
def flN (S : Nat → Sh) : Nat → Nat
  | 0 => 0
  | s + 1 => if (S s).1 = 0 then flN S s else flN S s + 1
theorem sub12 {v : Int32} (g : inR (v - 12) 5) : ∃ k, k < 5 ∧ v = nI (12 + k) ∧ v - 12 = nI k := by
  obtain ⟨k, hk, e⟩ := inR_is g
  refine ⟨k, hk, ?_, e⟩
  have := Int32.sub_add_cancel v 12
  rw [e, show (12 : Int32) = nI 12 from rfl, nI_add] at this
  rw [← this, Nat.add_comm]
section KEEP
variable {h : HP} {w : Wd}
theorem al_drawn (W : WI h w) (a1 : Int32) : Alk (f_X5_drawn 0 a1) (f_X6_drawn 71 a1) h := by
  obtain ⟨O, C, V, -⟩ := id W
  have hP := O.1.1
  have e1 : (1 : Int64).toInt = 1 := rfl
  have e60 : (60 : Int64).toInt = 60 := rfl
  by_cases g1 : 1 ≤ a1.toInt ∧ a1.toInt ≤ 60
  · have ca := fun h1 (R : RR h1 71 w) => show f_X6_drawn 71 a1 h1 = _ by
      unfold f_X6_drawn
      rw [r_in2, e1, e60, if_pos g1, ob_ok, if_neg (by decide), R.v.gp R.md, bd_ok]
    have ha := show f_X5_drawn 0 a1 h = _ by
      unfold f_X5_drawn
      rw [cY 60 (dec_toInt.mpr g1) (by decide), C.g0, bd_ok, gI_ok C.I.1, bd_ok, V.1.p]
    obtain ⟨n, hn, en⟩ : ∃ n, n < 61 ∧ a1 = nI n := inR_is ⟨by omega, by have := g1.2; show a1.toInt < ((61 : Nat) : Int); omega⟩
    by_cases q : sP (wX w) = 0
    · refine no_both W (i := 3) (by decide) (v := -5) (by decide) (by decide) ?_ (fun h1 R => ?_)
      · rw [ha, if_pos (show nI (sP (wX w)) = 0 by rw [q]; rfl)]
      · rw [ca h1 R, if_pos (show nI (sP (wX w)) = 0 by rw [q]; rfl)]
    · have qn : ¬ nI (sP (wX w)) = 0 := eqN (m := 0) q (by decide) (by omega)
      subst en
      refine both W (nI (drC (wX w) n)) (wUX w (drY (wX w) n)) (OkW_now O (Ok_drY O.1 n) (by rw [drY_P]; exact Nat.le_refl _)) ?_ (fun h1 R => ?_)
      · rw [ha, if_neg qn]
        refine Ret.loopA (lp := lp_X5_drawn_39 0 (nI n) _) (fun i => nI (drC (wX w) i)) (fun i q => FC h q ∧ CV q (wUX w (drY (wX w) i))) n (by omega) rfl ⟨FC.rf h, V⟩ ?_ ?_
        · rintro t i h2 hi ⟨F2, V2⟩ kk
          have C2 := F2.I C
          show Ret (lb_X5_drawn_39 0 _ _ _ _ _ h2) _ _
          unfold lb_X5_drawn_39
          rw [iN hi (by omega), C2.g0, bd_ok, nI1]
          refine Ret.icall C2.I.1 (s_drawn C2.I (Ok_drY O.1 i) V2.1 (by rw [drY_P]; omega)) fun h3 ⟨F3, V3⟩ => ?_
          obtain ⟨CF, CV3⟩ := V2.now F3 V3
          have := kk h3 ⟨F2.tr CF, CV3⟩
          rw [nI_add]
          exact this
        · rintro t h2 ⟨F2, V2⟩
          show Ret (lb_X5_drawn_39 0 _ _ _ _ _ h2) _ _
          unfold lb_X5_drawn_39
          rw [iY (by omega)]
          exact Ret.mk ⟨F2, V2⟩
      · rw [ca h1 R, if_neg qn]
        refine Ret.loopA (lp := lp_X6_drawn_37 71 (nI n) _) (fun i => nI (drC (wX w) i)) (fun i q => RR q 71 (wUX w (drY (wX w) i)) ∧ Sm 71 h1 q) n (by omega) rfl ⟨R, Sm.rf _ _⟩ ?_ ?_
        · rintro t i h2 hi ⟨R2, S2⟩ kk
          show Ret (lb_X6_drawn_37 71 _ _ _ _ _ h2) _ _
          unfold lb_X6_drawn_37
          rw [iN hi (by omega), nI1]
          refine r_drawn1 (x := drY (wX w) i) R2.md (Ok_drY O.1 i) R2.v (by rw [drY_P]; omega) fun h3 F3 V3 => ?_
          obtain ⟨R3, S3⟩ := R2.now F3 V3
          have := kk h3 ⟨R3, S2.tr S3⟩
          rw [nI_add]
          exact this
        · rintro t h2 ⟨R2, S2⟩
          show Ret (lb_X6_drawn_37 71 _ _ _ _ _ h2) _ _
          unfold lb_X6_drawn_37
          rw [iY (by omega)]
          exact Ret.mk ⟨R2, S2⟩
  · refine bad W ?_ (fun h1 R => ?_)
    · unfold f_X5_drawn
      rw [cN 60 (fun e => g1 (dec_toInt.mp e)) (by decide)]
    · unfold f_X6_drawn
      rw [r_in2, e1, e60, if_neg g1, ob_ok, if_pos rfl]
theorem r_image (O : OkW w) (R : RR h 71 w) : Ret (f_X6_image 71 h) 1 (fun h1 => RR h1 71 (wUK w) ∧ Sm 71 h h1) := by
  have fin : ∀ {h1 : HP} {c1 : Nat} {f1 : Nat → Option Nat} {j : Nat}, RI h1 71 c1 f1 → (VR h1 71 (wX w) ∧ TpI h1 86 (wT w) (wZ w) ∧ hI h1 71 7 = nI (wZ w) ∧ (∀ s, s < 8 → ShR h1 71 s (wS w s)) ∧ ∀ i, i < 5 → hI h1 87 (2 + i) = wC w i) → f1 0 = some j → Sm 71 h h1 → Ret ((gR 6 25 71 h1).bind fun x19 => ob (inv 6 x19 h1 (f_X6_takeFrom x19 71 h1)) fun _ h23 => some ((1 : Int32), h23)) 1 (fun h1 => RR h1 71 (wUK w) ∧ Sm 71 h h1) := by
    rintro h1 c1 f1 j R1 ⟨v1, v4, v5, v6, v7⟩ hj S
    have e25 := R1.2.2.2.2.1 0 (by decide)
    rw [hj] at e25
    have e25 : hR h1 71 25 = some (71 + 33 * j) := e25
    have hj2 := R1.2.2.2.2.2.1 0 (by decide) j hj
    have Mj := R1.2.2.2.1 j hj2.1 hj2.2
    have M := R1.2.2.1
    rw [gR_ok M.1 e25, bd_ok]
    refine Ret.icall Mj.1 (r_take Mj M O.1 v1 (by omega)) fun h2 ⟨F2, V2⟩ => ?_
    have e : ∀ q, q < 104 → hI h2 q = hI h1 q := fun q hq => F2.1.2.2.2.2.2 q (by omega)
    refine Ret.mk ⟨⟨c1, f1, R1.fr F2.1, v1.fr F2.1 (by omega), fun q => absurd q (by show ¬ some (wX w) = none; simp), fun y hy => ⟨j, hj, by obtain rfl := Option.some.inj hy; exact V2⟩, v4.keep (e _ (by omega)), by rw [e _ (by omega)]; exact v5, fun s hs => ?_, fun i hi => by rw [e _ (by omega)]; exact v7 i hi⟩, S.tr (fun q hq => ⟨by rw [F2.1.2.2.1], by rw [F2.1.2.2.2.1], e q (by omega), by rw [F2.1.2.2.2.2.1]⟩)⟩
    obtain ⟨s1, s2, s3⟩ := v6 s hs
    refine ⟨by rw [e _ (by omega)]; exact s1, fun g => ?_, fun g => by rw [e _ (by omega)]; exact s3 g⟩
    obtain ⟨t1, t2, t3⟩ := s2 g
    exact ⟨by rw [e _ (by omega)]; exact t1, by rw [e _ (by omega)]; exact t2, fun i hi => by rw [F2.1.2.2.2.2.1]; exact t3 i hi⟩
  obtain ⟨c, f, R1, R2⟩ := R
  have hm := R1.2.2.1
  have hc := R1.c4
  have e25 := R1.2.2.2.2.1 0 (by decide)
  obtain ⟨v1, v2, v3, v4, v5, v6, v7⟩ := R2
  unfold f_X6_image
  rw [gN_ok hm.1, bd_ok, show (25 : Nat) = 25 + 0 from rfl, e25]
  cases hf : f 0 with
  | none =>
    rw [if_pos (by rfl)]
    refine r_lazy R1 (i := 0) (by decide) hf rfl fun h1 Q1 e1 K1 K2 => ?_
    have e : ∀ q, q < 104 → hI h1 q = hI h q ∧ hJ h1 q = hJ h q := fun q hq => ⟨(K1 q (by omega)).2.1, (K1 q (by omega)).2.2.1⟩
    refine fin Q1 ⟨VG.obj v1 (fun k hk => by rw [(e 71 (by omega)).1]) (fun q h1 h2 => (e q (by omega)).1), v4.keep (e 86 (by omega)).1, by rw [(e 71 (by omega)).1]; exact v5, fun s hs => ?_, fun i hi => by rw [(e 87 (by omega)).1]; exact v7 i hi⟩ rfl (fun q hq => ⟨(K1 q (by omega)).1, (K1 q (by omega)).2.2.2 (by omega), (K1 q (by omega)).2.1, (K1 q (by omega)).2.2.1⟩)
    obtain ⟨s1, s2, s3⟩ := v6 s hs
    refine ⟨by rw [(e 72 (by omega)).1]; exact s1, fun g => ?_, fun g => by rw [(e 85 (by omega)).1]; exact s3 g⟩
    obtain ⟨t1, t2, t3⟩ := s2 g
    exact ⟨by rw [(e 73 (by omega)).1]; exact t1, by rw [(e 74 (by omega)).1]; exact t2, fun i hi => by rw [(e (71 + 5 + s) (by omega)).2]; exact t3 i hi⟩
  | some j =>
    rw [if_neg (by simp)]
    exact fin R1 ⟨v1, v4, v5, v6, v7⟩ hf (Sm.rf _ _)
theorem al_image (W : WI h w) : Alk (f_X5_image 0) (f_X6_image 71) h := by
  obtain ⟨O, C, V, -⟩ := id W
  refine both W 1 (wUK w) ⟨O.1, fun y hy => by obtain rfl := Option.some.inj hy; exact O.1, O.2.2⟩ ?_ (fun h1 R => r_image O R)
  unfold f_X5_image
  rw [C.g1, bd_ok, C.g0, bd_ok]
  refine Ret.icall C.K.1 (s_become C.K C.I O.1 V.1 (by omega)) fun h2 ⟨F2, V2⟩ => ?_
  have o2 := F2.OA C.1
  unfold pZ
  rw [if_pos ⟨o2.o, Or.inr rfl⟩, bd_ok]
  have F3 := F2.wide (b := 0) (k := 23) (by omega) (by omega) |>.tr (Fr.w (a := 0) (n := 23) (b := 0) (h := h2) (g := upd (hI h2 0) 8 1) (by omega) (by omega))
  obtain ⟨v1, v2, v3, v4, v5, v6, v7⟩ := V
  have e : ∀ q, q ≠ 0 → (q < 12 ∨ 23 ≤ q) → hI (wI h2 0 (upd (hI h2 0) 8 1)) q = hI h q := fun q h0 hq => by rw [hI_wn _ _ h0, F2.2.2.2.2.2 q (by omega)]
  refine Ret.mk ⟨F3.C (by decide), v1.keep (fun q h1 h2 => e q (by omega) (by omega)), fun y hy => ?_, by rw [hI_w]; rfl, v4.keep (e 51 (by decide) (by omega)), by rw [e 50 (by decide) (by omega)]; exact v5, fun s hs => (v6 s hs).keep (e _ (by omega) (by omega)) (by rw [F3.2.2.2.2.1]), fun i hi => by rw [e 54 (by decide) (by omega)]; exact v7 i hi⟩
  obtain rfl := Option.some.inj hy
  exact V2.keep (fun q h1 h2 => hI_wn _ _ (by omega))
theorem al_status (W : WI h w) (a1 : Int32) : Alk (f_X5_status 0 a1) (f_X6_status 71 a1) h := by
  obtain ⟨O, C, V, -⟩ := id W
  have hP := O.1.1
  have hkn := knoN_lt O.1
  by_cases g1 : inR a1 8
  · obtain ⟨k, hk, rfl⟩ := inR_is g1
    have hc : k = 0 ∨ k = 1 ∨ k = 2 ∨ k = 3 ∨ k = 4 ∨ k = 5 ∨ k = 6 ∨ k = 7 := by omega
    rcases hc with rfl | rfl | rfl | rfl | rfl | rfl | rfl | rfl
    · refine both_q W (nI (sP (wX w))) ?_ (fun h1 R => ?_)
      · unfold f_X5_status
        rw [if_pos (by decide), C.g0, bd_ok, gI_ok C.I.1, bd_ok, V.1.p]
      · unfold f_X6_status
        rw [if_pos (by decide), R.v.gp R.md, bd_ok]
    · refine both_q W (nI (sS (wX w))) ?_ (fun h1 R => ?_)
      · unfold f_X5_status
        rw [if_neg (by decide), if_pos (by decide), C.g0, bd_ok, gI_ok C.I.1, bd_ok, V.1.s]
      · unfold f_X6_status
        rw [if_neg (by decide), if_pos (by decide), R.v.gs R.md, bd_ok]
    · refine both_q W (nI (sV (wX w) 2)) ?_ (fun h1 R => ?_)
      · unfold f_X5_status
        rw [if_neg (by decide), if_neg (by decide), if_pos (by decide), C.g0, bd_ok, gI_ok C.I.1, bd_ok, V.1.w]
      · unfold f_X6_status
        rw [if_neg (by decide), if_neg (by decide), if_pos (by decide), R.v.gw R.md, bd_ok]
    · refine both_q W (nI (sV (wX w) 3)) ?_ (fun h1 R => ?_)
      · unfold f_X5_status
        rw [if_neg (by decide), if_neg (by decide), if_neg (by decide), if_pos (by decide), C.g0, bd_ok, gI_ok C.I.1, bd_ok, V.1.y]
      · unfold f_X6_status
        rw [if_neg (by decide), if_neg (by decide), if_neg (by decide), if_pos (by decide), R.v.gy R.md, bd_ok]
    · refine both_q W (nI (pop (knoN (wX w)))) ?_ (fun h1 R => ?_)
      · unfold f_X5_status
        rw [if_neg (by decide), if_neg (by decide), if_neg (by decide), if_neg (by decide), if_pos (by decide), C.g0, bd_ok, inv_ok C.I.1, s_known C.I O.1 V.1, ob_ok, f_bitCount _ _ (by omega), ob_ok]
      · unfold f_X6_status
        rw [if_neg (by decide), if_neg (by decide), if_neg (by decide), if_neg (by decide), if_pos (by decide), inv_ok R.md.1, r_known R.md O.1 R.v, ob_ok, r_bits _ _ (by omega), ob_ok]
    · refine both_q W (nI (wZ w)) ?_ (fun h1 R => ?_)
      · unfold f_X5_status
        rw [if_neg (by decide), if_neg (by decide), if_neg (by decide), if_neg (by decide), if_neg (by decide), if_pos (by decide), C.g5, bd_ok, gI_ok C.Rd.1, bd_ok, V.2.2.2.2.1]
      · unfold f_X6_status
        rw [if_neg (by decide), if_neg (by decide), if_neg (by decide), if_neg (by decide), if_neg (by decide), if_pos (by decide), gI_ok R.md.1, bd_ok, R.tp.2]
    · refine both_q W (sD (wX w)) ?_ (fun h1 R => ?_)
      · unfold f_X5_status
        rw [if_neg (by decide), if_neg (by decide), if_neg (by decide), if_neg (by decide), if_neg (by decide), if_neg (by decide), if_pos (by decide), C.g0, bd_ok, gI_ok C.I.1, bd_ok, V.1.d]
      · unfold f_X6_status
        rw [if_neg (by decide), if_neg (by decide), if_neg (by decide), if_neg (by decide), if_neg (by decide), if_neg (by decide), if_pos (by decide), R.v.gd R.md, bd_ok]
    · refine both_q W (nI (flN (wS w) 8)) ?_ (fun h1 R => ?_)
      · unfold f_X5_status
        rw [if_neg (by decide), if_neg (by decide), if_neg (by decide), if_neg (by decide), if_neg (by decide), if_neg (by decide), if_neg (by decide), if_pos (by decide), inv_ok C.1]
        have L : f_X5_filledShelves 0 h = some (nI (flN (wS w) 8), h) := by
          refine loop_acc (lp := lp_X5_filledShelves_4 0 _) 8 (by decide) (fun i => nI (flN (wS w) i)) h (K := fun v h => some (v, h)) (fun t => ?_) (fun t s hs => ?_)
          · show lb_X5_filledShelves_4 0 _ _ _ _ h = _
            unfold lb_X5_filledShelves_4
            rw [if_pos (show (8 : Int32) ≤ nI 8 by decide)]
          · show lb_X5_filledShelves_4 0 _ _ _ _ h = _
            unfold lb_X5_filledShelves_4
            have cn := (cnt_neg (O.2.2.1 s hs) hP).1
            have e : flN (wS w) (s + 1) = if (wS w s).1 = 0 then flN (wS w) s else flN (wS w) s + 1 := rfl
            rw [if_neg (show ¬ ((8 : Int32) ≤ nI s) from leN hs (by decide)), C.g6, bd_ok, C.ls hs, bd_ok, gI_ok (C.sh hs).1, bd_ok, (V.2.2.2.2.2.1 s hs).1, nI1, nI1, e]
            by_cases q : (wS w s).1 = 0
            · rw [if_pos (cn.mpr q), if_pos q]
            · rw [if_neg (fun e => q (cn.mp e)), if_neg q]
        rw [L, ob_ok]
      · unfold f_X6_status
        rw [if_neg (by decide), if_neg (by decide), if_neg (by decide), if_neg (by decide), if_neg (by decide), if_neg (by decide), if_neg (by decide), if_pos (by decide)]
        obtain ⟨c, f, R1, R2⟩ := id R
        refine loop_acc (lp := lp_X6_status_90 71 _) 8 (by decide) (fun i => nI (flN (wS w) i)) h1 (K := fun v h => some (v, h)) (fun t => ?_) (fun t s hs => ?_)
        · show lb_X6_status_90 71 _ _ _ _ h1 = _
          unfold lb_X6_status_90
          rw [if_pos (show (8 : Int32) ≤ nI 8 by decide)]
        · show lb_X6_status_90 71 _ _ _ _ h1 = _
          unfold lb_X6_status_90
          have e : flN (wS w) (s + 1) = if (wS w s).1 = 0 then flN (wS w) s else flN (wS w) s + 1 := rfl
          have s1 : hI h1 72 s = nI (wS w s).1 := (R2.2.2.2.2.2.1 s hs).1
          have s2 := (O.2.2.1 s hs).1
          rw [if_neg (show ¬ ((8 : Int32) ≤ nI s) from leN hs (by decide)), R.md.r 0 1 8 (by decide) (b := 72) rfl, bd_ok, lI_ok (R.md.a 0 1 8 (by decide) (b := 72) rfl) hs (by decide), bd_ok, s1, nI1, nI1, Int32.add_zero, e]
          by_cases q : (wS w s).1 = 0
          · rw [if_pos (show nI (wS w s).1 = 0 by rw [q]; rfl), if_pos q]
          · rw [if_neg (show ¬ nI (wS w s).1 = 0 from eqN (m := 0) q (by decide) (by omega)), if_neg q]
  · have ha := show f_X5_status 0 a1 h = _ by
      unfold f_X5_status
      rw [if_neg (show ¬ a1 = 0 from out_ne (k := 0) g1 (by decide) (by decide)), if_neg (show ¬ a1 = 1 from out_ne (k := 1) g1 (by decide) (by decide)), if_neg (show ¬ a1 = 2 from out_ne (k := 2) g1 (by decide) (by decide)), if_neg (show ¬ a1 = 3 from out_ne (k := 3) g1 (by decide) (by decide)), if_neg (show ¬ a1 = 4 from out_ne (k := 4) g1 (by decide) (by decide)), if_neg (show ¬ a1 = 5 from out_ne (k := 5) g1 (by decide) (by decide)), if_neg (show ¬ a1 = 6 from out_ne (k := 6) g1 (by decide) (by decide)), if_neg (show ¬ a1 = 7 from out_ne (k := 7) g1 (by decide) (by decide))]
    have ca := fun (h1 : HP) (R : RR h1 71 w) => show f_X6_status 71 a1 h1 = _ by
      unfold f_X6_status
      rw [if_neg (show ¬ a1 = 0 from out_ne (k := 0) g1 (by decide) (by decide)), if_neg (show ¬ a1 = 1 from out_ne (k := 1) g1 (by decide) (by decide)), if_neg (show ¬ a1 = 2 from out_ne (k := 2) g1 (by decide) (by decide)), if_neg (show ¬ a1 = 3 from out_ne (k := 3) g1 (by decide) (by decide)), if_neg (show ¬ a1 = 4 from out_ne (k := 4) g1 (by decide) (by decide)), if_neg (show ¬ a1 = 5 from out_ne (k := 5) g1 (by decide) (by decide)), if_neg (show ¬ a1 = 6 from out_ne (k := 6) g1 (by decide) (by decide)), if_neg (show ¬ a1 = 7 from out_ne (k := 7) g1 (by decide) (by decide))]
    have e12 : (12 : Int64).toInt = 12 := rfl
    have e16 : (16 : Int64).toInt = 16 := rfl
    by_cases g2 : inR (a1 - 12) 5
    · obtain ⟨k, hk, e, e3⟩ := sub12 g2
      refine both_q W (wC w k) (ha.trans ?_) (fun h1 R => (ca h1 R).trans ?_)
      · rw [cY 5 g2 (by decide), C.g7, bd_ok, e3, lI_ok C.2.2.2.2.2.2.2.2.2.2 hk (by decide), bd_ok, V.2.2.2.2.2.2 k hk]
      · obtain ⟨c, f, R1, R2⟩ := id R
        have e7 : hI h1 87 (2 + k) = wC w k := R2.2.2.2.2.2.2 k hk
        have ti : a1.toInt = ((12 + k : Nat) : Int) := by rw [e, nI_toInt (by omega)]
        rw [r_in2, e12, e16, if_pos (by rw [ti]; omega), ob_ok, if_neg (by decide), R.md.r 8 16 8 (by decide) (b := 87) rfl, bd_ok, e, show nI (12 + k) - 10 = nI (2 + k) by rw [show (10 : Int32) = nI 10 from rfl, pk_sub (by omega)]; congr 1; omega, lI_ok (R.md.a 8 16 8 (by decide) (b := 87) rfl) (by omega) (by decide), bd_ok, e7]
    · refine both_q W (-1) (ha.trans ?_) (fun h1 R => (ca h1 R).trans ?_)
      · rw [cN 5 g2 (by decide)]
      · rw [r_in2, e12, e16, if_neg (fun q => g2 (by
          have q1 := q.1
          have q2 := q.2
          obtain ⟨k, hk, e⟩ := inR_is (v := a1) (n := 17) ⟨by omega, by show a1.toInt < ((17 : Nat) : Int); omega⟩
          subst e
          rw [nI_toInt (by omega)] at q1
          rw [show (12 : Int32) = nI 12 from rfl, pk_sub (by omega)]
          exact (inR_n (by omega)).mpr (by omega))), ob_ok, if_pos rfl]
end KEEP
