/-! BOTH SIDES: an isle read, the reference; tell, pass, taught, seed -/
section ISLE6
variable {h : HP} {w : Wd}
theorem RW.of {h h' : HP} {c : Nat} {f : Nat → Option Nat} {w : Wd} {x : St} (R1 : RI h 71 c f) (R2 : RW h 71 f w) (F : Fy 71 h h') (V : VR h' 71 x) : RW h' 71 f (wUX w x) := by
  obtain ⟨v1, v2, v3, v4, v5, v6, v7⟩ := R2
  have e : ∀ q, 71 < q → q < 88 → hI h' q = hI h q := fun q h1 h2 => F.2.1 q h1 (by omega)
  refine ⟨V, v2, fun y hy => ?_, v4.keep (e _ (by omega) (by omega)), F.2.2.trans v5, fun s hs => ?_, fun i hi => by rw [e _ (by omega) (by omega)]; exact v7 i hi⟩
  · obtain ⟨j, hj, hv⟩ := v3 y hy
    have := R1.2.2.2.2.2.1 0 (by decide) j hj
    exact ⟨j, hj, VG.fr F.1 (by omega) (by omega) hv⟩
  · obtain ⟨s1, s2, s3⟩ := v6 s hs
    refine ⟨by rw [e _ (by omega) (by omega)]; exact s1, fun g => ?_, fun g => by rw [e _ (by omega) (by omega)]; exact s3 g⟩
    obtain ⟨t1, t2, t3⟩ := s2 g
    exact ⟨by rw [e _ (by omega) (by omega)]; exact t1, by rw [e _ (by omega) (by omega)]; exact t2, fun i hi => by rw [F.1.2.2.2.2.1]; exact t3 i hi⟩
theorem r_ref71 {h1 : HP} (R : RR h 71 w) {v u : Int32} {i : Nat} (hi : i < 5) (e : -v = nI (2 + i)) (q : f_X6_refuse 71 v h = some (u, h1)) : hI h1 71 = hI h 71 := by
  unfold f_X6_refuse at q
  rw [R.md.r 8 16 8 (by decide) rfl, bd_ok, e, lI_ok (R.md.a 8 16 8 (by decide) rfl) (by omega) (by decide), bd_ok, sI_ok (R.md.a 8 16 8 (by decide) rfl) (by omega) (by decide), bd_ok] at q
  obtain ⟨-, rfl⟩ := Prod.mk.inj (Option.some.inj q)
  exact hI_wn _ _ (by decide)
theorem r_isle (O : OkW w) (R : RR h 71 w) {z : Nat ⊕ (St × Nat)} (hz : rdA (wT w) (wZ w) 250 (wX w) 0 1 = some z) : Ret (f_X6_isle 71 h) (isV z) (fun h1 => RR h1 71 (isW w z) ∧ Sm 71 h h1) := by
  have hT := O.2.2.2.2
  have fin : ∀ {h1 : HP} {c1 : Nat} {f1 : Nat → Option Nat} {j : Nat}, RI h1 71 c1 f1 → RW h1 71 f1 w → f1 1 = some j → Sm 71 h h1 → Ret ((gR 6 26 71 h1).bind fun x19 =>
    ob (inv 6 x19 h1 (f_X6_takeFrom x19 71 h1)) fun _ h23 =>
    ob (inv 6 71 h23 (f_X6_readAll 71 h23)) fun x27 h27 =>
    (pI 6 7 71 0 h27).bind fun h33 =>
    if x27 = 0 then
      (gR 6 26 71 h33).bind fun x42 =>
      ob (inv 6 71 h33 (f_X6_takeFrom 71 x42 h33)) fun _ h45 =>
      ob (inv 6 71 h45 (f_X6_refuse 71 (-2) h45)) fun x51 h51 =>
      (gI 6 32 71 h51).bind fun x58 =>
      some ((-20) - x58, h51)
    else
      (gI 6 34 71 h33).bind fun x64 =>
      some (x64, h33)) (isV z) (fun h1 => RR h1 71 (isW w z) ∧ Sm 71 h h1) := by
    intro h1 c1 f1 j R1 R2 hj S
    have e26 := R1.2.2.2.2.1 1 (by decide)
    rw [hj] at e26
    have e26 : hR h1 71 26 = some (71 + 33 * j) := e26
    have hj2 := R1.2.2.2.2.2.1 1 (by decide) j hj
    have Mj := R1.2.2.2.1 j hj2.1 hj2.2
    have M := R1.2.2.1
    rw [gR_ok M.1 e26, bd_ok]
    refine Ret.icall Mj.1 (r_take Mj M O.1 R2.1 (by omega)) fun h2 ⟨F2, V2⟩ => ?_
    have apart : ∀ j0, f1 0 = some j0 → j0 ≠ j := fun j0 h0 e2 => by
      rw [e2] at h0
      have := R1.2.2.2.2.2.2.1 0 (by decide) 1 (by decide) j h0 hj
      omega
    have R1' := R1.fr F2.1
    have R2' : RW h2 71 f1 w := R2.keep R1 rfl (fun q hq => ⟨F2.1.2.2.2.2.2 q (by
      rcases hq with hq | ⟨j0, h0, h1, h2⟩
      · omega
      · rcases Nat.lt_or_gt_of_ne (apart j0 h0) with g | g <;> omega), by rw [F2.1.2.2.2.2.1]⟩)
    have M2 := R1'.2.2.1
    refine Ret.icall M2.1 (r_readAll M2 R2'.2.2.2.1 R2'.2.2.2.2.1 O.1 R2'.1 rfl hz) fun h3 ⟨F3, A3, B3⟩ => ?_
    have R13 := R1'.fr F3.1
    have M3 := R13.2.2.1
    rw [pI_pw M3.1, bd_ok]
    have F4 : Fr 71 33 h3 (pw h3 71 7 0) := Fr.pw (by omega) (by omega)
    have p7 : hI (pw h3 71 7 0) 71 7 = nI 0 := pw_s _ _ _ _
    have pn : ∀ k, k ≠ 7 → hI (pw h3 71 7 0) 71 k = hI h3 71 k := fun k hk => pw_n _ _ _ hk
    have po : ∀ q, q ≠ 71 → hI (pw h3 71 7 0) q = hI h3 q := fun q hq => hI_wn _ _ hq
    have pv : ∀ {x : St}, VR h3 71 x → VR (pw h3 71 7 0) 71 x := fun V => VR_fld V (fun k hk => (φR_lt k hk).2)
    generalize pw h3 71 7 0 = h4 at F4 p7 pn po pv ⊢
    have R14 := R13.fr F4
    have M4 := R14.2.2.1
    have S3 : Sm 71 h1 h3 := fun q hq => ⟨by rw [F3.1.2.2.1, F2.1.2.2.1], by rw [F3.1.2.2.2.1, F2.1.2.2.2.1], (F3.1.2.2.2.2.2 q (by omega)).trans (F2.1.2.2.2.2.2 q (by omega)), by rw [F3.1.2.2.2.2.1, F2.1.2.2.2.2.1]⟩
    cases z with
    | inl p =>
      have e26' : hR h4 71 26 = some (71 + 33 * j) := by rw [F4.2.2.2.1, F3.1.2.2.2.1, F2.1.2.2.2.1]; exact e26
      have Mj4 := R14.2.2.2.1 j hj2.1 hj2.2
      have Vj4 : VR h4 (71 + 33 * j) (wX w) := (V2.fr F3.1 (by omega)).fr F4 (by omega)
      rw [show stB (.inl p) = 0 from rfl, if_pos rfl, gR_ok M4.1 e26', bd_ok]
      refine Ret.icall M4.1 (r_take M4 Mj4 O.1 Vj4 (by omega)) fun h5 ⟨F5, V5⟩ => ?_
      have R15 := R14.fr F5.1
      have e : ∀ q, 71 < q → q < 88 → hI h5 q = hI h2 q := fun q h1 h2 => by rw [F5.2.1 q h1 (by omega), po q (by omega), F3.2.1 q h1 (by omega)]
      have ej : hJ h5 = hJ h2 := by rw [F5.1.2.2.2.2.1, F4.2.2.2.2.1, F3.1.2.2.2.2.1]
      have W5 : RW h5 71 f1 (wUT w (wT w) 0) := by
        obtain ⟨v1, v2, v3, v4, v5, v6, v7⟩ := R2'
        refine ⟨V5, v2, fun y hy => ?_, ⟨by show 0 ≤ 250; omega, hT, fun i hi => absurd hi (by show ¬ i < 0; omega)⟩, by rw [F5.2.2 7 (fun k hk => (φR_lt k hk).2)]; exact p7, fun s hs => ?_, fun i hi => by rw [e _ (by omega) (by omega)]; exact v7 i hi⟩
        · obtain ⟨j0, hj0, hv⟩ := v3 y hy
          have := R1'.2.2.2.2.2.1 0 (by decide) j0 hj0
          exact ⟨j0, hj0, VG.fr F5.1 (by omega) (by omega) (VG.fr F4 (by omega) (by omega) (VG.fr F3.1 (by omega) (by omega) hv))⟩
        · obtain ⟨s1, s2, s3⟩ := v6 s hs
          refine ⟨by rw [e _ (by omega) (by omega)]; exact s1, fun g => ?_, fun g => by rw [e _ (by omega) (by omega)]; exact s3 g⟩
          obtain ⟨t1, t2, t3⟩ := s2 g
          exact ⟨by rw [e _ (by omega) (by omega)]; exact t1, by rw [e _ (by omega) (by omega)]; exact t2, fun i hi => by rw [ej]; exact t3 i hi⟩
      have RR5 : RR h5 71 (wUT w (wT w) 0) := ⟨c1, f1, R15, W5⟩
      obtain ⟨h6, e6, R6, S6⟩ := r_refuse RR5 (v := -2) (i := 0) (by decide) (by decide)
      have e71 := r_ref71 RR5 (v := -2) (i := 0) (by decide) (by decide) e6
      have S5 : Sm 71 h3 h5 := fun q hq => ⟨by rw [F5.1.2.2.1, F4.2.2.1], by rw [F5.1.2.2.2.1, F4.2.2.2.1], (F5.1.2.2.2.2.2 q (by omega)).trans (F4.2.2.2.2.2 q (by omega)), by rw [F5.1.2.2.2.2.1, F4.2.2.2.2.1]⟩
      rw [inv_ok RR5.md.1, e6, ob_ok, gI_ok R6.md.1, bd_ok, e71, F5.2.2 32 (by decide), pn 32 (by decide), A3 p rfl]
      exact Ret.mk ⟨R6, ((S.tr S3).tr S5).tr S6⟩
    | inr q =>
      obtain ⟨Oq, hq, hP⟩ := rdA_ok hT _ _ _ _ _ O.1 (Nat.zero_le _) hz
      obtain ⟨V3, e34⟩ := B3 q rfl
      rw [show stB (.inr q) = 1 from rfl, if_neg (by decide), gI_ok M4.1, bd_ok, pn 34 (by decide), e34]
      have W3 := RW.of R1' R2' F3 V3
      have RR3 : RR h3 71 (wUX w q.1) := ⟨c1, f1, R13, W3⟩
      obtain ⟨RR4, S4⟩ := RR3.tape (T := wT w) (n := 0) F4 (fun q h1 _ => po q h1) pn ⟨by omega, hT, fun i hi => absurd hi (by omega)⟩ p7
      exact Ret.mk ⟨RR4, (S.tr S3).tr S4⟩
  obtain ⟨c, f, R1, R2⟩ := R
  have hm := R1.2.2.1
  have hc := R1.c4
  have e26 := R1.2.2.2.2.1 1 (by decide)
  unfold f_X6_isle
  rw [gN_ok hm.1, bd_ok, show (26 : Nat) = 25 + 1 from rfl, e26]
  cases hf : f 1 with
  | none =>
    rw [if_pos (by rfl)]
    refine r_lazy R1 (i := 1) (by decide) hf rfl fun h1 Q1 e1 K1 K2 => ?_
    refine fin Q1 (R2.keep R1 (by rfl) (fun q hq => ?_)) rfl (fun q hq => ⟨(K1 q (by omega)).1, (K1 q (by omega)).2.2.2 (by omega), (K1 q (by omega)).2.1, (K1 q (by omega)).2.2.1⟩)
    have : q < 71 + 33 * c := by
      rcases hq with hq | ⟨j, h0, h1, h2⟩
      · omega
      · have := R1.2.2.2.2.2.1 0 (by decide) j h0
        omega
    exact ⟨(K1 q this).2.1, (K1 q this).2.2.1⟩
  | some j =>
    rw [if_neg (by simp)]
    exact fin R1 R2 hf (Sm.rf _ _)
theorem al_isle (W : WI h w) : Alk (f_X5_isle 0) (f_X6_isle 71) h := by
  obtain ⟨O, C, V, -⟩ := id W
  have hT := O.2.2.2.2
  have hZ := O.2.2.2.1
  obtain ⟨z, hz⟩ := rdA_some hT 250 (wX w) 0 1 O.1 (Nat.zero_le (wZ w)) (by omega)
  refine both W (isV z) (isW w z) ?_ (c_isle W hz) (fun h1 R => r_isle O R hz)
  cases z with
  | inl p => exact OkW_tape O (by decide) hT
  | inr q =>
    obtain ⟨Oq, hq, hP⟩ := rdA_ok hT _ _ _ _ _ O.1 (Nat.zero_le _) hz
    exact OkW_tape (OkW_now O Oq hP) (by decide) hT
theorem al_tell (W : WI h w) (a1 a2 : Int32) : Alk (f_X5_tell 0 a1 a2) (f_X6_tell 71 a1 a2) h := by
  obtain ⟨O, C, V, -⟩ := id W
  by_cases g1 : inR a1 2
  · obtain ⟨k, hk, rfl⟩ := inR_is g1
    have hc : k = 0 ∨ k = 1 := by omega
    rcases hc with rfl | rfl
    · by_cases g2 : inR a2 10
      · obtain ⟨v, hv3, rfl⟩ := inR_is g2
        refine both W (nI (sV (wX w) 2)) (wUX w (uV (wX w) 2 v)) (OkW_now O (Ok_uV O.1 (fun _ => hv3) (fun q => by cases q) (fun q => by cases q)) (Nat.le_refl _)) ?_ (fun h1 R => ?_)
        · unfold f_X5_tell
          rw [cY 2 g1 (by decide), if_pos (by decide), cY 10 g2 (by decide), C.g0, bd_ok, gI_ok C.I.1, bd_ok, V.1.w, bd_ok, pI_ok C.I.1, bd_ok]
          exact Ret.mk (V.now (Fr.w (by omega) (by omega)) (VC_num V.1 (by omega)))
        · obtain ⟨h2, e2, H2, V2, F2⟩ := W_num R.md R.v (k := 2) (v := v) (by omega) (q := 9) rfl rfl
          obtain ⟨h3, e3, H3, V3, F3⟩ := W_num H2 V2 (k := 3) (v := sV (uV (wX w) 2 v) 3) (by omega) (q := 10) rfl rfl
          rw [uV_same rfl] at V3
          unfold f_X6_tell
          rw [rY 1 g1, if_pos (by decide), rY 9 g2, R.v.gw R.md, bd_ok, e2, bd_ok, V2.gy H2, bd_ok, e3, bd_ok]
          exact Ret.mk (R.now (F2.tr F3) V3)
      · refine bad W ?_ (fun h1 R => ?_)
        · unfold f_X5_tell
          rw [cY 2 g1 (by decide), if_pos (by decide), cN 10 g2 (by decide)]
        · unfold f_X6_tell
          rw [rY 1 g1, if_pos (by decide), rN 9 g2]
    · by_cases g2 : inR a2 1000
      · obtain ⟨v, hv3, rfl⟩ := inR_is g2
        refine both W (nI (sV (wX w) 3)) (wUX w (uV (wX w) 3 v)) (OkW_now O (Ok_uV O.1 (fun q => by cases q) (fun _ => hv3) (fun q => by cases q)) (Nat.le_refl _)) ?_ (fun h1 R => ?_)
        · unfold f_X5_tell
          rw [cY 2 g1 (by decide), if_neg (by decide), cY 1000 g2 (by decide), C.g0, bd_ok, gI_ok C.I.1, bd_ok, V.1.y, bd_ok, pI_ok C.I.1, bd_ok]
          exact Ret.mk (V.now (Fr.w (by omega) (by omega)) (VC_num V.1 (by omega)))
        · obtain ⟨h2, e2, H2, V2, F2⟩ := W_num R.md R.v (k := 2) (v := sV (wX w) 2) (by omega) (q := 9) rfl rfl
          rw [uV_same rfl] at V2
          obtain ⟨h3, e3, H3, V3, F3⟩ := W_num H2 V2 (k := 3) (v := v) (by omega) (q := 10) rfl rfl
          unfold f_X6_tell
          rw [rY 1 g1, if_neg (by decide), rY 999 g2, R.v.gy R.md, bd_ok, R.v.gw R.md, bd_ok, e2, bd_ok, if_pos (by decide), e3, bd_ok]
          exact Ret.mk (R.now (F2.tr F3) V3)
      · refine bad W ?_ (fun h1 R => ?_)
        · unfold f_X5_tell
          rw [cY 2 g1 (by decide), if_neg (by decide), cN 1000 g2 (by decide)]
        · unfold f_X6_tell
          rw [rY 1 g1, if_neg (by decide), rN 999 g2]
  · refine bad W ?_ (fun h1 R => ?_)
    · unfold f_X5_tell
      rw [cN 2 g1 (by decide)]
    · unfold f_X6_tell
      rw [rN 1 g1]
theorem al_pass (W : WI h w) : Alk (f_X5_pass 0) (f_X6_pass 71) h := by
  obtain ⟨O, C, V, -⟩ := id W
  refine both W (nI (sV (yearS (wX w)) 3)) (wUX w (yearS (wX w))) (OkW_now O (Ok_yearS O.1) (Nat.le_refl _)) ?_ (fun h1 R => ?_)
  · unfold f_X5_pass
    rw [C.g0, bd_ok]
    refine Ret.icall C.I.1 (s_passYear C.I O.1 V.1) fun h2 ⟨F, V2⟩ => ?_
    obtain ⟨CF, CV2⟩ := V.now F V2
    have C2 := CF.I C
    rw [C2.g0, bd_ok, gI_ok C2.I.1, bd_ok, V2.y]
    exact Ret.mk ⟨CF, CV2⟩
  · unfold f_X6_pass
    refine Ret.icall R.md.1 (r_passes R.md O.1 R.v) fun h2 ⟨F, V2⟩ => ?_
    rw [V2.gy (F.Md R.md), bd_ok]
    exact Ret.mk (R.now F V2)
theorem al_taught (W : WI h w) (a1 a2 : Int32) : Alk (f_X5_taught 0 a1 a2) (f_X6_taught 71 a1 a2) h := by
  obtain ⟨O, C, V, -⟩ := id W
  have hS := O.1.2.1
  by_cases g1 : inR a1 (sP (wX w))
  · by_cases g2 : inR a2 (sS (wX w))
    · obtain ⟨p, hp, rfl⟩ := inR_is g1
      obtain ⟨s, hs, rfl⟩ := inR_is g2
      have hs7 : s < ln 7 := by show s < 6; omega
      have b7 : sA (wX w) 7 s < 3 := O.1.b 7 s (by decide) hs7
      have hi := O.1.i hp hs
      have ca := fun h1 (R : RR h1 71 w) => show f_X6_taught 71 (nI p) (nI s) h1 = _ by
        unfold f_X6_taught
        rw [rPY R O g1, rSY R O g2, R.md.rk 7 (by decide) rfl rfl, bd_ok, R_ld R.md R.v 7 (by decide) hs7 rfl, bd_ok]
      have ha := show f_X5_taught 0 (nI p) (nI s) h = _ by
        unfold f_X5_taught
        rw [cPY C V O g1, cSY C V O g2, C.g0, bd_ok, C.I.r 7 (by decide) rfl rfl, bd_ok, I_ld C.I V.1 7 (by decide) hs7 rfl, bd_ok]
      by_cases q1 : sA (wX w) 7 s = 1
      · refine no_both W (i := 3) (by decide) (v := -5) (by decide) (by decide) ?_ (fun h1 R => ?_)
        · rw [ha, if_pos (show nI (sA (wX w) 7 s) = 1 by rw [q1]; rfl)]
        · rw [ca h1 R, if_pos (show nI (sA (wX w) 7 s) = 1 by rw [q1]; rfl)]
      · have n1 : ¬ nI (sA (wX w) 7 s) = 1 := eqN (m := 1) q1 (by decide) (by omega)
        by_cases q2 : has (wX w) p s = true
        · refine no_both W (i := 3) (by decide) (v := -5) (by decide) (by decide) ?_ (fun h1 R => ?_)
          · rw [ha, if_neg n1, bd_ok, inv_ok C.I.1, s_heldFor C.I O.1 V.1 hp hs, ob_ok, if_neg (by rw [has_iff O.1 hp hs]; exact fun e => e q2)]
          · rw [ca h1 R, if_neg n1, inv_ok R.md.1, r_knows R.md O.1 R.v hp hs, ob_ok, if_pos q2, if_neg (by decide)]
        · have Ox : Ok (uA (wX w) 9 (p * 6 + s) 1) := Ok_held O.1 (by decide)
          have hl := havN_lt Ox s
          refine both W (nI (pop (havN (uA (wX w) 9 (p * 6 + s) 1) s))) (wUX w (uA (wX w) 9 (p * 6 + s) 1)) (OkW_now O Ox (Nat.le_refl _)) ?_ (fun h1 R => ?_)
          · obtain ⟨h2, e2, CF, V2⟩ := C_has C V (p := p) (s := s) (c := 1) hi (u := 0) rfl
            have C2 := CF.I C
            rw [ha, if_neg n1, bd_ok, inv_ok C.I.1, s_heldFor C.I O.1 V.1 hp hs, ob_ok, if_pos ((has_iff O.1 hp hs).mpr q2), C.g0, bd_ok, inv_ok C.I.1, e2, ob_ok, C2.g0, bd_ok, inv_ok C2.I.1, s_havers C2.I Ox V2.1 hs, ob_ok, f_bitCount _ _ hl, ob_ok]
            exact Ret.mk ⟨CF, V2⟩
          · obtain ⟨h2, e2, H2, V2, F2⟩ := W_has (c := 1) R.md O.1 R.v hp hs (u := 0) rfl
            rw [ca h1 R, if_neg n1, inv_ok R.md.1, r_knows R.md O.1 R.v hp hs, ob_ok, if_neg q2, if_pos rfl, R.md.rk 9 (by decide) rfl (b := 97) rfl, bd_ok, e2, bd_ok, inv_ok H2.1, r_holdersOf H2 Ox V2 hs, ob_ok, r_bits _ _ hl, ob_ok]
            exact Ret.mk (R.now F2.w33 V2)
    · refine bad W ?_ (fun h1 R => ?_)
      · unfold f_X5_taught
        rw [cPY C V O g1, cSN C V O g2]
      · unfold f_X6_taught
        rw [rPY R O g1, rSN R O g2]
  · refine bad W ?_ (fun h1 R => ?_)
    · unfold f_X5_taught
      rw [cPN C V O g1]
    · unfold f_X6_taught
      rw [rPN R O g1]
theorem al_seed (W : WI h w) (a1 : Int32) : Alk (f_X5_seed 0 a1) (f_X6_seed 71 a1) h := by
  obtain ⟨O, C, V, -⟩ := id W
  refine both W (sD (wX w)) (wUX w (uD (wX w) a1)) (OkW_now O (Ok_uD O.1 _) (Nat.le_refl _)) ?_ (fun h1 R => ?_)
  · unfold f_X5_seed
    rw [C.g0, bd_ok, gI_ok C.I.1, bd_ok, V.1.d, bd_ok, pI_ok C.I.1, bd_ok]
    exact Ret.mk (V.now (Fr.w (by omega) (by omega)) (VC_seed V.1))
  · obtain ⟨h2, e2, H2, V2, F2⟩ := W_seed R.md R.v a1
    unfold f_X6_seed
    rw [R.v.gd R.md, bd_ok, e2, bd_ok]
    exact Ret.mk (R.now F2 V2)
end ISLE6
