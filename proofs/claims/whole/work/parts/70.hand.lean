/-! BOTH SIDES: changed by hand, in truth -/
def wUX (w : Wd) (x : St) : Wd := (x, w.2.1, w.2.2.1, w.2.2.2.1, wC w)
theorem CV.now {h h' : HP} {w : Wd} {x : St} (V : CV h w) (F : Fr 1 11 h h') (V' : VC h' 1 x) : FC h h' ∧ CV h' (wUX w x) := by
  obtain ⟨v1, v2, v3, v4, v5, v6, v7⟩ := V
  have e : ∀ q, (q < 1 ∨ 12 ≤ q) → hI h' q = hI h q := F.2.2.2.2.2
  exact ⟨F.C (by omega), V', fun y hy => (v2 y hy).keep (fun q _ hq => e q (by omega)), by rw [e 0 (by omega)]; exact v3, v4.keep (e 51 (by omega)), by rw [e 50 (by omega)]; exact v5, fun s hs => (v6 s hs).keep (e _ (by omega)) (by rw [F.2.2.2.2.1]), fun i hi => by rw [e 54 (by omega)]; exact v7 i hi⟩
theorem RR.now {h h' : HP} {w : Wd} {x : St} (R : RR h 71 w) (F : Fk 71 h h') (V' : VR h' 71 x) : RR h' 71 (wUX w x) ∧ Sm 71 h h' := by
  obtain ⟨c, f, R1, R2⟩ := R
  refine ⟨⟨c, f, R1.fr F.1, ?_⟩, fun q hq => ⟨by rw [F.1.2.2.1], by rw [F.1.2.2.2.1], F.1.2.2.2.2.2 q (by omega), by rw [F.1.2.2.2.2.1]⟩⟩
  obtain ⟨v1, v2, v3, v4, v5, v6, v7⟩ := R2
  have e : ∀ q, 71 < q → q < 88 → hI h' q = hI h q := fun q h1 h2 => F.2.1 q h1 (by omega)
  refine ⟨V', v2, fun y hy => ?_, v4.keep (e _ (by omega) (by omega)), ?_, fun s hs => ?_, fun i hi => by rw [e _ (by omega) (by omega)]; exact v7 i hi⟩
  · obtain ⟨j, hj, hv⟩ := v3 y hy
    have := R1.2.2.2.2.2.1 0 (by decide) j hj
    exact ⟨j, hj, VG.fr F.1 (by omega) (by omega) hv⟩
  · rw [F.2.2 7 (fun k hk => (φR_lt k hk).2)]
    exact v5
  · obtain ⟨s1, s2, s3⟩ := v6 s hs
    refine ⟨by rw [e _ (by omega) (by omega)]; exact s1, fun g => ?_, fun g => by rw [e _ (by omega) (by omega)]; exact s3 g⟩
    obtain ⟨t1, t2, t3⟩ := s2 g
    exact ⟨by rw [e _ (by omega) (by omega)]; exact t1, by rw [e _ (by omega) (by omega)]; exact t2, fun i hi => by rw [F.1.2.2.2.2.1]; exact t3 i hi⟩
theorem OkW_now {w : Wd} {x : St} (O : OkW w) (Ox : Ok x) (hp : sP (wX w) ≤ sP x) : OkW (wUX w x) := by
  obtain ⟨o1, o2, o3, o4, o5⟩ := O
  exact ⟨Ox, o2, fun s hs => ⟨(o3 s hs).1, (o3 s hs).2.1, fun e => Nat.lt_of_lt_of_le ((o3 s hs).2.2 e) hp⟩, o4, o5⟩
theorem uV_same {x : St} {k v : Nat} (h : sV x k = v) : uV x k v = x := by
  refine St_ext rfl rfl (funext fun j => ?_) (fun _ _ => rfl) rfl
  rw [sV_uV]
  split
  · rename_i q
    rw [q, h]
  · rfl
theorem sS_newS (y : St) : sS (newS y) = sS y + 1 := rfl
theorem sP_newS (y : St) : sP (newS y) = sP y := rfl
theorem addS_S (x : St) (a b : Nat) : sS (addS x a b) = sS x + 1 := by
  unfold addS
  rw [sS_newS, (tunZ_P _ _ _).2, sS_uA, sS_uA, sS_uA]
theorem addS_P (x : St) (a b : Nat) : sP (addS x a b) = sP x := by
  unfold addS
  rw [sP_newS, (tunZ_P _ _ _).1, sP_uA, sP_uA, sP_uA]
section HAND
variable {h : HP} {w : Wd}
theorem al_person (W : WI h w) (a1 a2 a3 a4 : Int32) : Alk (f_X5_person 0 a1 a2 a3 a4) (f_X6_person 71 a1 a2 a3 a4) h := by
  obtain ⟨O, C, V, -⟩ := id W
  have hP := O.1.1
  by_cases g1 : inR a1 6
  · by_cases g2 : inR a2 10
    · by_cases g3 : inR a3 10
      · by_cases g4 : inR a4 10
        · obtain ⟨k, hk, rfl⟩ := inR_is g1
          obtain ⟨b, hb, rfl⟩ := inR_is g2
          obtain ⟨m, hm, rfl⟩ := inR_is g3
          obtain ⟨g, hg, rfl⟩ := inR_is g4
          have ca := fun h1 (R : RR h1 71 w) => show f_X6_person 71 (nI k) (nI b) (nI m) (nI g) h1 = _ by
            unfold f_X6_person
            rw [rY 5 g1, rY 9 g2, rY 9 g3, rY 9 g4, R.v.gp R.md, bd_ok]
          have ha := show f_X5_person 0 (nI k) (nI b) (nI m) (nI g) h = _ by
            unfold f_X5_person
            rw [cY 6 g1 (by decide), cY 10 g2 (by decide), cY 10 g3 (by decide), cY 10 g4 (by decide), C.g0, bd_ok, gI_ok C.I.1, bd_ok, V.1.p]
          by_cases q : sP (wX w) < 8
          · refine both W (nI (sP (wX w))) (wUX w (addP (wX w) k b m g)) (OkW_now O (Ok_addP O.1 q hk hb hm hg) (Nat.le_succ _)) ?_ (fun h1 R => ?_)
            · rw [ha, if_pos (show nI (sP (wX w)) < 8 from ltY (b := 8) q (by decide)), bd_ok]
              exact Ret.icall C.I.1 (s_addP C.I O.1 V.1 q) fun h2 ⟨F, V2⟩ => Ret.mk (V.now F V2)
            · rw [ca h1 R, if_neg (show ¬ nI (sP (wX w)) = 8 from eqN (m := 8) (by omega) (by decide) (by omega))]
              refine Ret.icall R.md.1 (r_addP R.md O.1 R.v q) fun h2 ⟨F, V2⟩ => ?_
              rw [V2.gp (F.Md R.md), bd_ok, show sP (addP (wX w) k b m g) = sP (wX w) + 1 from rfl, nm1]
              exact Ret.mk (R.now F V2)
          · refine no_both W (i := 4) (by decide) (v := -6) (by decide) (by decide) ?_ (fun h1 R => ?_)
            · rw [ha, if_neg (show ¬ nI (sP (wX w)) < 8 from ltN (b := 8) (by omega) (by omega))]
            · rw [ca h1 R, if_pos (show nI (sP (wX w)) = 8 by rw [show sP (wX w) = 8 by omega]; rfl)]
        · refine bad W ?_ (fun h1 R => ?_)
          · unfold f_X5_person
            rw [cY 6 g1 (by decide), cY 10 g2 (by decide), cY 10 g3 (by decide), cN 10 g4 (by decide)]
          · unfold f_X6_person
            rw [rY 5 g1, rY 9 g2, rY 9 g3, rN 9 g4]
      · refine bad W ?_ (fun h1 R => ?_)
        · unfold f_X5_person
          rw [cY 6 g1 (by decide), cY 10 g2 (by decide), cN 10 g3 (by decide)]
        · unfold f_X6_person
          rw [rY 5 g1, rY 9 g2, rN 9 g3]
    · refine bad W ?_ (fun h1 R => ?_)
      · unfold f_X5_person
        rw [cY 6 g1 (by decide), cN 10 g2 (by decide)]
      · unfold f_X6_person
        rw [rY 5 g1, rN 9 g2]
  · refine bad W ?_ (fun h1 R => ?_)
    · unfold f_X5_person
      rw [cN 6 g1 (by decide)]
    · unfold f_X6_person
      rw [rN 5 g1]
theorem al_song (W : WI h w) (a1 a2 : Int32) : Alk (f_X5_song 0 a1 a2) (f_X6_song 71 a1 a2) h := by
  obtain ⟨O, C, V, -⟩ := id W
  have hS := O.1.2.1
  by_cases g1 : inR a1 10
  · by_cases g2 : inR a2 5
    · obtain ⟨k, hk, rfl⟩ := inR_is g1
      obtain ⟨b, hb, rfl⟩ := inR_is g2
      have ca := fun h1 (R : RR h1 71 w) => show f_X6_song 71 (nI k) (nI b) h1 = _ by
        unfold f_X6_song
        rw [rY 9 g1, rY 4 g2, R.v.gs R.md, bd_ok]
      have ha := show f_X5_song 0 (nI k) (nI b) h = _ by
        unfold f_X5_song
        rw [cY 10 g1 (by decide), cY 5 g2 (by decide), C.g0, bd_ok, gI_ok C.I.1, bd_ok, V.1.s]
      by_cases q : sS (wX w) < 6
      · have eS := addS_S (wX w) k b
        have eP := addS_P (wX w) k b
        refine both W (nI (sS (wX w))) (wUX w (addS (wX w) k b)) (OkW_now O (Ok_addS O.1 q hk hb) (by rw [eP]; exact Nat.le_refl _)) ?_ (fun h1 R => ?_)
        · rw [ha, if_pos (show nI (sS (wX w)) < 6 from ltY (b := 6) q (by decide)), bd_ok]
          exact Ret.icall C.I.1 (s_addS C.I O.1 V.1 q) fun h2 ⟨F, V2⟩ => Ret.mk (V.now F V2)
        · rw [ca h1 R, if_neg (show ¬ nI (sS (wX w)) = 6 from eqN (m := 6) (by omega) (by decide) (by omega))]
          refine Ret.icall R.md.1 (r_addS R.md O.1 R.v q) fun h2 ⟨F, V2⟩ => ?_
          rw [V2.gs (F.Md R.md), bd_ok, eS, nm1]
          exact Ret.mk (R.now F V2)
      · refine no_both W (i := 4) (by decide) (v := -6) (by decide) (by decide) ?_ (fun h1 R => ?_)
        · rw [ha, if_neg (show ¬ nI (sS (wX w)) < 6 from ltN (b := 6) (by omega) (by omega))]
        · rw [ca h1 R, if_pos (show nI (sS (wX w)) = 6 by rw [show sS (wX w) = 6 by omega]; rfl)]
    · refine bad W ?_ (fun h1 R => ?_)
      · unfold f_X5_song
        rw [cY 10 g1 (by decide), cN 5 g2 (by decide)]
      · unfold f_X6_song
        rw [rY 9 g1, rN 4 g2]
  · refine bad W ?_ (fun h1 R => ?_)
    · unfold f_X5_song
      rw [cN 10 g1 (by decide)]
    · unfold f_X6_song
      rw [rN 9 g1]
/-- a row's cell, in the class -/
theorem C_row (C : CI h) (V : CV h w) (k : Nat) (hk : k < 9) {i v : Nat} (hi : i < ln k) {b : Nat} (hb : 1 + 1 + k = b) : ∃ h', sI b (nI i) (nI v) h = some h' ∧ FC h h' ∧ CV h' (wUX w (uA (wX w) k i v)) := by
  have hl := ln_le k (by omega)
  subst hb
  have F : Fr 1 11 h (wI h (1 + 1 + k) (upd (hI h (1 + 1 + k)) i (nI v))) := Fr.w (by omega) (by omega)
  exact ⟨_, sI_ok (C.I.a k (by omega) rfl rfl) hi (by omega), V.now F (VC_row V.1 hk rfl)⟩
theorem al_give (W : WI h w) (a1 a2 a3 : Int32) : Alk (f_X5_give 0 a1 a2 a3) (f_X6_give 71 a1 a2 a3) h := by
  obtain ⟨O, C, V, -⟩ := id W
  have hP := O.1.1
  by_cases g1 : inR a1 (sP (wX w))
  · by_cases g2 : inR a2 3
    · obtain ⟨k, hk, rfl⟩ := inR_is g2
      have hc : k = 0 ∨ k = 1 ∨ k = 2 := by omega
      have ca := fun h1 (R : RR h1 71 w) => show f_X6_give 71 a1 (nI k) a3 h1 = _ by
        unfold f_X6_give
        rw [rPY R O g1, rY 2 g2]
      have ha := show f_X5_give 0 a1 (nI k) a3 h = _ by
        unfold f_X5_give
        rw [cPY C V O g1, cY 3 g2 (by decide)]
      rcases hc with rfl | rfl | rfl
      · by_cases g3 : inR a3 10
        · obtain ⟨p, hp, rfl⟩ := inR_is g1
          obtain ⟨v, hv3, rfl⟩ := inR_is g3
          have hp8 : p < 8 := by omega
          refine both W (nI (sA (wX w) 2 p)) (wUX w (uA (wX w) 2 p v)) (OkW_now O (Ok_uA O.1 (by decide) (fun _ => hv3)) (Nat.le_refl _)) ?_ (fun h1 R => ?_)
          · obtain ⟨h2, e2, Q2⟩ := C_row C V 2 (by decide) (i := p) (v := v) hp8 (b := 4) rfl
            rw [ha, if_neg (by decide), cY 10 g3 (by decide), if_pos (by decide), C.g0, bd_ok, C.I.r 2 (by decide) rfl rfl, bd_ok, I_ld C.I V.1 2 (by decide) hp8 rfl, bd_ok, bd_ok, C.I.r 2 (by decide) rfl rfl, bd_ok, e2, bd_ok]
            exact Ret.mk Q2
          · obtain ⟨h2, e2, H2, V2, F2⟩ := W_row R.md R.v 2 (by decide) (i := p) (v := v) hp8 rfl (b := 90) rfl
            obtain ⟨h3, e3, H3, V3, F3⟩ := W_row H2 V2 3 (by decide) (i := p) (v := sA (uA (wX w) 2 p v) 3 p) hp8 rfl (b := 91) rfl
            rw [uA_same rfl] at V3
            obtain ⟨h4, e4, H4, V4, F4⟩ := W_num H3 V3 (k := 5) (v := sV (uA (wX w) 2 p v) 5) (by omega) (q := 13) rfl rfl
            rw [uV_same rfl] at V4
            rw [ca h1 R, if_neg (by decide), rY 9 g3, if_pos (by decide), R.md.rk 2 (by decide) rfl rfl, bd_ok, R_ld R.md R.v 2 (by decide) hp8 rfl, bd_ok, bd_ok, e2, bd_ok, H2.rk 3 (by decide) rfl rfl, bd_ok, bd_ok, R_ld H2 V2 3 (by decide) hp8 rfl, bd_ok, e3, bd_ok, V3.gh H3, bd_ok, e4, bd_ok]
            exact Ret.mk (R.now ((F2.w33.tr F3.w33).tr F4) V4)
        · refine bad W ?_ (fun h1 R => ?_)
          · rw [ha, if_neg (by decide), cN 10 g3 (by decide)]
          · rw [ca h1 R, if_neg (by decide), rN 9 g3]
      · by_cases g3 : inR a3 10
        · obtain ⟨p, hp, rfl⟩ := inR_is g1
          obtain ⟨v, hv3, rfl⟩ := inR_is g3
          have hp8 : p < 8 := by omega
          refine both W (nI (sA (wX w) 3 p)) (wUX w (uA (wX w) 3 p v)) (OkW_now O (Ok_uA O.1 (by decide) (fun _ => hv3)) (Nat.le_refl _)) ?_ (fun h1 R => ?_)
          · obtain ⟨h2, e2, Q2⟩ := C_row C V 3 (by decide) (i := p) (v := v) hp8 (b := 5) rfl
            rw [ha, if_neg (by decide), cY 10 g3 (by decide), if_neg (by decide), if_pos (by decide), C.g0, bd_ok, C.I.r 3 (by decide) rfl rfl, bd_ok, I_ld C.I V.1 3 (by decide) hp8 rfl, bd_ok, bd_ok, C.I.r 3 (by decide) rfl rfl, bd_ok, e2, bd_ok]
            exact Ret.mk Q2
          · obtain ⟨h2, e2, H2, V2, F2⟩ := W_row R.md R.v 2 (by decide) (i := p) (v := sA (wX w) 2 p) hp8 rfl (b := 90) rfl
            rw [uA_same rfl] at V2
            obtain ⟨h3, e3, H3, V3, F3⟩ := W_row H2 V2 3 (by decide) (i := p) (v := v) hp8 rfl (b := 91) rfl
            obtain ⟨h4, e4, H4, V4, F4⟩ := W_num H3 V3 (k := 5) (v := sV (uA (wX w) 3 p v) 5) (by omega) (q := 13) rfl rfl
            rw [uV_same rfl] at V4
            rw [ca h1 R, if_neg (by decide), rY 9 g3, if_neg (by decide), if_pos (by decide), R.md.rk 3 (by decide) rfl rfl, bd_ok, R_ld R.md R.v 3 (by decide) hp8 rfl, bd_ok, R.md.rk 2 (by decide) rfl rfl, bd_ok, bd_ok, R_ld R.md R.v 2 (by decide) hp8 rfl, bd_ok, e2, bd_ok, H2.rk 3 (by decide) rfl rfl, bd_ok, e3, bd_ok, V3.gh H3, bd_ok, e4, bd_ok]
            exact Ret.mk (R.now ((F2.w33.tr F3.w33).tr F4) V4)
        · refine bad W ?_ (fun h1 R => ?_)
          · rw [ha, if_neg (by decide), cN 10 g3 (by decide)]
          · rw [ca h1 R, if_neg (by decide), rN 9 g3]
      · by_cases g3 : inR a3 2
        · obtain ⟨p, hp, rfl⟩ := inR_is g1
          obtain ⟨v, hv3, rfl⟩ := inR_is g3
          have hp8 : p < 8 := by omega
          have bh : sV (wX w) 5 < 256 := O.1.2.2.2.2.1
          obtain ⟨is, his⟩ : ∃ is : Bool, v = if is = true then 1 else 0 := ⟨decide (v = 1), by
            by_cases e : v = 1
            · simp [e]
            · simp [e]; omega⟩
          refine both W (nI (tb (sV (wX w) 5) p)) (wUX w (uV (wX w) 5 (wb (sV (wX w) 5) p is))) (OkW_now O (Ok_uV O.1 (fun q => by cases q) (fun q => by cases q) (fun _ => wb_lt bh hp8 is)) (Nat.le_refl _)) ?_ (fun h1 R => ?_)
          · obtain ⟨h2, e2, F2, V2⟩ := s_setHums C.I O.1 V.1 hp8 is
            rw [ha, if_pos (by decide), cY 2 g3 (by decide), C.g0, bd_ok, gI_ok C.I.1, bd_ok, V.1.hm, bit_tst p hp8 _ bh, bd_ok]
            subst his
            cases is with
            | true =>
              rw [if_pos (by decide), inv_ok C.I.1, show (1 : Int32) = (if true = true then 1 else 0) from rfl, e2, ob_ok]
              exact Ret.mk (V.now F2 V2)
            | false =>
              rw [if_neg (by decide), inv_ok C.I.1, show f_X0_setHums 1 (nI p) 0 h = some ((), h2) from e2, ob_ok]
              exact Ret.mk (V.now F2 V2)
          · obtain ⟨h2, e2, H2, V2, F2⟩ := W_row R.md R.v 2 (by decide) (i := p) (v := sA (wX w) 2 p) hp8 rfl (b := 90) rfl
            rw [uA_same rfl] at V2
            obtain ⟨h3, e3, H3, V3, F3⟩ := W_row H2 V2 3 (by decide) (i := p) (v := sA (wX w) 3 p) hp8 rfl (b := 91) rfl
            rw [uA_same rfl] at V3
            obtain ⟨h4, e4, H4, V4, F4⟩ := W_num H3 V3 (k := 5) (v := wb (sV (wX w) 5) p is) (by omega) (q := 13) rfl (u := (nI (sV (wX w) 5) &&& (((1 : Int32) <<< (nI p &&& 31)) ^^^ (-1))) ||| (nI v <<< (nI p &&& 31))) (by
              subst his
              cases is with
              | true => exact hum1 _ hp8 _ bh
              | false => exact hum0 _ hp8 _ bh)
            rw [ca h1 R, if_pos (by decide), rY 1 g3, R.v.gh R.md, bd_ok, R.md.rk 2 (by decide) rfl rfl, bd_ok, bd_ok, R_ld R.md R.v 2 (by decide) hp8 rfl, bd_ok, e2, bd_ok, H2.rk 3 (by decide) rfl rfl, bd_ok, bd_ok, R_ld H2 V2 3 (by decide) hp8 rfl, bd_ok, e3, bd_ok, V3.gh H3, bd_ok, e4, bd_ok, bit_tst p hp8 _ bh]
            exact Ret.mk (R.now ((F2.w33.tr F3.w33).tr F4) V4)
        · refine bad W ?_ (fun h1 R => ?_)
          · rw [ha, if_pos (by decide), cN 2 g3 (by decide)]
          · rw [ca h1 R, if_pos (by decide), rN 1 g3]
    · refine bad W ?_ (fun h1 R => ?_)
      · unfold f_X5_give
        rw [cPY C V O g1, cN 3 g2 (by decide)]
      · unfold f_X6_give
        rw [rPY R O g1, rN 2 g2]
  · refine bad W ?_ (fun h1 R => ?_)
    · unfold f_X5_give
      rw [cPN C V O g1]
    · unfold f_X6_give
      rw [rPN R O g1]
end HAND
