/-! BOTH SIDES: the tape; an isle read -/
def wUT (w : Wd) (T : Nat → Nat) (n : Nat) : Wd := (w.1, w.2.1, (T, n), w.2.2.2.1, wC w)
/-- the reader's cells -/
theorem CV.tape {h h' : HP} {w : Wd} {T : Nat → Nat} {n : Nat} (V : CV h w) (F : Fr 50 2 h h') (T' : TpI h' 51 T n) (e2 : hI h' 50 2 = nI n) : FC h h' ∧ CV h' (wUT w T n) := by
  obtain ⟨v1, v2, v3, v4, v5, v6, v7⟩ := V
  have e : ∀ q, (q < 50 ∨ 52 ≤ q) → hI h' q = hI h q := F.2.2.2.2.2
  exact ⟨F.C (by omega), v1.keep (fun q _ hq => e q (by omega)), fun y hy => (v2 y hy).keep (fun q _ hq => e q (by omega)), by rw [e 0 (by omega)]; exact v3, T', e2, fun s hs => (v6 s hs).keep (e _ (by omega)) (by rw [F.2.2.2.2.1]), fun i hi => by rw [e 54 (by omega)]; exact v7 i hi⟩
theorem VG.obj {φ : Nat → Nat} {o b : Nat} {h h' : HP} {x : St} (V : VG φ o b h x) (e0 : ∀ k, k < 6 → hI h' o (φ k) = hI h o (φ k)) (er : ∀ q, b ≤ q → q < b + 10 → hI h' q = hI h q) : VG φ o b h' x := by
  obtain ⟨v1, v2, v3, v4, v5, v6, v7, v8⟩ := V
  exact ⟨(e0 0 (by omega)).trans v1, (e0 1 (by omega)).trans v2, (e0 2 (by omega)).trans v3, (e0 3 (by omega)).trans v4, (e0 4 (by omega)).trans v5, (e0 5 (by omega)).trans v6, fun k hk i hi => by rw [er _ (by omega) (by omega)]; exact v7 k hk i hi, fun p hp s hs => by rw [er _ (by omega) (by omega)]; exact v8 p hp s hs⟩
/-- the reference's tape -/
theorem RR.tape {h h' : HP} {w : Wd} {T : Nat → Nat} {n : Nat} (R : RR h 71 w) (F : Fr 71 33 h h') (e : ∀ q, q ≠ 71 → q ≠ 86 → hI h' q = hI h q) (e0 : ∀ j, j ≠ 7 → hI h' 71 j = hI h 71 j) (T' : TpI h' 86 T n) (e2 : hI h' 71 7 = nI n) : RR h' 71 (wUT w T n) ∧ Sm 71 h h' := by
  obtain ⟨c, f, R1, R2⟩ := R
  refine ⟨⟨c, f, R1.fr F, ?_⟩, fun q hq => ⟨by rw [F.2.2.1], by rw [F.2.2.2.1], e q (by omega) (by omega), by rw [F.2.2.2.2.1]⟩⟩
  obtain ⟨v1, v2, v3, v4, v5, v6, v7⟩ := R2
  refine ⟨VG.obj v1 (fun k hk => e0 _ (φR_lt k hk).2) (fun q h1 h2 => e q (by omega) (by omega)), v2, fun y hy => ?_, T', e2, fun s hs => ?_, fun i hi => by rw [e _ (by omega) (by omega)]; exact v7 i hi⟩
  · obtain ⟨j, hj, hv⟩ := v3 y hy
    have := R1.2.2.2.2.2.1 0 (by decide) j hj
    exact ⟨j, hj, VG.fr F (by omega) (by omega) hv⟩
  · obtain ⟨s1, s2, s3⟩ := v6 s hs
    refine ⟨by rw [e _ (by omega) (by omega)]; exact s1, fun g => ?_, fun g => by rw [e _ (by omega) (by omega)]; exact s3 g⟩
    obtain ⟨t1, t2, t3⟩ := s2 g
    exact ⟨by rw [e _ (by omega) (by omega)]; exact t1, by rw [e _ (by omega) (by omega)]; exact t2, fun i hi => by rw [F.2.2.2.2.1]; exact t3 i hi⟩
theorem RR.tp {h : HP} {w : Wd} (R : RR h 71 w) : TpI h 86 (wT w) (wZ w) ∧ hI h 71 7 = nI (wZ w) := by
  obtain ⟨c, f, -, R2⟩ := R
  exact ⟨R2.2.2.2.1, R2.2.2.2.2.1⟩
def putT (T : Nat → Nat) (n c : Nat) : Nat → Nat := fun i => if i = n then c else T i
theorem OkW_tape {w : Wd} (O : OkW w) {T : Nat → Nat} {n : Nat} (hn : n ≤ 250) (hT : ∀ i, T i < 256) : OkW (wUT w T n) := ⟨O.1, O.2.1, O.2.2.1, hn, hT⟩
theorem putT_lt {T : Nat → Nat} {n c : Nat} (hT : ∀ i, T i < 256) (hc : c < 256) (i : Nat) : putT T n c i < 256 := by
  unfold putT
  split
  · exact hc
  · exact hT i
section TAPE2
variable {h : HP} {w : Wd}
theorem al_feed (W : WI h w) (a1 : Int32) : Alk (f_X5_feed 0 a1) (f_X6_feed 71 a1) h := by
  obtain ⟨O, C, V, -⟩ := id W
  have hZ := O.2.2.2.1
  have hT := O.2.2.2.2
  by_cases g1 : inR a1 256
  · obtain ⟨c, hc, rfl⟩ := inR_is g1
    have ca := fun h1 (R : RR h1 71 w) => show f_X6_feed 71 (nI c) h1 = _ by
      unfold f_X6_feed
      rw [rY 255 g1, gI_ok R.md.1, bd_ok, R.tp.2]
    have ha := show f_X5_feed 0 (nI c) h = _ by
      unfold f_X5_feed
      rw [cY 256 g1 (by decide), C.g5, bd_ok, gI_ok C.Rd.1, bd_ok, V.2.2.2.2.1]
    by_cases q : wZ w < 250
    · refine both W (nI (wZ w + 1)) (wUT w (putT (wT w) (wZ w) c) (wZ w + 1)) (OkW_tape O q (putT_lt hT hc)) ?_ (fun h1 R => ?_)
      · rw [ha, if_pos (show nI (wZ w) < 250 from ltY (b := 250) q (by decide)), bd_ok, inv_ok C.Rd.1]
        unfold f_X2_append
        rw [C.Rd.t, bd_ok, gI_ok C.Rd.1, bd_ok, V.2.2.2.2.1, sI_ok C.Rd.2.2.2.1 q (by decide), bd_ok]
        have F1 : Fr 50 2 h (wI h 51 (upd (hI h 51) (wZ w) (nI c))) := Fr.w (by omega) (by omega)
        rw [gI_ok (F1.OA C.Rd.1), bd_ok, hI_wn _ _ (by omega), V.2.2.2.2.1, nI1, pI_pw (F1.OA C.Rd.1), bd_ok]
        have F2 := F1.tr (Fr.pw (a := 50) (n := 2) (b := 50) (k := 2) (x := nI (wZ w + 1)) (h := wI h 51 (upd (hI h 51) (wZ w) (nI c))) (by omega) (by omega))
        rw [gI_ok (F2.OA C.Rd.1), bd_ok, pw_s, ob_ok]
        refine Ret.mk (V.tape F2 ⟨q, putT_lt hT hc, fun i hi => ?_⟩ (pw_s _ _ _ _))
        show hI (pw _ 50 2 _) 51 i = _
        unfold pw
        rw [hI_wn _ _ (by omega), hI_w]
        unfold putT
        by_cases e : i = wZ w
        · rw [e, upd_s, if_pos rfl]
        · rw [upd_n _ _ e, if_neg e]
          exact V.2.2.2.1.2.2 i (by omega)
      · rw [ca h1 R, if_neg (show ¬ nI (wZ w) = 250 from eqN (m := 250) (by omega) (by decide) (by omega)), R.md.r 6 15 250 (by decide) rfl, bd_ok, bd_ok, nI1, pI_pw R.md.1, bd_ok]
        have F1 : Fr 71 33 h1 (pw h1 71 7 (nI (wZ w + 1))) := Fr.pw (by omega) (by omega)
        rw [sI_ok ((F1.Md R.md).a 6 15 250 (by decide) (b := 86) rfl) q (by decide), bd_ok]
        have F2 := F1.tr (Fr.w (a := 71) (n := 33) (b := 86) (h := pw h1 71 7 (nI (wZ w + 1))) (g := upd (hI (pw h1 71 7 (nI (wZ w + 1))) 86) (wZ w) (nI c)) (by omega) (by omega))
        have e7 : hI (wI (pw h1 71 7 (nI (wZ w + 1))) 86 (upd (hI (pw h1 71 7 (nI (wZ w + 1))) 86) (wZ w) (nI c))) 71 7 = nI (wZ w + 1) := by rw [hI_wn _ _ (by omega), pw_s]
        rw [gI_ok (F2.Md R.md).1, bd_ok, e7]
        refine Ret.mk (R.tape F2 (fun z h1 h2 => ?_) (fun j hj => ?_) ⟨q, putT_lt hT hc, fun i hi => ?_⟩ e7)
        · rw [hI_wn _ _ h2]
          exact hI_wn _ _ h1
        · rw [hI_wn _ _ (by omega), pw_n _ _ _ hj]
        · rw [hI_w]
          unfold putT
          by_cases e : i = wZ w
          · rw [e, upd_s, if_pos rfl]
          · rw [upd_n _ _ e, if_neg e]
            show hI (pw h1 71 7 _) 86 i = _
            unfold pw
            rw [hI_wn _ _ (by omega)]
            exact R.tp.1.2.2 i (by omega)
    · refine no_both W (i := 4) (by decide) (v := -6) (by decide) (by decide) ?_ (fun h1 R => ?_)
      · rw [ha, if_neg (show ¬ nI (wZ w) < 250 from ltN (b := 250) (by omega) (by omega))]
      · rw [ca h1 R, if_pos (show nI (wZ w) = 250 by rw [show wZ w = 250 by omega]; rfl)]
  · refine bad W ?_ (fun h1 R => ?_)
    · unfold f_X5_feed
      rw [cN 256 g1 (by decide)]
    · unfold f_X6_feed
      rw [rN 255 g1]
theorem al_wipe (W : WI h w) : Alk (f_X5_wipe 0) (f_X6_wipe 71) h := by
  obtain ⟨O, C, V, -⟩ := id W
  have hT := O.2.2.2.2
  refine both W (nI (wZ w)) (wUT w (wT w) 0) (OkW_tape O (by decide) hT) ?_ (fun h1 R => ?_)
  · unfold f_X5_wipe
    rw [C.g5, bd_ok, gI_ok C.Rd.1, bd_ok, V.2.2.2.2.1, bd_ok, pI_pw C.Rd.1, bd_ok]
    exact Ret.mk (V.tape (Fr.pw (by omega) (by omega)) ⟨by decide, hT, fun i hi => absurd hi (by omega)⟩ (pw_s _ _ _ _))
  · unfold f_X6_wipe
    rw [gI_ok R.md.1, bd_ok, R.tp.2, pI_pw R.md.1, bd_ok]
    exact Ret.mk (R.tape (Fr.pw (by omega) (by omega)) (fun z h1 _ => hI_wn _ _ h1) (fun j hj => pw_n _ _ _ hj) ⟨by decide, hT, fun i hi => absurd hi (by omega)⟩ (pw_s _ _ _ _))
end TAPE2
theorem sP_apS {x : St} {f : Nat} {g : Nat → Nat} : sP x ≤ sP (apS x f g) := by
  unfold apS
  repeat' split
  · exact Nat.le_succ _
  · rw [addS_P]; exact Nat.le_refl _
  · exact Nat.le_refl _
  · exact Nat.le_refl _
  · exact Nat.le_refl _
  · exact Nat.le_refl _
  · exact Nat.le_refl _
  · exact Nat.le_refl _
  · exact Nat.le_refl _
  · exact Nat.le_refl _
theorem stR_P {T : Nat → Nat} {n : Nat} {x : St} {e : Nat} {q : St × Nat} (h : stR T n x e = .inr q) : sP x ≤ sP q.1 := by
  by_cases g : frm T n e < 10 ∧ rmB x (frm T n e) = true
  · generalize hfe : frm T n e = f at g
    by_cases ga : ∀ j, j < wnt f → okN T n x f e j = true
    · rw [stR_B hfe g.1 g.2 ga] at h
      have h := Sum.inr.inj h
      subst h
      exact sP_apS
    · obtain ⟨k, h1, h2, h3⟩ := first_bad _ ga
      rw [stR_A hfe g.1 g.2 h1 h2 h3] at h
      exact absurd h Sum.inl_ne_inr
  · rw [stR_C g] at h
    exact absurd h Sum.inl_ne_inr
theorem rdA_ok {T : Nat → Nat} (hT : ∀ i, T i < 256) {n : Nat} (k : Nat) : ∀ x e c q, Ok x → e ≤ n → rdA T n k x e c = some (.inr q) → Ok q.1 ∧ q.2 ≤ c + k ∧ sP x ≤ sP q.1 := by
  induction k with
  | zero =>
    intro x e c q _ _ h
    rw [show rdA T n 0 x e c = none from rfl] at h
    exact absurd h (by simp)
  | succ k ih =>
    intro x e c q O he h
    rw [rdA_1] at h
    cases hs : stR T n x e with
    | inl p =>
      rw [hs, rdS_l] at h
      exact absurd (Option.some.inj h) Sum.inl_ne_inr
    | inr z =>
      obtain ⟨Oz, hz, hez⟩ := stR_ok hT O he hs
      have hP := stR_P hs
      rw [hs, rdS_r] at h
      by_cases g0 : tK T n z.2 = 0
      · rw [if_pos g0] at h
        have h := Sum.inr.inj (Option.some.inj h)
        subst h
        exact ⟨Oz, by dsimp only; omega, hP⟩
      · rw [if_neg g0] at h
        by_cases g3 : tK T n z.2 = 3
        · rw [if_pos g3] at h
          obtain ⟨a, b, d⟩ := ih z.1 (tE T n z.2) (c + 1) q Oz (tE_spec T hz).2.1 h
          exact ⟨a, by omega, Nat.le_trans hP d⟩
        · rw [if_neg g3] at h
          exact absurd (Option.some.inj h) Sum.inl_ne_inr
section TAPE3
variable {h : HP} {w : Wd}
theorem c_ref50 (C : CI h) {v : Int32} {i : Nat} (hi : i < 5) (e : (-2) - v = nI i) {u : Int32} {h1 : HP} (q : f_X5_refuse 0 v h = some (u, h1)) : hI h1 50 = hI h 50 := by
  unfold f_X5_refuse at q
  rw [out_if (u := 5) (n := 5) rfl (by decide), ob_ok, e, if_pos ((inR_n (by omega)).mpr hi), if_pos rfl, C.g7, bd_ok, lI_ok C.2.2.2.2.2.2.2.2.2.2 hi (by decide), bd_ok, sI_ok C.2.2.2.2.2.2.2.2.2.2 hi (by decide), bd_ok] at q
  obtain ⟨-, rfl⟩ := Prod.mk.inj (Option.some.inj q)
  exact hI_wn _ _ (by decide)
/-- what the isle's reading comes to -/
def isV : Nat ⊕ (St × Nat) → Int32
  | .inl p => (-20) - nI p
  | .inr q => nI q.2
def isW (w : Wd) : Nat ⊕ (St × Nat) → Wd
  | .inl _ => rfW (wUT w (wT w) 0) 0
  | .inr q => wUT (wUX w q.1) (wT w) 0
theorem c_isle (W : WI h w) {z : Nat ⊕ (St × Nat)} (hz : rdA (wT w) (wZ w) 250 (wX w) 0 1 = some z) : Ret (f_X5_isle 0 h) (isV z) (fun h1 => FC h h1 ∧ CV h1 (isW w z)) := by
  obtain ⟨O, C, V, -⟩ := id W
  have hT := O.2.2.2.2
  unfold f_X5_isle
  rw [C.g2, bd_ok, C.g0, bd_ok]
  refine Ret.icall C.D.1 (s_become C.D C.I O.1 V.1 (by omega)) fun h1 ⟨F1, V1⟩ => ?_
  obtain ⟨C1f, C1v⟩ := V.scr F1 (by decide) (by decide)
  have C1 := C1f.I C
  rw [C1.g5, bd_ok, C1.g2, bd_ok]
  refine Ret.icall C1.Rd.1 (s_read C1.Rd C1v.2.2.2.1 C1v.2.2.2.2.1 C1.D O.1 V1 (by decide) rfl hz) fun h2 ⟨F2, Q2⟩ => ?_
  have C2f : FC h1 h2 := F2.C (by decide)
  have C2 := C2f.I C1
  rw [C2.g5, bd_ok, pI_pw C2.Rd.1, bd_ok]
  have F3 : Fr 50 1 h2 (pw h2 50 2 0) := Fr.pw (by omega) (by omega)
  have F123 := (F1.wide (b := 23) (k := 30) (by omega) (by omega)).tr (F2.tr (F3.wide (b := 23) (k := 30) (by omega) (by omega)))
  have p2 : hI (pw h2 50 2 0) 50 2 = nI 0 := pw_s _ _ _ _
  have p5 : hI (pw h2 50 2 0) 50 5 = hI h2 50 5 := pw_n _ _ _ (by decide)
  have pd : ∀ q, q ≠ 50 → hI (pw h2 50 2 0) q = hI h2 q := fun q hq => hI_wn _ _ hq
  generalize pw h2 50 2 0 = h3 at F3 F123 p2 p5 pd ⊢
  have C3f : FC h h3 := F123.C (by decide)
  have C3 := C3f.I C
  have V3 : CV h3 (wUT w (wT w) 0) := by
    obtain ⟨v1, v2, v3, v4, v5, v6, v7⟩ := V
    have e : ∀ q, (q < 23 ∨ 53 ≤ q) → hI h3 q = hI h q := F123.2.2.2.2.2
    exact ⟨v1.keep (fun q _ hq => e q (by omega)), fun y hy => (v2 y hy).keep (fun q _ hq => e q (by omega)), by rw [e 0 (by omega)]; exact v3, ⟨by show 0 ≤ 250; omega, hT, fun i hi => absurd hi (by show ¬ i < 0; omega)⟩, p2, fun s hs => (v6 s hs).keep (e _ (by omega)) (by rw [F123.2.2.2.2.1]), fun i hi => by rw [e 54 (by omega)]; exact v7 i hi⟩
  cases z with
  | inl p =>
    rw [show rdV (.inl p) = -1 from rfl, if_pos rfl]
    obtain ⟨h4, e4, F4, V4⟩ := c_refuse C3 V3 (v := -2) (i := 0) (by decide) (by decide)
    have e50 := c_ref50 C3 (v := -2) (i := 0) (by decide) (by decide) e4
    have C4 := F4.I C3
    rw [inv_ok C3.1, e4, ob_ok, C4.g5, bd_ok, gI_ok C4.Rd.1, bd_ok, e50, p5, Q2.1 p rfl]
    exact Ret.mk ⟨C3f.tr F4, V4⟩
  | inr q =>
    obtain ⟨Oq, hq, hP⟩ := rdA_ok hT _ _ _ _ _ O.1 (Nat.zero_le _) hz
    have Vd : VC h3 23 q.1 := (Q2.2 q rfl).keep (fun z h1 h2 => pd z (by omega))
    rw [show rdV (.inr q) = nI q.2 from rfl, if_neg (nI_nm1 (by omega)), C3.g0, bd_ok, C3.g2, bd_ok]
    refine Ret.icall C3.I.1 (s_become C3.I C3.D Oq Vd (by omega)) fun h4 ⟨F4, V4⟩ => ?_
    obtain ⟨C4, V4'⟩ := V3.now F4 V4
    exact Ret.mk ⟨C3f.tr C4, V4'⟩
end TAPE3
