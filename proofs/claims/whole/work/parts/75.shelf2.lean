/-! BOTH SIDES: shelves -/
def wUS (w : Wd) (s : Nat) (q : Sh) : Wd := (w.1, w.2.1, w.2.2.1, fun i => if i = s then q else wS w i, wC w)
theorem wUS_s (w : Wd) (s : Nat) (q : Sh) : wS (wUS w s q) s = q := if_pos rfl
theorem wUS_n (w : Wd) {s i : Nat} (q : Sh) (h : i ≠ s) : wS (wUS w s q) i = wS w i := if_neg h
theorem OkW_shelf {w : Wd} (O : OkW w) {s : Nat} {q : Sh} (hq : ShOk (sP (wX w)) q) : OkW (wUS w s q) := by
  refine ⟨O.1, O.2.1, fun i hi => ?_, O.2.2.2⟩
  by_cases e : i = s
  · subst e
    rw [wUS_s]
    exact hq
  · rw [wUS_n w q e]
    exact O.2.2.1 i hi
theorem CV.shelf {h h' : HP} {w : Wd} {s : Nat} {q : Sh} (V : CV h w) (hs : s < 8) (F : FrS (55 + 2 * s) h h') (V' : ShV h' (55 + 2 * s) q) : FC h h' ∧ CV h' (wUS w s q) := by
  obtain ⟨v1, v2, v3, v4, v5, v6, v7⟩ := V
  have e : ∀ q, q ≠ 55 + 2 * s → hI h' q = hI h q := F.2.2.2.2.2
  refine ⟨F.C (by omega), v1.keep (fun q _ hq => e q (by omega)), fun y hy => (v2 y hy).keep (fun q _ hq => e q (by omega)), by rw [e 0 (by omega)]; exact v3, v4.keep (e 51 (by omega)), by rw [e 50 (by omega)]; exact v5, fun i hi => ?_, fun i hi => by rw [e 54 (by omega)]; exact v7 i hi⟩
  by_cases g : i = s
  · subst g
    rw [wUS_s]
    exact V'
  · rw [wUS_n w q g]
    exact (v6 i hi).keep (e _ (by omega)) (F.2.2.2.2.1 _ (by omega))
/-- one shelf of the reference, and the row that is moved by -/
def FSr (s : Nat) (h h' : HP) : Prop := hN h' = hN h ∧ hL h' = hL h ∧ hS h' = hS h ∧ hR h' = hR h ∧ (∀ q, q ≠ 72 → q ≠ 73 → q ≠ 74 → q ≠ 85 → hI h' q = hI h q) ∧ (∀ q, q ≠ 76 + s → q ≠ 84 → hJ h' q = hJ h q) ∧ ∀ i, i ≠ s → hI h' 72 i = hI h 72 i ∧ hI h' 73 i = hI h 73 i ∧ hI h' 74 i = hI h 74 i ∧ hI h' 85 i = hI h 85 i
theorem FSr.rf (s : Nat) (h : HP) : FSr s h h := ⟨rfl, rfl, rfl, rfl, fun _ _ _ _ _ => rfl, fun _ _ _ => rfl, fun _ _ => ⟨rfl, rfl, rfl, rfl⟩⟩
theorem FSr.tr {s : Nat} {h h1 h2 : HP} (f : FSr s h h1) (g : FSr s h1 h2) : FSr s h h2 :=
  ⟨g.1.trans f.1, g.2.1.trans f.2.1, g.2.2.1.trans f.2.2.1, g.2.2.2.1.trans f.2.2.2.1, fun q a b c d => (g.2.2.2.2.1 q a b c d).trans (f.2.2.2.2.1 q a b c d), fun q a b => (g.2.2.2.2.2.1 q a b).trans (f.2.2.2.2.2.1 q a b), fun i hi => ⟨(g.2.2.2.2.2.2 i hi).1.trans (f.2.2.2.2.2.2 i hi).1, (g.2.2.2.2.2.2 i hi).2.1.trans (f.2.2.2.2.2.2 i hi).2.1, (g.2.2.2.2.2.2 i hi).2.2.1.trans (f.2.2.2.2.2.2 i hi).2.2.1, (g.2.2.2.2.2.2 i hi).2.2.2.trans (f.2.2.2.2.2.2 i hi).2.2.2⟩⟩
theorem FSr.md {s b : Nat} {h h' : HP} (f : FSr s h h') (M : MdI h b) : MdI h' b :=
  M.keep (by rw [f.1]; exact Nat.le_refl _) (fun q _ _ => by rw [f.2.2.1]) (by rw [f.2.2.2.1]) (fun j _ => by rw [f.2.2.2.1])
theorem FSr.wi {s b : Nat} {h : HP} {v : Int32} (hb : b = 72 ∨ b = 73 ∨ b = 74 ∨ b = 85) : FSr s h (wI h b (upd (hI h b) s v)) := by
  refine ⟨rfl, rfl, rfl, rfl, fun q h1 h2 h3 h4 => hI_wn _ _ (by omega), fun _ _ _ => rfl, fun i hi => ?_⟩
  have e : ∀ c, hI (wI h b (upd (hI h b) s v)) c i = hI h c i := fun c => by
    by_cases g : c = b
    · rw [g, hI_w, upd_n _ _ hi]
    · rw [hI_wn _ _ g]
  exact ⟨e 72, e 73, e 74, e 85⟩
theorem FSr.wj {s b : Nat} {h : HP} {g : Nat → Int64} (hb : b = 76 + s ∨ b = 84) : FSr s h (wJ h b g) :=
  ⟨rfl, rfl, rfl, rfl, fun _ _ _ _ _ => rfl, fun q h1 h2 => hJ_wn _ _ (by omega), fun _ _ => ⟨rfl, rfl, rfl, rfl⟩⟩
theorem RR.shelf {h h' : HP} {w : Wd} {s : Nat} {q : Sh} (R : RR h 71 w) (hs : s < 8) (F : FSr s h h') (V' : ShR h' 71 s q) : RR h' 71 (wUS w s q) ∧ Sm 71 h h' := by
  obtain ⟨c, f, R1, R2⟩ := R
  have e := F.2.2.2.2.1
  have R1' := R1
  obtain ⟨r1, r2, r3, r4, r5, r6, r7, r8⟩ := R1
  obtain ⟨v1, v2, v3, v4, v5, v6, v7⟩ := R2
  have vk : ∀ {b : Nat} {x : St}, (b = 71 ∨ 104 ≤ b) → VR h b x → VR h' b x := fun hb V => VG.obj V (fun k _ => by rw [e _ (by omega) (by omega) (by omega) (by omega)]) (fun q h1 h2 => e q (by omega) (by omega) (by omega) (by omega))
  refine ⟨⟨c, f, ⟨by rw [F.1]; exact r1, by rw [F.2.1]; exact r2, F.md r3, fun j a b => F.md (r4 j a b), fun k hk => by rw [F.2.2.2.1]; exact r5 k hk, r6, r7, r8⟩, vk (Or.inl rfl) v1, v2, fun y hy => ?_, v4.keep (e _ (by omega) (by omega) (by omega) (by omega)), by rw [e 71 (by omega) (by omega) (by omega) (by omega)]; exact v5, fun i hi => ?_, fun i hi => by rw [e _ (by omega) (by omega) (by omega) (by omega)]; exact v7 i hi⟩, fun q hq => ⟨by rw [F.2.2.1], by rw [F.2.2.2.1], e q (by omega) (by omega) (by omega) (by omega), F.2.2.2.2.2.1 q (by omega) (by omega)⟩⟩
  · obtain ⟨j, hj, hv⟩ := v3 y hy
    have := r6 0 (by decide) j hj
    exact ⟨j, hj, vk (Or.inr (by omega)) hv⟩
  · by_cases g : i = s
    · subst g
      rw [wUS_s]
      exact V'
    · rw [wUS_n w q g]
      obtain ⟨s1, s2, s3⟩ := v6 i hi
      have k := F.2.2.2.2.2.2 i g
      exact ⟨k.1.trans s1, fun g => by
        obtain ⟨t1, t2, t3⟩ := s2 g
        exact ⟨k.2.1.trans t1, k.2.2.1.trans t2, fun j hj => by rw [F.2.2.2.2.2.1 _ (by omega) (by omega)]; exact t3 j hj⟩, fun g => k.2.2.2.trans (s3 g)⟩
theorem RR.sh {h : HP} {w : Wd} (R : RR h 71 w) {s : Nat} (hs : s < 8) : ShR h 71 s (wS w s) := by
  obtain ⟨c, f, -, R2⟩ := R
  exact R2.2.2.2.2.2.1 s hs
theorem MdI.lr {h : HP} {m : Nat} (H : MdI h m) {s : Nat} (hs : s < 8) {b : Nat} (hb : m + 4 = b) {d : Nat} (hd : m + 5 + s = d) : lR 10 b (nI s) h = some d := by
  subst hb; subst hd
  obtain ⟨a1, a2, a3, a4, a5, a6, a7, a8⟩ := H
  have o : oC 10 h (m + 4) = true := by unfold oC; rw [a5]; simp [a4]
  unfold lR
  rw [if_pos ⟨o, by rw [a5]; exact vpiN hs (by decide)⟩, tcN (by omega)]
  exact (a6 s hs).1
theorem MdI.g3 {h : HP} {m : Nat} (H : MdI h m) {b : Nat} (hb : m + 4 = b) : gR 6 3 m h = some b := by
  subst hb
  exact gR_ok H.1 H.2.2.1
theorem MdI.la {h : HP} {m : Nat} (H : MdI h m) {s : Nat} (hs : s < 8) {b : Nat} (hb : m + 5 + s = b) : LA h b 40 := by
  subst hb
  exact (H.2.2.2.2.2.1 s hs).2
section SHELF2
variable {h : HP} {w : Wd}
/-- the ints of a shelf, read -/
theorem RR.l (R : RR h 71 w) {f o : Nat} (hq : (f, o, 8) ∈ mdF) {s : Nat} (hs : s < 8) {b : Nat} (hb : 71 + o = b) : lI b (nI s) h = some (hI h b s) := lI_ok (R.md.a f o 8 hq hb) hs (by decide)
theorem al_row (W : WI h w) (a1 a2 a3 : Int32) : Alk (f_X5_row 0 a1 a2 a3) (f_X6_row 71 a1 a2 a3) h := by
  obtain ⟨O, C, V, -⟩ := id W
  by_cases g1 : inR a1 8
  · by_cases g2 : inR a2 5
    · by_cases g3 : inR a3 41
      · obtain ⟨s, hs, rfl⟩ := inR_is g1
        obtain ⟨k, hk, rfl⟩ := inR_is g2
        obtain ⟨n, hn, rfl⟩ := inR_is g3
        refine both W 1 (wUS w s (1, k, n, fun _ => 0)) (OkW_shelf O ⟨show (1 : Nat) ≤ 2 by decide, fun _ => ⟨hk, show n ≤ 40 by omega⟩, fun e => absurd (show (1 : Nat) = 2 from e) (by decide)⟩) ?_ (fun h1 R => ?_)
        · unfold f_X5_row
          rw [cY 8 g1 (by decide), cY 5 g2 (by decide), cY 41 g3 (by decide), C.g6, bd_ok, C.ls hs, bd_ok]
          exact Ret.icall (C.sh hs).1 (s_row (C.sh hs)) fun h2 ⟨F, V2⟩ => Ret.mk (V.shelf hs F V2)
        · unfold f_X6_row
          rw [rY 7 g1, rY 4 g2, rY 40 g3, R.md.r 0 1 8 (by decide) (b := 72) rfl, bd_ok, sI_ok (R.md.a 0 1 8 (by decide) (b := 72) rfl) hs (by decide), bd_ok]
          have F1 : FSr s h1 (wI h1 72 (upd (hI h1 72) s 1)) := FSr.wi (by omega)
          have e1 : hI (wI h1 72 (upd (hI h1 72) s 1)) 72 s = nI 1 := by rw [hI_w, upd_s]; rfl
          generalize wI h1 72 (upd (hI h1 72) s 1) = h2 at F1 e1 ⊢
          have M2 := F1.md R.md
          rw [M2.r 1 2 8 (by decide) (b := 73) rfl, bd_ok, sI_ok (M2.a 1 2 8 (by decide) (b := 73) rfl) hs (by decide), bd_ok]
          have F2 : FSr s h2 (wI h2 73 (upd (hI h2 73) s (nI k))) := FSr.wi (by omega)
          have e2 : hI (wI h2 73 (upd (hI h2 73) s (nI k))) 73 s = nI k := by rw [hI_w, upd_s]
          have e1' : hI (wI h2 73 (upd (hI h2 73) s (nI k))) 72 s = nI 1 := by rw [hI_wn _ _ (by decide)]; exact e1
          generalize wI h2 73 (upd (hI h2 73) s (nI k)) = h3 at F2 e2 e1' ⊢
          have M3 := F2.md M2
          rw [M3.r 2 3 8 (by decide) (b := 74) rfl, bd_ok, sI_ok (M3.a 2 3 8 (by decide) (b := 74) rfl) hs (by decide), bd_ok]
          have F3 : FSr s h3 (wI h3 74 (upd (hI h3 74) s (nI n))) := FSr.wi (by omega)
          have e3 : hI (wI h3 74 (upd (hI h3 74) s (nI n))) 74 s = nI n := by rw [hI_w, upd_s]
          have e2' : hI (wI h3 74 (upd (hI h3 74) s (nI n))) 73 s = nI k := by rw [hI_wn _ _ (by decide)]; exact e2
          have e1'' : hI (wI h3 74 (upd (hI h3 74) s (nI n))) 72 s = nI 1 := by rw [hI_wn _ _ (by decide)]; exact e1'
          generalize wI h3 74 (upd (hI h3 74) s (nI n)) = h4 at F3 e3 e2' e1'' ⊢
          have F := (F1.tr F2).tr F3
          refine Ret.loop (lp := lp_X6_row_67 71 (nI s) _) (fun i q => FSr s h1 q ∧ hI q = hI h4 ∧ ∀ j, j < i → hJ q (76 + s) j = 0) 40 (by decide) ⟨F, rfl, fun j hj => absurd hj (by omega)⟩ ?_ ?_
          · rintro t i q hi ⟨Fq, eq, hz⟩ kk
            have Mq := Fq.md R.md
            show Ret (lb_X6_row_67 71 _ _ _ _ q) _ _
            unfold lb_X6_row_67
            rw [if_neg (show ¬ (40 : Int32) ≤ nI i from leN (m := 40) hi (by decide)), Mq.g3 (b := 75) rfl, bd_ok, Mq.lr hs rfl (d := 76 + s) rfl, bd_ok, sJ_ok (Mq.la hs (b := 76 + s) rfl) hi (by decide), bd_ok, nI1]
            refine kk _ ⟨Fq.tr (FSr.wj (Or.inl rfl)), eq, fun j hj => ?_⟩
            rw [hJ_w]
            by_cases e : j = i
            · rw [e, pk_uLs]
            · rw [pk_uLn e]
              exact hz j (by omega)
          · rintro t q ⟨Fq, eq, hz⟩
            show Ret (lb_X6_row_67 71 _ _ _ _ q) _ _
            unfold lb_X6_row_67
            rw [if_pos (show (40 : Int32) ≤ nI 40 by decide)]
            exact Ret.mk (R.shelf hs Fq ⟨by rw [eq]; exact e1'', fun _ => ⟨by rw [eq]; exact e2', by rw [eq]; exact e3, hz⟩, fun e => by cases e⟩)
      · refine bad W ?_ (fun h1 R => ?_)
        · unfold f_X5_row
          rw [cY 8 g1 (by decide), cY 5 g2 (by decide), cN 41 g3 (by decide)]
        · unfold f_X6_row
          rw [rY 7 g1, rY 4 g2, rN 40 g3]
    · refine bad W ?_ (fun h1 R => ?_)
      · unfold f_X5_row
        rw [cY 8 g1 (by decide), cN 5 g2 (by decide)]
      · unfold f_X6_row
        rw [rY 7 g1, rN 4 g2]
  · refine bad W ?_ (fun h1 R => ?_)
    · unfold f_X5_row
      rw [cN 8 g1 (by decide)]
    · unfold f_X6_row
      rw [rN 7 g1]
theorem al_holds (W : WI h w) (a1 : Int32) : Alk (f_X5_holds 0 a1) (f_X6_holds 71 a1) h := by
  obtain ⟨O, C, V, -⟩ := id W
  by_cases g1 : inR a1 8
  · obtain ⟨s, hs, rfl⟩ := inR_is g1
    refine both_q W (cnt (wS w s)) ?_ (fun h1 R => ?_)
    · unfold f_X5_holds
      rw [cY 8 g1 (by decide), C.g6, bd_ok, C.ls hs, bd_ok, gI_ok (C.sh hs).1, bd_ok, (V.2.2.2.2.2.1 s hs).1]
    · obtain ⟨s1, s2, s3⟩ := R.sh hs
      have b := (O.2.2.1 s hs).1
      unfold f_X6_holds cnt
      rw [rY 7 g1, R.md.r 0 1 8 (by decide) (b := 72) rfl, bd_ok, R.l (f := 0) (o := 1) (by decide) hs rfl, bd_ok, s1]
      by_cases q0 : (wS w s).1 = 0
      · rw [if_pos (show nI (wS w s).1 = 0 by rw [q0]; rfl), if_pos q0]
      · rw [if_neg (show ¬ nI (wS w s).1 = 0 from eqN (m := 0) q0 (by decide) (by omega)), if_neg q0, bd_ok, R.l (f := 0) (o := 1) (by decide) hs rfl, bd_ok, s1]
        by_cases q1 : (wS w s).1 = 1
        · rw [if_pos (show nI (wS w s).1 = 1 by rw [q1]; rfl), if_pos q1, R.md.r 1 2 8 (by decide) (b := 73) rfl, bd_ok, R.l (f := 1) (o := 2) (by decide) hs rfl, bd_ok, (s2 q1).1]
        · rw [if_neg (show ¬ nI (wS w s).1 = 1 from eqN (m := 1) q1 (by decide) (by omega)), if_neg q1, R.md.r 5 14 8 (by decide) (b := 85) rfl, bd_ok, R.l (f := 5) (o := 14) (by decide) hs rfl, bd_ok, s3 (by omega), show (10 : Int32) = nI 10 from rfl, nI_add]
  · refine both_q W (-1) ?_ (fun h1 R => ?_)
    · unfold f_X5_holds
      rw [cN 8 g1 (by decide)]
    · unfold f_X6_holds
      rw [rN 7 g1]
theorem al_show (W : WI h w) (a1 a2 : Int32) : Alk (f_X5_show 0 a1 a2) (f_X6_show 71 a1 a2) h := by
  obtain ⟨O, C, V, -⟩ := id W
  by_cases g1 : inR a1 8
  · obtain ⟨s, hs, rfl⟩ := inR_is g1
    have go : ∀ (q : Sh) (v1 : Nat), ShOk (sP (wX w)) q → q.1 ≠ 1 → (q.1 = 2 → a2 = nI q.2.1) →
        (f_X5_show 0 (nI s) a2 h = (pI 3 0 (55 + 2 * s) (cnt q) h).bind fun h48 => some (1, h48)) → (∀ h1, RR h1 71 w → f_X6_show 71 (nI s) a2 h1 = (sI 72 (nI s) (nI q.1) h1).bind fun h47 => (gR 6 5 71 h47).bind fun x49 => (sI x49 (nI s) a2 h47).bind fun h54 => some (1, h54)) → Alk (f_X5_show 0 (nI s) a2) (f_X6_show 71 (nI s) a2) h := by
      intro q v1 hq hq1 hq2 ha hb
      refine both W 1 (wUS w s q) (OkW_shelf O hq) ?_ (fun h1 R => ?_)
      · rw [ha, pI_ok (C.sh hs).1, bd_ok]
        exact Ret.mk (V.shelf hs (FrS.wi _ _ _) ⟨by rw [hI_w, upd_s], fun e => absurd e hq1⟩)
      · rw [hb h1 R, sI_ok (R.md.a 0 1 8 (by decide) (b := 72) rfl) hs (by decide), bd_ok]
        have F1 : FSr s h1 (wI h1 72 (upd (hI h1 72) s (nI q.1))) := FSr.wi (by omega)
        have e1 : hI (wI h1 72 (upd (hI h1 72) s (nI q.1))) 72 s = nI q.1 := by rw [hI_w, upd_s]
        generalize wI h1 72 (upd (hI h1 72) s (nI q.1)) = h2 at F1 e1 ⊢
        have M2 := F1.md R.md
        rw [M2.r 5 14 8 (by decide) (b := 85) rfl, bd_ok, sI_ok (M2.a 5 14 8 (by decide) (b := 85) rfl) hs (by decide), bd_ok]
        exact Ret.mk (R.shelf hs (F1.tr (FSr.wi (by omega))) ⟨by rw [hI_wn _ _ (by decide)]; exact e1, fun e => absurd e hq1, fun e => by rw [hI_w, upd_s]; exact hq2 e⟩)
    by_cases g3 : a2 = -1
    · refine go (0, 0, 0, fun _ => 0) 0 ⟨show (0 : Nat) ≤ 2 by decide, fun e => absurd (show (0 : Nat) = 1 from e) (by decide), fun e => absurd (show (0 : Nat) = 2 from e) (by decide)⟩ (show (0 : Nat) ≠ 1 by decide) (fun e => absurd (show (0 : Nat) = 2 from e) (by decide)) ?_ (fun h1 R => ?_)
      · unfold f_X5_show
        rw [cY 8 g1 (by decide), if_pos g3, C.g6, bd_ok, C.ls hs, bd_ok]
        rfl
      · unfold f_X6_show
        rw [rY 7 g1, if_pos g3, R.md.r 0 1 8 (by decide) (b := 72) rfl, bd_ok]
        rfl
    · by_cases g2 : inR a2 (sP (wX w))
      · obtain ⟨p, hp, rfl⟩ := inR_is g2
        refine go (2, p, 0, fun _ => 0) 0 ⟨show (2 : Nat) ≤ 2 by decide, fun e => absurd (show (2 : Nat) = 1 from e) (by decide), fun _ => hp⟩ (show (2 : Nat) ≠ 1 by decide) (fun _ => rfl) ?_ (fun h1 R => ?_)
        · unfold f_X5_show
          rw [cY 8 g1 (by decide), if_neg g3, cPY C V O g2, C.g6, bd_ok, C.ls hs, bd_ok, show (10 : Int32) = nI 10 from rfl, nI_add]
          rfl
        · unfold f_X6_show
          rw [rY 7 g1, if_neg g3, rPY R O g2, R.md.r 0 1 8 (by decide) (b := 72) rfl, bd_ok]
          rfl
      · refine bad W ?_ (fun h1 R => ?_)
        · unfold f_X5_show
          rw [cY 8 g1 (by decide), if_neg g3, cPN C V O g2]
        · unfold f_X6_show
          rw [rY 7 g1, if_neg g3, rPN R O g2]
  · refine bad W ?_ (fun h1 R => ?_)
    · unfold f_X5_show
      rw [cN 8 g1 (by decide)]
    · unfold f_X6_show
      rw [rN 7 g1]
end SHELF2
