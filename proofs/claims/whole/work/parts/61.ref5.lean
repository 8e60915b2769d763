/-! THE REFERENCE: what is changed by hand -/
theorem Fk.num {m : Nat} {h : HP} {k : Nat} (hk : k < 6) {q : Nat} (hq : φR k = q) (v : Int32) : Fk m h (wI h m (upd (hI h m) q v)) :=
  ⟨Fr.w (by omega) (by omega), fun q' h1 _ => hI_wn h _ (by omega), fun j hj => by rw [hI_w, upd_n _ _ (fun e => hj k hk (hq.trans e.symm))]⟩
section REF5
variable {h : HP} {m : Nat} {x : St}
theorem r_addP (H : MdI h m) (O : Ok x) (V : VR h m x) (hP : sP x < 8) {k b mm g : Nat} : Ret (f_X6_addPerson m (nI k) (nI b) (nI mm) (nI g) h) () (fun h' => Fk m h h' ∧ VR h' m (addP x k b mm g)) := by
  have hS := O.2.1
  unfold f_X6_addPerson
  rw [H.rk 0 (by decide) rfl rfl, bd_ok, V.gp H, bd_ok]
  obtain ⟨h1, e1, H1, V1, F1⟩ := W_row H V 0 (by decide) (i := sP x) (v := k) hP rfl (b := m + 17) rfl
  rw [e1, bd_ok, H1.rk 1 (by decide) rfl rfl, bd_ok, V1.gp H1, bd_ok, sP_uA]
  obtain ⟨h2, e2, H2, V2, F2⟩ := W_row H1 V1 1 (by decide) (i := sP x) (v := b) hP rfl (b := m + 18) rfl
  rw [e2, bd_ok, H2.rk 2 (by decide) rfl rfl, bd_ok, V2.gp H2, bd_ok, sP_uA, sP_uA]
  obtain ⟨h3, e3, H3, V3, F3⟩ := W_row H2 V2 2 (by decide) (i := sP x) (v := mm) hP rfl (b := m + 19) rfl
  rw [e3, bd_ok, H3.rk 3 (by decide) rfl rfl, bd_ok, V3.gp H3, bd_ok, sP_uA, sP_uA, sP_uA]
  obtain ⟨h4, e4, H4, V4, F4⟩ := W_row H3 V3 3 (by decide) (i := sP x) (v := g) hP rfl (b := m + 20) rfl
  rw [e4, bd_ok, H4.rk 4 (by decide) rfl rfl, bd_ok, V4.gp H4, bd_ok, sP_uA, sP_uA, sP_uA, sP_uA]
  obtain ⟨h5, e5, H5, V5, F5⟩ := W_row H4 V4 4 (by decide) (i := sP x) (v := 0) hP (u := 0) rfl (b := m + 21) rfl
  rw [e5, bd_ok, V5.gh H5, bd_ok, V5.gp H5, bd_ok, sP_uA, sP_uA, sP_uA, sP_uA, sP_uA, show sV (uA (uA (uA (uA (uA x 0 (sP x) k) 1 (sP x) b) 2 (sP x) mm) 3 (sP x) g) 4 (sP x) 0) 5 = sV x 5 from rfl, (bit_clr _ hP _ O.2.2.2.2.1).1]
  obtain ⟨h6, e6, H6, V6, F6⟩ := W_num H5 V5 (k := 5) (v := clrb (sV x 5) (sP x)) (by omega) (q := 13) rfl rfl
  rw [e6, bd_ok]
  have F := ((((F1.w33.tr F2.w33).tr F3.w33).tr F4.w33).tr F5.w33).tr F6
  unfold addP
  generalize hy : uV (uA (uA (uA (uA (uA x 0 (sP x) k) 1 (sP x) b) 2 (sP x) mm) 3 (sP x) g) 4 (sP x) 0) 5 (clrb (sV x 5) (sP x)) = y at V6 ⊢
  have hyP : sP y = sP x := by rw [← hy]; rfl
  have hyS : sS y = sS x := by rw [← hy]; rfl
  refine Ret.loop (lp := lp_X6_addPerson_71 m _) (fun i q => Fk m h q ∧ VR q m y ∧ ∀ s, s < i → hI q (m + 26) (sP x * 6 + s) = -1) 6 (by omega) ⟨F, V6, fun s hs => absurd hs (by omega)⟩ ?_ ?_
  · rintro t i h7 hi ⟨F, V1, hr⟩ kk
    have H7 := F.Md H
    show Ret (lb_X6_addPerson_71 m _ _ _ h7) _ _
    unfold lb_X6_addPerson_71
    rw [if_neg (show ¬ ((6 : Int32) ≤ nI i) from leN hi (by decide)), H7.rk 9 (by decide) rfl rfl, bd_ok, V1.gp H7, bd_ok, hyP, idx6, sI_ok (H7.ak 9 (by decide) (b := m + 26) rfl rfl) (show sP x * 6 + i < 48 by omega) (by decide), bd_ok, nI1 i]
    have Fw : Fr (m + 26) 1 h7 (wI h7 (m + 26) (upd (hI h7 (m + 26)) (sP x * 6 + i) (-1))) := Fr.w (by omega) (by omega)
    refine kk _ ⟨F.tr (Fk.of Fw (by omega) (by omega)), VG.free V1 (by omega) (by omega) (fun p hp s hs => by omega), fun s hs => ?_⟩
    rw [hI_w]
    by_cases e9 : s = i
    · rw [e9, upd_s]
    · rw [upd_n _ _ (by omega)]
      exact hr s (by omega)
  · rintro t h7 ⟨F, V1, hr⟩
    have H7 := F.Md H
    show Ret (lb_X6_addPerson_71 m _ _ _ h7) _ _
    unfold lb_X6_addPerson_71
    rw [if_pos (by decide)]
    dsimp only
    rw [V1.gp H7, bd_ok, hyP, pI_ok H7.1, bd_ok, nI1]
    refine Ret.mk ⟨F.tr (Fk.num (k := 0) (by decide) rfl _), ?_⟩
    rw [← hyP]
    exact VG.newP V1 φR_ap (by omega) (by omega) (by rw [hyP]; exact hr) rfl
theorem r_addS (H : MdI h m) (O : Ok x) (V : VR h m x) (hS : sS x < 6) {hd so : Nat} : Ret (f_X6_addSong m (nI hd) (nI so) h) () (fun h' => Fk m h h' ∧ VR h' m (addS x hd so)) := by
  have hP := O.1
  unfold f_X6_addSong
  rw [H.rk 5 (by decide) rfl rfl, bd_ok, V.gs H, bd_ok]
  obtain ⟨h1, e1, H1, V1, F1⟩ := W_row H V 5 (by decide) (i := sS x) (v := hd) hS rfl (b := m + 22) rfl
  rw [e1, bd_ok, H1.rk 6 (by decide) rfl rfl, bd_ok, V1.gs H1, bd_ok, sS_uA]
  obtain ⟨h2, e2, H2, V2, F2⟩ := W_row H1 V1 6 (by decide) (i := sS x) (v := so) hS rfl (b := m + 23) rfl
  rw [e2, bd_ok, H2.rk 7 (by decide) rfl rfl, bd_ok, V2.gs H2, bd_ok, sS_uA, sS_uA]
  obtain ⟨h3, e3, H3, V3, F3⟩ := W_row H2 V2 7 (by decide) (i := sS x) (v := 0) hS (u := 0) rfl (b := m + 24) rfl
  rw [e3, bd_ok]
  have F03 := (F1.w33.tr F2.w33).tr F3.w33
  unfold addS
  generalize hy : uA (uA (uA x 5 (sS x) hd) 6 (sS x) so) 7 (sS x) 0 = y at V3 ⊢
  have hyP : sP y = sP x := by rw [← hy]; rfl
  have hyS : sS y = sS x := by rw [← hy]; rfl
  refine Ret.loop (lp := lp_X6_addSong_32 m _) (fun i q => Fk m h q ∧ VR q m (tunZ y (sS x) i)) 8 (by decide) ⟨F03, V3⟩ ?_ ?_
  · rintro t i h4 hi ⟨F, V4⟩ kk
    have H4 := F.Md H
    show Ret (lb_X6_addSong_32 m _ _ _ h4) _ _
    unfold lb_X6_addSong_32
    rw [if_neg (show ¬ ((8 : Int32) ≤ nI i) from leN hi (by decide)), H4.rk 8 (by decide) rfl rfl, bd_ok, V4.gs H4, bd_ok, (tunZ_P y (sS x) i).2, hyS, idx8, nI1 i]
    obtain ⟨h5, e5, H5, V5, F5⟩ := W_row H4 V4 8 (by decide) (i := sS x * 8 + i) (v := 0) (show _ < 48 by omega) (u := 0) rfl (b := m + 25) rfl
    rw [e5, bd_ok]
    exact kk h5 ⟨F.tr F5.w33, V5⟩
  · rintro t h4 ⟨F, V4⟩
    show Ret (lb_X6_addSong_32 m _ _ _ h4) _ _
    unfold lb_X6_addSong_32
    rw [if_pos (show ((8 : Int32) ≤ nI 8) by decide)]
    have eP := (tunZ_P y (sS x) 8).1
    have eS := (tunZ_P y (sS x) 8).2
    generalize tunZ y (sS x) 8 = z at V4 eP eS ⊢
    refine Ret.loop (lp := lp_X6_addSong_61 m _) (fun i q => Fk m h q ∧ VR q m z ∧ ∀ p, p < i → hI q (m + 26) (p * 6 + sS x) = -1) 8 (by decide) ⟨F, V4, fun p hp => absurd hp (by omega)⟩ ?_ ?_
    · rintro t2 i h5 hi ⟨F, V5, hr⟩ kk
      have H5 := F.Md H
      show Ret (lb_X6_addSong_61 m _ _ _ h5) _ _
      unfold lb_X6_addSong_61
      rw [if_neg (show ¬ ((8 : Int32) ≤ nI i) from leN hi (by decide)), H5.rk 9 (by decide) rfl rfl, bd_ok, V5.gs H5, bd_ok, eS, hyS, idx6, sI_ok (H5.ak 9 (by decide) (b := m + 26) rfl rfl) (show i * 6 + sS x < 48 by omega) (by decide), bd_ok, nI1 i]
      have Fw : Fr (m + 26) 1 h5 (wI h5 (m + 26) (upd (hI h5 (m + 26)) (i * 6 + sS x) (-1))) := Fr.w (by omega) (by omega)
      refine kk _ ⟨F.tr (Fk.of Fw (by omega) (by omega)), VG.free V5 (by omega) (by omega) (fun p hp s hs => by omega), fun p hp => ?_⟩
      rw [hI_w]
      by_cases e9 : p = i
      · rw [e9, upd_s]
      · rw [upd_n _ _ (by omega)]
        exact hr p (by omega)
    · rintro t2 h5 ⟨F, V5, hr⟩
      have H5 := F.Md H
      show Ret (lb_X6_addSong_61 m _ _ _ h5) _ _
      unfold lb_X6_addSong_61
      rw [if_pos (show ((8 : Int32) ≤ nI 8) by decide)]
      dsimp only
      rw [V5.gs H5, bd_ok, eS, hyS, pI_ok H5.1, bd_ok, nI1]
      refine Ret.mk ⟨F.tr (Fk.num (k := 1) (by decide) rfl _), ?_⟩
      have := VG.newS V5 φR_ap (by omega) (by omega) (fun p hp => by rw [eS, hyS]; exact hr p (by omega)) (q := 12) rfl
      rw [eS, hyS] at this
      exact this
theorem r_seats (H : MdI h m) (O : Ok x) (V : VR h m x) {p o : Nat} (hp : p < 8) (ho : o < 8) (is : Bool) : Ret (f_X6_seats m (nI p) (nI o) (if is = true then 1 else 0) h) () (fun h' => Fk m h h' ∧ VR h' m (besS x p o is)) := by
  have O1 : Ok (uA x 4 p (wb (sA x 4 p) o is)) := Ok_uA O (by decide) (fun hi => wb_lt (O.b 4 p (by decide) hi) ho is)
  have b1 : sA x 4 p < 256 := O.b 4 p (by decide) hp
  have b2 : sA (uA x 4 p (wb (sA x 4 p) o is)) 4 o < 256 := O1.b 4 o (by decide) ho
  have l1 := R_ld H V 4 (by decide) (i := p) hp (b := m + 21) rfl
  obtain ⟨h1, e1, H1, V1, F1⟩ := W_row H V 4 (by decide) (i := p) (v := wb (sA x 4 p) o is) hp rfl (b := m + 21) rfl
  have l2 := R_ld H1 V1 4 (by decide) (i := o) ho (b := m + 21) rfl
  obtain ⟨h2, e2, H2, V2, F2⟩ := W_row H1 V1 4 (by decide) (i := o) (v := wb (sA (uA x 4 p (wb (sA x 4 p) o is)) 4 o) p is) ho rfl (b := m + 21) rfl
  have r0 : gR 6 18 m h = some (m + 21) := H.rk 4 (by decide) rfl rfl
  have r1 : gR 6 18 m h1 = some (m + 21) := H1.rk 4 (by decide) rfl rfl
  have fin : Ret (some ((), h2)) () (fun h' => Fk m h h' ∧ VR h' m (besS x p o is)) := Ret.mk ⟨F1.w33.tr F2.w33, V2⟩
  unfold f_X6_seats
  cases is with
  | true =>
    rw [if_pos (show (true = true) from rfl), r0, bd_ok, if_neg (show ¬ ((1 : Int32) = 0) by decide)]
    simp only [l1, Option.bind_some, (bit_or o ho _ b1).1]
    have e1' : sI (m + 21) (nI p) (nI (setb (sA x 4 p) o)) h = some h1 := e1
    simp only [e1', r1, l2, Option.bind_some, (bit_or p hp _ b2).1]
    have e2' : sI (m + 21) (nI o) (nI (setb (sA (uA x 4 p (wb (sA x 4 p) o true)) 4 o) p)) h1 = some h2 := e2
    rw [e2', bd_ok]
    exact fin
  | false =>
    rw [if_neg (show ¬ (false = true) by decide), r0, bd_ok, if_pos (show ((0 : Int32) = 0) from rfl)]
    simp only [l1, Option.bind_some, (bit_clr o ho _ b1).1]
    have e1' : sI (m + 21) (nI p) (nI (clrb (sA x 4 p) o)) h = some h1 := e1
    simp only [e1', r1, l2, Option.bind_some, (bit_clr p hp _ b2).1]
    have e2' : sI (m + 21) (nI o) (nI (clrb (sA (uA x 4 p (wb (sA x 4 p) o false)) 4 o) p)) h1 = some h2 := e2
    rw [e2', bd_ok]
    exact fin
end REF5
