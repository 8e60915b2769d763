/-! THE CLASS'S ISLE: a song more, one like another, a year -/
section ISLE4
variable {h : HP} {a : Nat} {x : St} {s : Nat}
theorem st_row {ρ : Type} {G : HP → Option (ρ × HP)} {w : ρ} {Q : HP → Prop} (H : IsI h a) (V : VC h a x) (k : Nat) (hk : k < 9) {i v : Nat} {u : Int32} (hu : u = nI v) (hi : i < ln k) {j : Nat} (hj : 6 + k = j) (kk : ∀ h', IsI h' a → VC h' a (uA x k i v) → Fr a 11 h h' → Ret (G h') w Q) : Ret ((gR 0 j a h).bind fun b => (sI b (nI i) u h).bind G) w Q := by
  subst hu
  have hl := ln_le k (by omega)
  rw [H.r k (by omega) hj rfl, bd_ok, sI_ok (H.a k (by omega) rfl rfl) hi (by omega), bd_ok]
  have F : Fr a 11 h (wI h (a + 1 + k) (upd (hI h (a + 1 + k)) i (nI v))) := Fr.w (by omega) (by omega)
  exact kk _ (F.I H) (VC_row V hk rfl) F
theorem st_num {ρ : Type} {G : HP → Option (ρ × HP)} {w : ρ} {Q : HP → Prop} (H : IsI h a) (V : VC h a x) (k : Nat) (hk : k = 2 ∨ k = 3 ∨ k = 5) {v : Nat} (kk : ∀ h', IsI h' a → VC h' a (uV x k v) → Fr a 11 h h' → Ret (G h') w Q) : Ret ((pI 0 k a (nI v) h).bind G) w Q := by
  rw [pI_ok H.1, bd_ok]
  have F : Fr a 11 h (wI h a (upd (hI h a) k (nI v))) := Fr.w (by omega) (by omega)
  exact kk _ (F.I H) (VC_num V hk) F
theorem s_addS (H : IsI h a) (O : Ok x) (V : VC h a x) (hS : sS x < 6) {hd so : Nat} : Ret (f_X0_addSong a (nI hd) (nI so) h) (nI (sS x)) (fun h' => Fr a 11 h h' ∧ VC h' a (addS x hd so)) := by
  have hP := O.1
  unfold f_X0_addSong
  rw [gI_ok H.1, bd_ok, V.s]
  refine st_row H V 5 (by decide) rfl hS rfl fun h1 H1 V1 F1 => ?_
  refine st_row H1 V1 6 (by decide) rfl hS rfl fun h2 H2 V2 F2 => ?_
  refine st_row H2 V2 7 (by decide) (v := 0) rfl hS rfl fun h3 H3 V3 F3 => ?_
  have F03 := (F1.tr F2).tr F3
  unfold addS
  generalize hy : uA (uA (uA x 5 (sS x) hd) 6 (sS x) so) 7 (sS x) 0 = y at V3 ⊢
  have hyP : sP y = sP x := by rw [← hy]; rfl
  have hyS : sS y = sS x := by rw [← hy]; rfl
  refine Ret.loop (lp := lp_X0_addSong_29 a (nI (sS x)) _) (fun i q => Fr a 11 h q ∧ VC q a (tunZ y (sS x) i)) 8 (by decide) ⟨F03, V3⟩ ?_ ?_
  · rintro k i h1 hi ⟨F, V1⟩ kk
    have H1 := F.I H
    show Ret (lb_X0_addSong_29 a _ _ _ _ h1) _ _
    unfold lb_X0_addSong_29
    rw [if_neg (show ¬ ((8 : Int32) ≤ nI i) from leN hi (by decide)), idx8, nI1 i]
    exact st_row H1 V1 8 (by decide) rfl (show _ < 48 by omega) rfl fun h2 H2 V2 F2 => kk h2 ⟨F.tr F2, V2⟩
  · rintro k h1 ⟨F, V1⟩
    show Ret (lb_X0_addSong_29 a _ _ _ _ h1) _ _
    unfold lb_X0_addSong_29
    rw [if_pos (show ((8 : Int32) ≤ nI 8) by decide)]
    have eP := (tunZ_P y (sS x) 8).1
    have eS := (tunZ_P y (sS x) 8).2
    generalize tunZ y (sS x) 8 = z at V1 eP eS ⊢
    refine Ret.loop (lp := lp_X0_addSong_58 a (nI (sS x)) _) (fun i q => Fr a 11 h q ∧ VC q a z ∧ ∀ p, p < i → hI q (a + 10) (p * 6 + sS x) = -1) 8 (by decide) ⟨F, V1, fun p hp => absurd hp (by omega)⟩ ?_ ?_
    · rintro k i h1 hi ⟨F, V1, hr⟩ kk
      have H1 := F.I H
      show Ret (lb_X0_addSong_58 a _ _ _ _ h1) _ _
      unfold lb_X0_addSong_58
      rw [if_neg (show ¬ ((8 : Int32) ≤ nI i) from leN hi (by decide)), inv_ok H1.1, r_setHeld H1 (by omega), ob_ok, nI1 i]
      refine kk _ ⟨F.tr (Fr.w (by omega) (by omega)), VG.free V1 (by omega) (by omega) (fun p hp s hs => by omega), fun p hp => ?_⟩
      rw [hI_w]
      by_cases e9 : p = i
      · rw [e9, upd_s]
      · rw [upd_n _ _ (by omega)]
        exact hr p (by omega)
    · rintro k h1 ⟨F, V1, hr⟩
      have H1 := F.I H
      show Ret (lb_X0_addSong_58 a _ _ _ _ h1) _ _
      unfold lb_X0_addSong_58
      rw [if_pos (show ((8 : Int32) ≤ nI 8) by decide)]
      dsimp only
      rw [pI_ok H1.1, bd_ok, nI1]
      refine Ret.mk ⟨F.tr (Fr.w (by omega) (by omega)), ?_⟩
      have := VG.newS V1 φC_ap (by omega) (by omega) (fun p hp => by rw [eS, hyS]; exact hr p (by omega)) (q := 1) rfl
      rw [eS, hyS] at this
      exact this
theorem s_countYear (H : IsI h a) (O : Ok x) (V : VC h a x) : Ret (f_X0_countYear a h) () (fun h' => Fr a 11 h h' ∧ VC h' a (yr1 x)) := by
  have hy : sV x 3 < 1000 := O.2.2.2.1
  unfold f_X0_countYear
  rw [gI_ok H.1, bd_ok, V.y, nI1, show (999 : Int32) = nI 999 from rfl, minN (by decide) (by omega), ob_ok]
  exact st_num H V 3 (by decide) fun h1 H1 V1 F1 => Ret.mk ⟨F1, V1⟩
theorem s_forget (H : IsI h a) (O : Ok x) (V : VC h a x) (hs : s < sS x) : Ret (f_X0_forget a (nI s) h) () (fun h' => Fr a 11 h h' ∧ VC h' a (colS x s (sP x) (fgt x s))) := by
  have hP := O.1
  have hS := O.2.1
  have hs6 : s < ln 5 := by show s < 6; omega
  refine Ret.loop (lp := lp_X0_forget_2 a (nI s) _) (fun i q => Fr a 11 h q ∧ VC q a (colS x s i (fgt x s))) (sP x) (by omega) ⟨Fr.rf _ _ _, by rw [colS_0]; exact V⟩ ?_ ?_
  · rintro k i h1 hi ⟨F, V1⟩ kk
    have H1 := F.I H
    have O1 : Ok (colS x s i (fgt x s)) := Ok_colS O (fgt_le x s)
    have e9 : sA (colS x s i (fgt x s)) 9 (i * 6 + s) = sA x 9 (i * 6 + s) := by rw [colS_at _ _ _ (by omega), if_neg (by omega)]
    have b9 := O.h hi hs
    have b5 : sA x 5 s < 10 := O.b 5 s (by decide) hs6
    have bh : sV x 5 < 256 := O.2.2.2.2.1
    show Ret (lb_X0_forget_2 a _ _ _ _ h1) _ _
    unfold lb_X0_forget_2
    rw [gI_ok H1.1, bd_ok, V1.p, show sP (colS x s i (fgt x s)) = sP x from rfl, iN hi (by omega), inv_ok H1.1, s_heldFor H1 O1 V1 hi hs, ob_ok, e9]
    have key : ∀ c, c = fgt x s i → ∀ u, u = hv c → Ret (ob (inv 0 a h1 (f_X0_setHeld a (nI i) (nI s) u h1)) fun _ h81 => lp_X0_forget_2 a (nI s) (fun h2_ => some ((), h2_)) k (nI i + 1) h81) () (fun h' => Fr a 11 h h' ∧ VC h' a (colS x s (sP x) (fgt x s))) := by
      rintro c rfl u rfl
      rw [nI1 i]
      exact Ret.icall H1.1 (s_setHeld H1 O1 V1 hi hs) (fun h2 ⟨F2, V2⟩ => kk h2 ⟨F.tr F2, by rw [colS_1 (by omega)] at V2; exact V2⟩)
    by_cases q : sA x 9 (i * 6 + s) = 0
    · rw [q, hv0, if_pos rfl, nI1 i]
      refine kk h1 ⟨F, ?_⟩
      rw [← colS_1 (by omega), uA_same]
      · exact V1
      · rw [e9, q]
        unfold fgt
        rw [if_pos q]
    · obtain ⟨c, hc⟩ : ∃ c, sA x 9 (i * 6 + s) = c + 1 := ⟨sA x 9 (i * 6 + s) - 1, by omega⟩
      rw [hc, hvS, if_neg (nI_nm1 (by omega)), nI1 c, show (99 : Int32) = nI 99 from rfl, minN (by decide) (by omega), ob_ok, gI_ok H1.1, bd_ok, V1.hm, show sV (colS x s i (fgt x s)) 5 = sV x 5 from rfl, bit_tst i (by omega) _ bh,
        H1.r 5 (by decide) rfl rfl, bd_ok, I_ld H1 V1 5 (by decide) hs6 rfl, bd_ok, sA_colS_n _ _ _ _ _ (by decide), inv_ok H1.1 (o := f_X0_holdOn _ _ _ _), s_hold H1 O1 V1 hi b5, ob_ok, holdN_congr (y := x) (sA_colS_n _ _ _ _ _ (by decide)) (sA_colS_n _ _ _ _ _ (by decide)) (sA_colS_n _ _ _ _ _ (by decide)) (sA_colS_n _ _ _ _ _ (by decide)) rfl]
      have hh := holdN_le O hi b5
      have ht := tb_lt (sV x 5) i
      have ef : fgt x s i = if tb (sV x 5) i = 1 ∨ min 99 (c + 1) ≤ holdN x i (sA x 5 s) then min 99 (c + 1) + 1 else 0 := by
        unfold fgt
        rw [if_neg q, hc]
      by_cases q1 : tb (sV x 5) i = 1
      · rw [if_pos (show nI (tb (sV x 5) i) = 1 by rw [q1]; rfl)]
        exact key _ (by rw [ef, if_pos (Or.inl q1)]) _ (by rw [hvS])
      · rw [if_neg (show ¬ nI (tb (sV x 5) i) = 1 from eqN q1 (by decide) (by omega))]
        by_cases q2 : min 99 (c + 1) ≤ holdN x i (sA x 5 s)
        · rw [if_neg (ltN q2 (by omega))]
          exact key _ (by rw [ef, if_pos (Or.inr q2)]) _ (by rw [hvS])
        · rw [if_pos (ltY (by omega) (by omega))]
          exact key _ (by rw [ef, if_neg (by omega)]) _ (by rw [hv0])
  · rintro k h1 ⟨F, V1⟩
    have H1 := F.I H
    show Ret (lb_X0_forget_2 a _ _ _ _ h1) _ _
    unfold lb_X0_forget_2
    rw [gI_ok H1.1, bd_ok, V1.p, show sP (colS x s (sP x) (fgt x s)) = sP x from rfl, iY (by omega)]
    exact Ret.mk ⟨F, V1⟩
theorem havN_colS {s : Nat} {g : Nat → Nat} (hs : s < 6) : havN (colS x s (sP x) g) s = bsN (fun p => decide (g p ≠ 0)) (sP x) := by
  unfold havN
  refine bsN_congr _ (fun p hp => ?_)
  have hp' : p < sP x := hp
  unfold has
  rw [colS_at _ _ _ hs, if_pos hp']
theorem s_pickUp (H : IsI h a) (O : Ok x) (V : VC h a (colS x s (sP x) (fgt x s))) (hs : s < sS x) : Ret (f_X0_pickUp a (nI s) h) () (fun h' => Fr a 11 h h' ∧ VC h' a (colS x s (sP x) (pck x s))) := by
  have hP := O.1
  have hS := O.2.1
  have O1 : Ok (colS x s (sP x) (fgt x s)) := Ok_colS O (fgt_le x s)
  have hv0 : havN (colS x s (sP x) (fgt x s)) s = sng x s := havN_colS (by omega)
  have hl : sng x s < 256 := Nat.lt_of_lt_of_le (sng_lt x s) (Nat.pow_le_pow_right (n := 2) (by decide) hP)
  unfold f_X0_pickUp
  rw [inv_ok H.1, s_havers H O1 V hs, ob_ok, hv0]
  have g0 : ∀ i, i ≤ sP x → colS x s (sP x) (fun p => if p < i then pck x s p else fgt x s p) = colS (colS x s (sP x) (fgt x s)) s i (pck x s) := by
    intro i hi
    apply St_ext <;> try rfl
    intro r j
    rw [sA_colS, sA_colS, sA_colS]
    by_cases q : r = 9 ∧ j % 6 = s ∧ j / 6 < sP x
    · rw [if_pos q]
      by_cases q2 : j / 6 < i
      · rw [if_pos q2, if_pos ⟨q.1, q.2.1, q2⟩]
      · rw [if_neg q2, if_neg (fun e => q2 e.2.2), if_pos q]
    · rw [if_neg q, if_neg (fun e => q ⟨e.1, e.2.1, by omega⟩), if_neg q]
  refine Ret.loop (lp := lp_X0_pickUp_8 a (nI s) (nI (sng x s)) _) (fun i q => Fr a 11 h q ∧ VC q a (colS (colS x s (sP x) (fgt x s)) s i (pck x s))) (sP x) (by omega) ⟨Fr.rf _ _ _, by rw [colS_0]; exact V⟩ ?_ ?_
  · rintro k i h1 hi ⟨F, V1⟩ kk
    have H1 := F.I H
    have O2 : Ok (colS (colS x s (sP x) (fgt x s)) s i (pck x s)) := Ok_colS O1 (pck_le x s)
    have hi8 : i < ln 0 := by show i < 8; omega
    have b0 : sA x 0 i < 6 := O.b 0 i (by decide) hi8
    have ht := tb_lt (sng x s) i
    have e9 : sA (colS (colS x s (sP x) (fgt x s)) s i (pck x s)) 9 (i * 6 + s) = fgt x s i := by rw [colS_at _ _ _ (by omega), if_neg (by omega), colS_at _ _ _ (by omega), if_pos hi]
    have er : ∀ r, r ≠ 9 → ∀ j, sA (colS (colS x s (sP x) (fgt x s)) s i (pck x s)) r j = sA x r j := fun r hr j => by rw [sA_colS_n _ _ _ _ _ hr, sA_colS_n _ _ _ _ _ hr]
    have skip : pck x s i = fgt x s i → Ret (lp_X0_pickUp_8 a (nI s) (nI (sng x s)) (fun h8_ => some ((), h8_)) k (nI (i + 1)) h1) () (fun h' => Fr a 11 h h' ∧ VC h' a (colS x s (sP x) (pck x s))) := fun e => kk h1 ⟨F, by
      rw [← colS_1 (by omega), uA_same]
      · exact V1
      · rw [e9, e]⟩
    show Ret (lb_X0_pickUp_8 a _ _ _ _ _ h1) _ _
    unfold lb_X0_pickUp_8
    have r0 : gR 0 6 a h1 = some (a + 1) := H1.r 0 (by decide) rfl rfl
    have r4 : gR 0 10 a h1 = some (a + 5) := H1.r 4 (by decide) rfl rfl
    have l0 : lI (a + 1) (nI i) h1 = some (nI (sA x 0 i)) := by rw [I_ld H1 V1 0 (by decide) hi8 rfl, er 0 (by decide)]
    have l4 : lI (a + 5) (nI i) h1 = some (nI (sA x 4 i)) := by rw [I_ld H1 V1 4 (by decide) hi8 rfl, er 4 (by decide)]
    rw [gI_ok H1.1, bd_ok, V1.p, show sP (colS (colS x s (sP x) (fgt x s)) s i (pck x s)) = sP x from rfl, iN hi (by omega), bit_tst i (by omega) _ hl]
    simp only [r0, l0, r4, l4, Option.bind_some, nI_and, nI1 i]
    have ez : (nI (sA x 4 i &&& sng x s) = 0) ↔ (sA x 4 i &&& sng x s = 0) := nI0 (by have := and_lt8 (b := sng x s) (O.b 4 i (by decide) hi8 : sA x 4 i < 256); omega)
    by_cases q1 : tb (sng x s) i = 0
    · rw [if_pos (show nI (tb (sng x s) i) = 0 by rw [q1]; rfl)]
      by_cases q2 : sA x 0 i = 5
      · rw [if_pos (show nI (sA x 0 i) = 5 by rw [q2]; rfl)]
        by_cases q3 : sA x 4 i &&& sng x s = 0
        · rw [if_pos (ez.mpr q3)]
          exact skip (by unfold pck; rw [if_neg (fun e => e.2.2 q3)])
        · rw [if_neg (fun e => q3 (ez.mp e))]
          refine Ret.icall H1.1 (s_setHeld (c := 1) H1 O2 V1 hi hs) (fun h2 ⟨F2, V2⟩ => kk h2 ⟨F.tr F2, ?_⟩)
          rw [← colS_1 (by omega)]
          have : pck x s i = 1 := by unfold pck; rw [if_pos ⟨q1, q2, q3⟩]
          rw [this]
          exact V2
      · rw [if_neg (show ¬ nI (sA x 0 i) = 5 from eqN q2 (by decide) (by omega))]
        exact skip (by unfold pck; rw [if_neg (fun e => q2 e.2.1)])
    · rw [if_neg (show ¬ nI (tb (sng x s) i) = 0 from eqN q1 (by decide) (by omega))]
      have := skip (by unfold pck; rw [if_neg (fun e => q1 e.1)])
      split <;> exact this
  · rintro k h1 ⟨F, V1⟩
    have H1 := F.I H
    show Ret (lb_X0_pickUp_8 a _ _ _ _ _ h1) _ _
    unfold lb_X0_pickUp_8
    rw [gI_ok H1.1, bd_ok, V1.p, show sP (colS (colS x s (sP x) (fgt x s)) s (sP x) (pck x s)) = sP x from rfl, iY (by omega)]
    exact Ret.mk ⟨F, by rw [colS_colS] at V1; exact V1⟩
theorem besN_le (x : St) : besN x ≤ sP x := besF_le x _
theorem s_callUp (H : IsI h a) (O : Ok x) (V : VC h a (colS x s (sP x) (pck x s))) (hs : s < sS x) : Ret (f_X0_callUp a (nI s) h) (if fnd x s = true then 1 else 0) (fun h' => Fr a 11 h h' ∧ VC h' a (uA (colS x s (sP x) (col x s)) 7 s (if fnd x s = true then 2 else sA x 7 s))) := by
  have hP := O.1
  have hS := O.2.1
  have hs7 : s < ln 7 := by show s < 6; omega
  have hs6 : s < ln 6 := hs7
  have O1 : Ok (colS x s (sP x) (pck x s)) := Ok_colS O (pck_le x s)
  have b7 : sA x 7 s < 3 := O.b 7 s (by decide) hs7
  have b6 : sA x 6 s < 5 := O.b 6 s (by decide) hs6
  have by3 : sV x 3 < 1000 := O.2.2.2.1
  have hb : besN (colS x s (sP x) (pck x s)) = besN x := besF_congr _ (fun p _ => sA_colS_n _ _ _ _ _ (by decide))
  have hbl := besN_le x
  have no : ¬ fnd x s = true → uA (colS x s (sP x) (col x s)) 7 s (if fnd x s = true then 2 else sA x 7 s) = colS x s (sP x) (pck x s) := by
    intro q
    rw [if_neg q, uA_same (by rw [sA_colS_n _ _ _ _ _ (by decide)])]
    exact colS_congr (fun p _ => by unfold col; rw [if_neg (fun e => q e.1)])
  have stop : ¬ fnd x s = true → Ret (rZ 0 h) (if fnd x s = true then 1 else 0) (fun h' => Fr a 11 h h' ∧ VC h' a (uA (colS x s (sP x) (col x s)) 7 s (if fnd x s = true then 2 else sA x 7 s))) := fun q => by
    rw [no q, if_neg q]
    exact Ret.rz0 ⟨Fr.rf _ _ _, V⟩
  unfold f_X0_callUp
  rw [H.r 7 (by decide) rfl rfl, bd_ok, I_ld H V 7 (by decide) hs7 rfl, bd_ok, H.r 6 (by decide) rfl rfl, bd_ok, I_ld H V 6 (by decide) hs6 rfl, bd_ok, gI_ok H.1, bd_ok, V.y, dz5, bd_ok, show sV (colS x s (sP x) (pck x s)) 3 = sV x 3 from rfl, rem5 (by omega), sA_colS_n _ _ _ _ _ (show (7 : Nat) ≠ 9 by decide), sA_colS_n _ _ _ _ _ (show (6 : Nat) ≠ 9 by decide), inv_ok H.1, s_best H O1 V, ob_ok, hb]
  by_cases q1 : sA x 7 s = 1
  · rw [if_pos (show nI (sA x 7 s) = 1 by rw [q1]; rfl)]
    by_cases q2 : sA x 6 s = sV x 3 % 5
    · rw [if_pos (congrArg nI q2)]
      by_cases q3 : besN x = 0
      · rw [if_pos ((hv_m1 (by omega)).mpr q3)]
        exact stop (by unfold fnd; simp [q3])
      · obtain ⟨b, hbb⟩ : ∃ b, besN x = b + 1 := ⟨besN x - 1, by omega⟩
        have hf : fnd x s = true := by unfold fnd; simp [q1, q2, q3]
        rw [if_neg (by rw [hv_m1 (by omega)]; exact q3), hbb, hvS, if_pos hf, if_pos hf]
        have hbP : b < sP x := by omega
        refine Ret.icall H.1 (s_setHeld (c := 1) H O1 V hbP hs) (fun h2 ⟨F2, V2⟩ => ?_)
        have H2 := F2.I H
        refine st_row H2 V2 7 (by decide) (v := 2) rfl hs7 rfl fun h3 H3 V3 F3 => ?_
        refine Ret.rz1 ⟨F2.tr F3, ?_⟩
        have e : uA (colS x s (sP x) (pck x s)) 9 (b * 6 + s) 1 = colS x s (sP x) (col x s) := by
          apply St_ext <;> try rfl
          intro r j
          rw [sA_uA, sA_colS, sA_colS]
          by_cases g : r = 9 ∧ j = b * 6 + s
          · rw [if_pos g, if_pos ⟨g.1, by omega, by omega⟩]
            unfold col
            rw [if_pos ⟨hf, by omega⟩]
          · rw [if_neg g]
            by_cases g2 : r = 9 ∧ j % 6 = s ∧ j / 6 < sP x
            · rw [if_pos g2, if_pos g2]
              unfold col
              rw [if_neg (fun e => g ⟨g2.1, by omega⟩)]
            · rw [if_neg g2, if_neg g2]
        rw [e] at V3
        exact V3
    · rw [if_neg (by rw [nIe (by omega) (by omega)]; exact q2)]
      exact stop (by unfold fnd; simp [q2])
  · rw [if_neg (show ¬ nI (sA x 7 s) = 1 from eqN q1 (by decide) (by omega))]
    exact stop (by unfold fnd; simp [q1])
theorem s_passSong (H : IsI h a) (O : Ok x) (V : VC h a x) (hs : s < sS x) : Ret (f_X0_passSong a (nI s) h) (if fnd x s = true then 1 else 0) (fun h' => Fr a 11 h h' ∧ VC h' a (stepS x s)) := by
  have hP := O.1
  have hS := O.2.1
  have hs7 : s < ln 7 := by show s < 6; omega
  have b7 : sA x 7 s < 3 := O.b 7 s (by decide) hs7
  unfold f_X0_passSong
  refine Ret.icall H.1 (s_forget H O V hs) fun h1 ⟨F1, V1⟩ => ?_
  have H1 := F1.I H
  refine Ret.icall H1.1 (s_pickUp H1 O V1 hs) fun h2 ⟨F2, V2⟩ => ?_
  have H2 := F2.I H1
  refine Ret.icall H2.1 (s_callUp H2 O V2 hs) fun h3 ⟨F3, V3⟩ => ?_
  have H3 := F3.I H2
  have F := (F1.tr F2).tr F3
  have fin : ∀ h', Fr a 11 h h' → VC h' a (stepS x s) → Ret (rZ (if fnd x s = true then 1 else 0) h') (if fnd x s = true then 1 else 0) (fun h' => Fr a 11 h h' ∧ VC h' a (stepS x s)) := by
    intro h' F' V'
    split
    · exact Ret.rz1 ⟨F', V'⟩
    · exact Ret.rz0 ⟨F', V'⟩
  generalize hz : (if fnd x s = true then 2 else sA x 7 s) = z at V3
  have hz3 : z < 3 := by rw [← hz]; split <;> omega
  have e7 : sA (uA (colS x s (sP x) (col x s)) 7 s z) 7 s = z := by rw [sA_uA, if_pos ⟨rfl, rfl⟩]
  have O3 : Ok (uA (colS x s (sP x) (col x s)) 7 s z) := Ok_uA (Ok_colS O (col_le x s)) (by decide) (fun _ => hz3)
  have hsg : sge x s < 256 := Nat.lt_of_lt_of_le (bsN_lt _ _) (Nat.pow_le_pow_right (n := 2) (by decide) hP)
  have hh : havN (uA (colS x s (sP x) (col x s)) 7 s z) s = sge x s := by
    unfold havN sge
    refine bsN_congr _ (fun p hp => ?_)
    have hp' : p < sP x := hp
    unfold has
    rw [sA_uA, if_neg (by omega), colS_at _ _ _ (by omega), if_pos hp']
  rw [H3.r 7 (by decide) rfl rfl, bd_ok, I_ld H3 V3 7 (by decide) hs7 rfl, bd_ok, e7, inv_ok H3.1, s_havers H3 O3 V3 hs, ob_ok, hh]
  by_cases q1 : z = 0
  · rw [if_pos (show nI z = 0 by rw [q1]; rfl)]
    have hf : ¬ fnd x s = true := fun e => by rw [if_pos e] at hz; omega
    have hz2 : sA x 7 s = 0 := by rw [if_neg hf] at hz; omega
    by_cases q2 : sge x s = 0
    · rw [if_pos (show nI (sge x s) = 0 by rw [q2]; rfl)]
      refine st_row H3 V3 7 (by decide) (v := 1) rfl hs7 rfl fun h4 H4 V4 F4 => ?_
      refine fin h4 (F.tr F4) ?_
      have : uA (uA (colS x s (sP x) (col x s)) 7 s z) 7 s 1 = stepS x s := by
        unfold stepS stt
        rw [if_neg hf, if_pos ⟨hz2, q2⟩]
        apply St_ext <;> try rfl
        intro r j
        rw [sA_uA, sA_uA, sA_uA]
        split <;> rfl
      rw [this] at V4
      exact V4
    · rw [if_neg (show ¬ nI (sge x s) = 0 from eqN q2 (by decide) (by omega))]
      refine fin h3 F ?_
      have : stt x s = z := by unfold stt; rw [if_neg hf, if_neg (fun e => q2 e.2), ← hz, if_neg hf]
      unfold stepS
      rw [this]
      exact V3
  · rw [if_neg (show ¬ nI z = 0 from eqN q1 (by decide) (by omega))]
    refine fin h3 F ?_
    have : stt x s = z := by
      unfold stt
      rw [← hz]
      by_cases e : fnd x s = true
      · rw [if_pos e, if_pos e]
      · rw [if_neg e, if_neg e, if_neg (fun g => q1 (by rw [← hz, if_neg e]; exact g.1))]
    unfold stepS
    rw [this]
    exact V3
theorem s_passYearOf (H : IsI h a) (O : Ok x) (V : VC h a x) (hs : s < sS x) : Ret (f_X0_passYearOf a (nI s) h) () (fun h' => Fr a 11 h h' ∧ VC h' a (stepS (yr1 x) s)) := by
  unfold f_X0_passYearOf
  refine Ret.icall H.1 (s_countYear H O V) fun h1 ⟨F1, V1⟩ => ?_
  have H1 := F1.I H
  refine Ret.icall H1.1 (s_passSong H1 (Ok_yr1 O) V1 (s := s) hs) fun h2 ⟨F2, V2⟩ => ?_
  exact Ret.mk ⟨F1.tr F2, V2⟩
theorem s_passYear (H : IsI h a) (O : Ok x) (V : VC h a x) : Ret (f_X0_passYear a h) (nI (fndN (yr1 x) (sS x))) (fun h' => Fr a 11 h h' ∧ VC h' a (yearS x)) := by
  have hP := O.1
  have hS := O.2.1
  unfold f_X0_passYear
  refine Ret.icall H.1 (s_countYear H O V) fun h1 ⟨F1, V1⟩ => ?_
  refine Ret.loopA (lp := lp_X0_passYear_8 a _) (fun i => nI (fndN (yr1 x) i)) (fun i q => Fr a 11 h q ∧ VC q a (stpN (yr1 x) i)) (sS x) (by omega) rfl ⟨F1, by rw [stpN_0]; exact V1⟩ ?_ ?_
  · rintro k i h2 hi ⟨F2, V2⟩ kk
    have H2 := F2.I H
    have O2 := Ok_stpN (Ok_yr1 O) i
    show Ret (lb_X0_passYear_8 a _ _ _ _ h2) _ _
    unfold lb_X0_passYear_8
    rw [gI_ok H2.1, bd_ok, V2.s, show sS (stpN (yr1 x) i) = sS x from rfl, iN hi (by omega)]
    refine Ret.icall H2.1 (s_passSong H2 O2 V2 (s := i) hi) fun h3 ⟨F3, V3⟩ => ?_
    rw [stpN_1 (x := yr1 x) (n := i) (by omega) hP] at V3
    have hf : fnd (stpN (yr1 x) i) i = fnd (yr1 x) i := EqS_fnd (EqS_stpN (yr1 x) (Nat.le_refl i) (by omega)) (by omega) hP
    have := kk h3 ⟨F2.tr F3, V3⟩
    rw [hf, nI1 i, nI1 (fndN (yr1 x) i)]
    have e : fndN (yr1 x) (i + 1) = if fnd (yr1 x) i = true then fndN (yr1 x) i + 1 else fndN (yr1 x) i := rfl
    rw [e] at this
    by_cases q : fnd (yr1 x) i = true
    · rw [if_pos q] at this ⊢
      rw [if_neg (by decide)]
      exact this
    · rw [if_neg q] at this ⊢
      rw [if_pos rfl]
      exact this
  · rintro k h2 ⟨F2, V2⟩
    have H2 := F2.I H
    show Ret (lb_X0_passYear_8 a _ _ _ _ h2) _ _
    unfold lb_X0_passYear_8
    rw [gI_ok H2.1, bd_ok, V2.s, show sS (stpN (yr1 x) (sS x)) = sS x from rfl, iY (by omega)]
    exact Ret.mk ⟨F2, V2⟩
end ISLE4
