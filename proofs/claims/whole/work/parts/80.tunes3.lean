/-! BOTH SIDES: changes, join, like, what is told -/
theorem p_m1 (n : Nat) : nI (n + 1) + (-1) = nI n := by
  rw [← nm1 n]
  show nI (n + 1) + -(1 : Int32) = _
  rw [← Int32.sub_eq_add_neg]
section TUN2
variable {h : HP} {w : Wd}
theorem HnI.R {x : St} {n : Nat} {hd : Nat → Nat} {h' : HP} (N : HnI h n hd) (F : Fr 102 2 h h') : HnI h' n hd := ⟨N.1, fun i hi => by rw [F.2.2.2.2.2 101 (by omega)]; exact N.2 i hi⟩
theorem r_end {x : St} {s s' n : Nat} (H : MdI h 71) (O : Ok x) (V : VR h 71 x) (hs : s < sS x) (hs' : s' < sS x) (hn : n ≤ 8) : f_X6_isEnd 71 (nI s) (nI s') (nI n) h = some (if enB (tuF x s) (tuF x s') n = true then 1 else 0, h) := by
  have hS := O.2.1
  suffices h' : Ret (f_X6_isEnd 71 (nI s) (nI s') (nI n) h) (if enB (tuF x s) (tuF x s') n = true then 1 else 0) (fun q => q = h) by
    obtain ⟨q, e, rfl⟩ := h'
    exact e
  refine Ret.loop (lp := lp_X6_isEnd_3 71 (nI s) (nI s') (nI n) _) (fun i q => q = h ∧ ∀ j, j < i → tuF x s (8 - n + j) = tuF x s' j) n (by omega) ⟨rfl, fun j hj => absurd hj (by omega)⟩ ?_ ?_
  · rintro k i q hi ⟨rfl, hr⟩ kk
    have t1 := tuF_lt O hs (i := 8 - n + i) (by omega)
    have t2 := tuF_lt O hs' (i := i) (by omega)
    have i1 : nI s * 8 + 8 - nI n + nI i = nI (s * 8 + (8 - n + i)) := by
      rw [show (8 : Int32) = nI 8 from rfl, pk_mul, nI_add, pk_sub (by omega), nI_add]
      congr 1
      omega
    show Ret (lb_X6_isEnd_3 71 _ _ _ _ _ _ q) _ _
    unfold lb_X6_isEnd_3
    rw [iN hi (by omega), H.g22, bd_ok, i1, r_tun H O V hs (by omega), bd_ok, bd_ok, idx8, r_tun H O V hs' (by omega), bd_ok, nI1]
    by_cases g : tuF x s (8 - n + i) = tuF x s' i
    · rw [if_pos (congrArg nI g)]
      refine kk _ ⟨rfl, fun j hj => ?_⟩
      by_cases e : j = i
      · rw [e]; exact g
      · exact hr j (by omega)
    · rw [if_neg (by rw [nIe (by omega) (by omega)]; exact g), if_neg]
      · exact Ret.rz0 rfl
      · intro e
        unfold enB at e
        exact g (of_decide_eq_true e i hi)
  · rintro k q ⟨rfl, hr⟩
    show Ret (lb_X6_isEnd_3 71 _ _ _ _ _ _ q) _ _
    unfold lb_X6_isEnd_3
    rw [iY (by omega), if_pos]
    · exact Ret.rz1 rfl
    · unfold enB
      exact decide_eq_true hr
theorem r_joinN {x : St} {s s' : Nat} (H : MdI h 71) (O : Ok x) (V : VR h 71 x) (hs : s < sS x) (hs' : s' < sS x) : lp_X6_join_26 71 (nI s) (nI s') (fun b3_26 h26_ => some (16 - b3_26, h26_)) 1000 8 h = some (nI (fstN (fun w => enB (tuF x s) (tuF x s') (8 - w)) 8 + 8), h) := by
  obtain ⟨p1, p2, p3⟩ := fstN_spec (fun w => enB (tuF x s) (tuF x s') (8 - w)) 8
  generalize fstN (fun w => enB (tuF x s) (tuF x s') (8 - w)) 8 = M at p1 p2 p3 ⊢
  suffices h' : Ret (lp_X6_join_26 71 (nI s) (nI s') (fun b3_26 h26_ => some (16 - b3_26, h26_)) 1000 8 h) (nI (M + 8)) (fun q => q = h) by
    obtain ⟨q, e, rfl⟩ := h'
    exact e
  refine Ret.gen (run := fun k (q : Int32 × HP) => lp_X6_join_26 71 (nI s) (nI s') _ k q.1 q.2) (fun i q => q = (nI (8 - i), h)) M ?_ ?_ M 0 1000 (8, h) (by omega) (by omega) rfl
  · rintro k i q hi rfl kk
    show Ret (lb_X6_join_26 71 _ _ _ _ _ h) _ _
    unfold lb_X6_join_26
    rw [inv_ok H.1, r_end H O V hs hs' (by omega), ob_ok, if_neg (p2 i hi), if_pos rfl, show 8 - i = 8 - (i + 1) + 1 by omega, p_m1]
    exact kk (nI (8 - (i + 1)), h) rfl
  · rintro k q rfl
    have e : enB (tuF x s) (tuF x s') (8 - M) = true := by
      by_cases g : M < 8
      · exact p3 g
      · unfold enB
        exact decide_eq_true (fun i hi => absurd hi (by omega))
    show Ret (lb_X6_join_26 71 _ _ _ _ _ h) _ _
    unfold lb_X6_join_26
    rw [inv_ok H.1, r_end H O V hs hs' (by omega), ob_ok, if_pos e, if_neg (by decide)]
    dsimp only
    rw [show (16 : Int32) = nI 16 from rfl, pk_sub (by omega), show 16 - (8 - M) = M + 8 by omega]
    exact Ret.mk rfl
theorem r_likeN {x : St} {s s' : Nat} (H : MdI h 71) (O : Ok x) (V : VR h 71 x) (hs : s < sS x) (hs' : s' < sS x) : lp_X6_like_28 71 (nI s) (nI s') (fun b3_28 h28_ => some (b3_28, h28_)) 1000 0 0 h = some (nI (cnE (tuF x s) (tuF x s') 8), h) := by
  refine loop_acc (lp := lp_X6_like_28 71 (nI s) (nI s') _) 8 (by omega) (fun i => nI (cnE (tuF x s) (tuF x s') i)) h (K := fun v h => some (v, h)) (fun k => ?_) (fun k i hi => ?_)
  · show lb_X6_like_28 71 _ _ _ _ _ _ h = _
    unfold lb_X6_like_28
    exact if_pos (by decide)
  · show lb_X6_like_28 71 _ _ _ _ _ _ h = _
    have t1 := tuF_lt O hs hi
    have t2 := tuF_lt O hs' hi
    unfold lb_X6_like_28
    rw [if_neg (show ¬ (8 : Int32) ≤ nI i from leN (m := 8) (by omega) (by decide)), H.g22, bd_ok, idx8, r_tun H O V hs hi, bd_ok, bd_ok, idx8, r_tun H O V hs' hi, bd_ok, nI1 i, nI1, Int32.add_zero]
    show _ = lp_X6_like_28 71 _ _ _ _ (nI (if tuF x s i = tuF x s' i then cnE (tuF x s) (tuF x s') i + 1 else cnE (tuF x s) (tuF x s') i)) _ h
    by_cases q : tuF x s i = tuF x s' i
    · rw [if_pos (congrArg nI q), if_pos q]
    · rw [if_neg (by rw [nIe (by omega) (by omega)]; exact q), if_neg q]
theorem al_changes (W : WI h w) (a1 a2 : Int32) : Alk (f_X5_changes 0 a1 a2) (f_X6_changes 71 a1 a2) h := by
  obtain ⟨O, C, V, -⟩ := id W
  by_cases g1 : inR a1 (sS (wX w))
  · by_cases g2 : inR a2 (sS (wX w))
    · obtain ⟨s, hs, rfl⟩ := inR_is g1
      obtain ⟨z, hz, rfl⟩ := inR_is g2
      refine both W (nI (edN (tuF (wX w) s) (tuF (wX w) z) 8 8)) w O ?_ (fun h1 R => ?_)
      · unfold f_X5_changes
        rw [cSY C V O g1, cSY C V O g2, C.g4, bd_ok, C.g0, bd_ok]
        refine Ret.icall C.U.1 (s_hearS C.U C.I O.1 V.1 (by decide) hs) fun h2 ⟨F2, N2⟩ => ?_
        obtain ⟨FC2, V2⟩ := V.scr F2 (by decide) (by decide)
        have C2 := FC2.I C
        rw [C2.g4, bd_ok, C2.g0, bd_ok]
        refine Ret.icall C2.U.1 (s_chg C2.U C2.I O.1 V2.1 (by decide) hz N2) fun h3 ⟨F3, N3⟩ => ?_
        exact Ret.mk (V.scr (F2.tr F3) (by decide) (by decide))
      · unfold f_X6_changes
        rw [rSY R O g1, rSY R O g2]
        refine Ret.icall R.md.1 (r_hear R.md O.1 R.v hs) fun h2 ⟨F2, N2⟩ => ?_
        obtain ⟨R2, S2⟩ := R.scr F2 (by decide) (by decide)
        refine Ret.icall R2.md.1 (r_chg R2.md O.1 R2.v hz N2) fun h3 F3 => ?_
        obtain ⟨R3, S3⟩ := R2.scr F3 (by decide) (by decide)
        exact Ret.mk ⟨R3, S2.tr S3⟩
    · refine bad W ?_ (fun h1 R => ?_)
      · unfold f_X5_changes
        rw [cSY C V O g1, cSN C V O g2]
      · unfold f_X6_changes
        rw [rSY R O g1, rSN R O g2]
  · refine bad W ?_ (fun h1 R => ?_)
    · unfold f_X5_changes
      rw [cSN C V O g1]
    · unfold f_X6_changes
      rw [rSN R O g1]
theorem al_join (W : WI h w) (a1 a2 : Int32) : Alk (f_X5_join 0 a1 a2) (f_X6_join 71 a1 a2) h := by
  obtain ⟨O, C, V, -⟩ := id W
  by_cases g1 : inR a1 (sS (wX w))
  · by_cases g2 : inR a2 (sS (wX w))
    · obtain ⟨s, hs, rfl⟩ := inR_is g1
      obtain ⟨z, hz, rfl⟩ := inR_is g2
      refine both_q W (nI (fstN (fun k => enB (tuF (wX w) s) (tuF (wX w) z) (8 - k)) 8 + 8)) ?_ (fun h1 R => ?_)
      · unfold f_X5_join
        rw [cSY C V O g1, cSY C V O g2, C.g4, bd_ok, C.g0, bd_ok, inv_ok C.U.1, s_join C.U C.I O.1 V.1 hs hz, ob_ok]
      · unfold f_X6_join
        rw [rSY R O g1, rSY R O g2, r_joinN R.md O.1 R.v hs hz]
    · refine bad W ?_ (fun h1 R => ?_)
      · unfold f_X5_join
        rw [cSY C V O g1, cSN C V O g2]
      · unfold f_X6_join
        rw [rSY R O g1, rSN R O g2]
  · refine bad W ?_ (fun h1 R => ?_)
    · unfold f_X5_join
      rw [cSN C V O g1]
    · unfold f_X6_join
      rw [rSN R O g1]
theorem al_like (W : WI h w) (a1 a2 : Int32) : Alk (f_X5_like 0 a1 a2) (f_X6_like 71 a1 a2) h := by
  obtain ⟨O, C, V, -⟩ := id W
  by_cases g1 : inR a1 (sS (wX w))
  · by_cases g2 : inR a2 (sS (wX w))
    · obtain ⟨s, hs, rfl⟩ := inR_is g1
      obtain ⟨z, hz, rfl⟩ := inR_is g2
      refine both_q W (nI (cnE (tuF (wX w) s) (tuF (wX w) z) 8)) ?_ (fun h1 R => ?_)
      · unfold f_X5_like
        rw [cSY C V O g1, cSY C V O g2, C.g4, bd_ok, C.g0, bd_ok, inv_ok C.U.1, s_like C.I O.1 V.1 hs hz, ob_ok]
      · unfold f_X6_like
        rw [rSY R O g1, rSY R O g2, r_likeN R.md O.1 R.v hs hz]
    · refine bad W ?_ (fun h1 R => ?_)
      · unfold f_X5_like
        rw [cSY C V O g1, cSN C V O g2]
      · unfold f_X6_like
        rw [rSY R O g1, rSN R O g2]
  · refine bad W ?_ (fun h1 R => ?_)
    · unfold f_X5_like
      rw [cSN C V O g1]
    · unfold f_X6_like
      rw [rSN R O g1]
end TUN2
