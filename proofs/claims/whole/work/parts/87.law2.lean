/-! THE LAW: from the beginning to the end -/
theorem law_all {Z : ZZ} (hLZ : zL Z ≤ 3072) {h0 : HP} (hz : hN h0 = 0) (hl : hL h0 = 0) : Ret (f_L_law Z h0) 1 (fun h => hN h ≤ 300 ∧ hL h ≤ 20000) := by
  unfold f_L_law
  show Ret (ob (f_X5_init (hN h0) (nO 5 h0)) fun _ h4 => ob (mkO 6 h4) fun x8 h8 => ob (f_X6_init x8 h8) fun _ h12 => lp_L_law_18 Z (hN h0) x8 (fun h18_ => some ((1 : Int32), h18_)) 1000 0 h12) _ _
  rw [hz]
  refine (c5_init h0 hz).call fun h4 ⟨n4, m4, C4, V4⟩ => ?_
  show Ret (ob (f_X6_init (hN h4) (nO 6 h4)) fun _ h12 => lp_L_law_18 Z 0 (hN h4) (fun h18_ => some ((1 : Int32), h18_)) 1000 0 h12) _ _
  refine (r_init h4).call fun h12 ⟨N, n12, m12, S⟩ => ?_
  rw [n4] at N S n12 ⊢
  have R : RR h12 71 w00 := RR_new N n12 (by omega)
  have W : WI h12 w00 := ⟨OkW_w00, S.CI (by omega) C4, S.CV V4, R⟩
  refine Ret.gen (run := fun k (q : Int32 × HP) => lp_L_law_18 Z 0 71 (fun h18_ => some ((1 : Int32), h18_)) k q.1 q.2) (fun i q => q.1 = nI (6 * i) ∧ ∃ w, WI q.2 w) (zL Z / 6) ?_ ?_ (zL Z / 6) 0 1000 (0, h12) (by omega) (by omega) ⟨rfl, w00, W⟩
  · rintro k i ⟨b3, h⟩ hi ⟨rfl, w, W⟩ kk
    show Ret (lb_L_law_18 Z 0 71 _ _ (nI (6 * i)) h) _ _
    exact law_go hLZ (by omega) W fun h2 w2 W2 => kk (nI (6 * (i + 1)), h2) ⟨rfl, w2, W2⟩
  · rintro k ⟨b3, h⟩ ⟨rfl, w, W⟩
    show Ret (lb_L_law_18 Z 0 71 _ _ (nI (6 * (zL Z / 6))) h) _ _
    unfold lb_L_law_18
    have c : Int32.ofNat (zL Z) - 6 < nI (6 * (zL Z / 6)) := by
      show nI (zL Z) - nI 6 < nI (6 * (zL Z / 6))
      rw [z_sub, Int32.lt_iff_toInt_lt, zI_toInt (by omega) (by omega), nI_toInt (by omega)]
      omega
    rw [if_pos c]
    dsimp only at W
    obtain ⟨c, f, R1, -⟩ := W.2.2.2
    have c4 := R1.c4
    exact Ret.mk ⟨by have := R1.1; omega, by have := R1.2.1; omega⟩
