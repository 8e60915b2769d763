/-! THE REFERENCE: what is picked up; a year whole -/
def hrdN (y : St) (p : Nat) : Nat → Nat
  | 0 => 0
  | o + 1 => if tb (sA y 4 p) o = 1 then hrdN y p o ||| repN y o else hrdN y p o
theorem hrdN_lt {y : St} (O : Ok y) (p : Nat) : ∀ n, hrdN y p n < 64
  | 0 => show 0 < 64 by decide
  | n + 1 => by
    have ih := hrdN_lt O p n
    unfold hrdN
    split
    · exact Nat.or_lt_two_pow (n := 6) ih (repN_lt O n)
    · exact ih
theorem tb_or (a b k : Nat) : tb (a ||| b) k = 1 ↔ (tb a k = 1 ∨ tb b k = 1) := by
  have e := Nat.testBit_or a b k
  rw [tb_test, tb_test, tb_test] at e
  constructor
  · intro q
    rw [decide_eq_true q] at e
    simpa using e.symm
  · intro q
    have : (decide (tb a k = 1) || decide (tb b k = 1)) = true := by simpa using q
    rw [this] at e
    exact of_decide_eq_true e
theorem hrdN_tb (y : St) (p s : Nat) : ∀ n, tb (hrdN y p n) s = 1 ↔ ∃ o, o < n ∧ tb (sA y 4 p) o = 1 ∧ tb (repN y o) s = 1
  | 0 => ⟨fun q => absurd q (by unfold hrdN tb; rw [Nat.zero_div]; decide), fun ⟨o, h, _⟩ => absurd h (by omega)⟩
  | n + 1 => by
    have ih := hrdN_tb y p s n
    have e : hrdN y p (n + 1) = if tb (sA y 4 p) n = 1 then hrdN y p n ||| repN y n else hrdN y p n := rfl
    rw [e]
    by_cases q : tb (sA y 4 p) n = 1
    · rw [if_pos q, tb_or, ih]
      constructor
      · rintro (⟨o, h1, h2⟩ | h)
        · exact ⟨o, by omega, h2⟩
        · exact ⟨n, by omega, q, h⟩
      · rintro ⟨o, h1, h2, h3⟩
        by_cases g : o = n
        · rw [g] at h3; exact Or.inr h3
        · exact Or.inl ⟨o, by omega, h2, h3⟩
    · rw [if_neg q, ih]
      constructor
      · rintro ⟨o, h1, h2⟩
        exact ⟨o, by omega, h2⟩
      · rintro ⟨o, h1, h2, h3⟩
        exact ⟨o, by
          by_cases g : o = n
          · rw [g] at h2; exact absurd h2 q
          · omega, h2, h3⟩
def andn (a b : Nat) : Nat := a - (a &&& b)
theorem andn_ok : ∀ a, a < 64 → ∀ b, b < 64 → (nI a &&& (nI b ^^^ (-1))) = nI (andn a b) := by decide +kernel
theorem andn_tb : ∀ s, s < 6 → ∀ a, a < 64 → ∀ b, b < 64 → (tb (andn a b) s = 1 ↔ tb a s = 1 ∧ ¬ tb b s = 1) := by decide +kernel
theorem andn_le (a b : Nat) : andn a b ≤ a := Nat.sub_le _ _
/-- songs' ends, those below k -/
def pzS (x : St) (k : Nat) : St := (sP x, sS x, sV x, fun r i => if r = 9 then (if i % 6 < k then col x (i % 6) (i / 6) else pck x (i % 6) (i / 6)) else if r = 7 ∧ i < k then stt x i else sA x r i, sD x)
theorem sA_pzS (x : St) (k r i : Nat) : sA (pzS x k) r i = if r = 9 then (if i % 6 < k then col x (i % 6) (i / 6) else pck x (i % 6) (i / 6)) else if r = 7 ∧ i < k then stt x i else sA x r i := rfl
theorem Ok_pzS {x : St} (O : Ok x) (k : Nat) : Ok (pzS x k) := by
  have O' := O
  obtain ⟨o1, o2, o3, o4, o5, o6, o7⟩ := O
  refine ⟨o1, o2, o3, o4, o5, fun r hr i hi => ?_, fun p hp s hs => ?_⟩
  · rw [sA_pzS, if_neg (by omega)]
    split
    · rename_i q
      obtain ⟨rfl, q⟩ := q
      exact stt_lt O' hi
    · exact o6 r hr i hi
  · rw [sA_pzS, if_pos rfl]
    split
    · exact col_le _ _ _
    · exact pck_le _ _ _
theorem pzS_end {x : St} (hS : sS x ≤ 6) : EqA (pzS x (sS x)) (stpN x (sS x)) := by
  refine ⟨rfl, rfl, rfl, rfl, rfl, rfl, fun k hk i hi => ?_, fun p hp s hs => ?_⟩
  · rw [sA_pzS, if_neg (show ¬ k = 9 by omega), sA_stpN, if_neg (show ¬ (k = 9 ∧ i % 6 < sS x ∧ i / 6 < sP x) from fun q => by omega)]
  · have hp' : p < sP x := hp
    have hs' : s < sS x := hs
    rw [sA_pzS, sA_stpN, if_pos rfl]
    by_cases q : (p * 6 + s) % 6 < sS x
    · by_cases q2 : (p * 6 + s) / 6 < sP x
      · rw [if_pos q, if_pos ⟨rfl, q, q2⟩]
      · exact absurd (show (p * 6 + s) / 6 < sP x by omega) q2
    · exact absurd (show (p * 6 + s) % 6 < sS x by omega) q
section REF2
variable {h : HP} {m : Nat} {x : St}
theorem pick_eq {y : St} (hS : sS x ≤ 6) (hy : y = mtS x (fun _ => true) (fgI x)) {p s : Nat} (hp : p < sP x) (hs : s < sS x) :
    (tb (repN y p) s = 1 ↔ tb (sng x s) p = 1) ∧ (tb (hrdN y p (sP x)) s = 1 ↔ ¬ (sA x 4 p &&& sng x s = 0)) := by
  have hh : ∀ o, o < sP x → (tb (repN y o) s = 1 ↔ tb (sng x s) o = 1) := by
    intro o ho
    have hs2 : s < sS y := by rw [hy]; exact hs
    have e : has y o s = decide (fgt x s o ≠ 0) := by
      unfold has
      rw [hy, sA_mtS, if_pos ⟨rfl, rfl⟩, fgI_at x (by omega)]
    unfold repN sng
    rw [tb_bs, tb_bs, e]
    by_cases g : decide (fgt x s o ≠ 0) = true
    · rw [if_pos ⟨hs2, g⟩, if_pos ⟨ho, g⟩]
    · rw [if_neg (fun q => g q.2), if_neg (fun q => g q.2)]
  refine ⟨hh p hp, ?_⟩
  have e4 : sA y 4 p = sA x 4 p := by rw [hy, sA_mtS_n _ _ _ _ (by decide)]
  rw [hrdN_tb, and0 _ (sng_lt x s), e4]
  constructor
  · rintro ⟨o, h1, h2, h3⟩ q
    exact q o h1 ⟨h2, (hh o h1).mp h3⟩
  · intro q
    apply Classical.byContradiction
    intro g
    exact q (fun o ho e => g ⟨o, ho, e.1, (hh o ho).mpr e.2⟩)
theorem r_picks (H : MdI h m) (O : Ok x) (V : VR h m (mtS x (fun _ => true) (fgI x))) : Ret (f_X6_picksUp m h) () (fun h' => Fk m h h' ∧ VR h' m (pzS x 0)) := by
  have hP := O.1
  have hS := O.2.1
  have Oy : Ok (mtS x (fun _ => true) (fgI x)) := Ok_mtS O (fun i => fgt_le x _ _)
  have pe := fun p s hp hs => pick_eq (x := x) hS (rfl : mtS x (fun _ => true) (fgI x) = _) (p := p) (s := s) hp hs
  have er : ∀ r, r ≠ 9 → ∀ i, sA (mtS x (fun _ => true) (fgI x)) r i = sA x r i := fun r hr i => sA_mtS_n _ _ _ _ hr
  have e9 : ∀ p s, s < 6 → sA (mtS x (fun _ => true) (fgI x)) 9 (p * 6 + s) = fgt x s p := fun p s hs => by rw [sA_mtS, if_pos ⟨rfl, rfl⟩, fgI_at x hs]
  have hyP : sP (mtS x (fun _ => true) (fgI x)) = sP x := rfl
  have hyS : sS (mtS x (fun _ => true) (fgI x)) = sS x := rfl
  have hend : EqA (mtS (mtS x (fun _ => true) (fgI x)) (dnB (sP x) 0) (pkI x)) (pzS x 0) := by
    refine ⟨rfl, rfl, rfl, rfl, rfl, rfl, fun k hk i hi => ?_, fun p hp s hs => ?_⟩
    · rw [sA_mtS_n _ _ _ _ (by omega), er _ (by omega), sA_pzS, if_neg (by omega), if_neg (by omega)]
    · have hp' : p < sP x := hp
      have hs' : s < sS x := hs
      rw [sA_mtS, if_pos ⟨rfl, decide_eq_true (by omega)⟩, sA_pzS, if_pos rfl, if_neg (by omega)]
      rfl
  generalize mtS x (fun _ => true) (fgI x) = y at V Oy pe er e9 hyP hyS hend ⊢
  refine Ret.loop (lp := lp_X6_picksUp_2 m _) (fun p q => Fk m h q ∧ VR q m y ∧ LosI q (m + 28) p (repN y)) (sP x) (by omega) ⟨Fk.rf _ _, V, fun i hi => absurd hi (by omega)⟩ ?_ ?_
  · rintro k p h1 hp ⟨F, V1, L1⟩ kk
    have H1 := F.Md H
    show Ret (lb_X6_picksUp_2 m _ _ _ h1) _ _
    unfold lb_X6_picksUp_2
    rw [V1.gp H1, bd_ok, hyP, iN hp (by omega), H1.r 35 28 8 (by decide) rfl, bd_ok, inv_ok H1.1, r_songsOf H1 Oy V1 (by omega), ob_ok, sI_ok (H1.a 35 28 8 (by decide) rfl) (by omega) (by decide), bd_ok, nI1]
    have Fw : Fr (m + 28) 1 h1 (wI h1 (m + 28) (upd (hI h1 (m + 28)) p (nI (repN y p)))) := Fr.w (by omega) (by omega)
    refine kk _ ⟨F.tr (Fk.of Fw (by omega) (by omega)), V1.fr Fw (by omega), fun i hi => ?_⟩
    rw [hI_w]
    by_cases e : i = p
    · rw [e, upd_s]
    · rw [upd_n _ _ e]
      exact L1 i (by omega)
  · rintro k h1 ⟨F, V1, L1⟩
    have H1 := F.Md H
    show Ret (lb_X6_picksUp_2 m _ _ _ h1) _ _
    unfold lb_X6_picksUp_2
    rw [V1.gp H1, bd_ok, hyP, iY (by omega)]
    dsimp only
    refine Ret.loop (lp := lp_X6_picksUp_29 m _) (fun p q => Fk m h q ∧ VR q m (mtS y (dnB p 0) (pkI x)) ∧ LosI q (m + 28) (sP x) (repN y)) (sP x) (by omega) ⟨F, by rw [dnB_0]; exact V1, L1⟩ ?_ ?_
    · rintro k p h2 hp ⟨F2, V2, L2⟩ kk
      have H2 := F2.Md H
      have hp8 : p < ln 4 := by show p < 8; omega
      have hpk : p < ln 0 := by show p < 8; omega
      have b4 : sA x 4 p < 256 := O.b 4 p (by decide) hp8
      have b0 : sA x 0 p < 6 := O.b 0 p (by decide) hpk
      have em : ∀ r, r ≠ 9 → ∀ s i, sA (mtS y (dnB p s) (pkI x)) r i = sA x r i := fun r hr s i => by rw [sA_mtS_n _ _ _ _ hr, er _ hr]
      have hrl := hrdN_lt Oy p (sP x)
      show Ret (lb_X6_picksUp_29 m _ _ _ h2) _ _
      unfold lb_X6_picksUp_29
      rw [V2.gp H2, bd_ok, show sP (mtS y (dnB p 0) (pkI x)) = sP x from hyP, iN hp (by omega), nI1 p]
      have l4 := R_ld H2 V2 4 (by decide) hp8 (b := m + 21) rfl
      rw [em 4 (by decide)] at l4
      have sb : ∀ i, i < sP x → lI (m + 28) (nI i) h2 = some (nI (repN y i)) := fun i hi => by rw [lI_ok (H2.a 35 28 8 (by decide) rfl) (by omega) (by decide), L2 i hi]
      refine Ret.loopA (lp := lp_X6_picksUp_41 m (nI p) _) (fun i => nI (hrdN y p i)) (fun i q => q = h2) (sP x) (by omega) rfl rfl ?_ ?_
      · rintro t o h3 ho rfl kk3
        show Ret (lb_X6_picksUp_41 m _ _ _ _ _ _) _ _
        unfold lb_X6_picksUp_41
        rw [V2.gp H2, bd_ok, show sP (mtS y (dnB p 0) (pkI x)) = sP x from hyP, iN ho (by omega), H2.rk 4 (by decide) rfl rfl, bd_ok, l4, bd_ok, bit_tst o (by omega) _ b4, H2.r 35 28 8 (by decide) rfl, bd_ok, sb o ho, bd_ok, or_z, nI_or, nI1]
        have ht := tb_lt (sA x 4 p) o
        have e : hrdN y p (o + 1) = if tb (sA x 4 p) o = 1 then hrdN y p o ||| repN y o else hrdN y p o := by rw [← er 4 (by decide)]; rfl
        have := kk3 _ rfl
        rw [e] at this
        by_cases g : tb (sA x 4 p) o = 1
        · rw [if_pos g] at this
          rw [if_pos (show nI (tb (sA x 4 p) o) = 1 by rw [g]; rfl)]
          exact this
        · rw [if_neg g] at this
          rw [if_neg (show ¬ nI (tb (sA x 4 p) o) = 1 from eqN (m := 1) g (by decide) (by omega))]
          exact this
      · rintro t h3 rfl
        show Ret (lb_X6_picksUp_41 m _ _ _ _ _ _) _ _
        unfold lb_X6_picksUp_41
        rw [V2.gp H2, bd_ok, show sP (mtS y (dnB p 0) (pkI x)) = sP x from hyP, iY (by omega)]
        dsimp only
        by_cases g5 : sA x 0 p = 5
        · refine Ret.loop (lp := lp_X6_picksUp_84 m (nI p) (nI (hrdN y p (sP x))) _) (fun s q => Fk m h q ∧ VR q m (mtS y (dnB p s) (pkI x)) ∧ LosI q (m + 28) (sP x) (repN y)) (sS x) (by omega) ⟨F2, V2, L2⟩ ?_ ?_
          · rintro t2 s h4 hs ⟨F4, V4, L4⟩ kk4
            have H4 := F4.Md H
            have O4 : Ok (mtS y (dnB p s) (pkI x)) := Ok_mtS Oy (fun i => pck_le x _ _)
            have l0 := R_ld H4 V4 0 (by decide) hpk (b := m + 17) rfl
            rw [em 0 (by decide), g5] at l0
            have sb4 : lI (m + 28) (nI p) h4 = some (nI (repN y p)) := by rw [lI_ok (H4.a 35 28 8 (by decide) rfl) (by omega) (by decide), L4 p hp]
            have rl := repN_lt Oy p
            have al := andn_le (hrdN y p (sP x)) (repN y p)
            have at' := andn_tb s (by omega) _ hrl _ rl
            have pp := pe p s hp hs
            have tl := tb_lt (andn (hrdN y p (sP x)) (repN y p)) s
            have e1 : uA (mtS y (dnB p s) (pkI x)) 9 (p * 6 + s) (pck x s p) = mtS y (dnB p (s + 1)) (pkI x) := by
              rw [← pkI_at x (by omega : s < 6)]
              exact mtS_1 (dnB_1 (by omega))
            have ec : sA (mtS y (dnB p s) (pkI x)) 9 (p * 6 + s) = fgt x s p := by rw [sA_mtS, if_neg (fun q => dnB_n (by omega) q.2), e9 p s (by omega)]
            show Ret (lb_X6_picksUp_84 m _ _ _ _ _ h4) _ _
            unfold lb_X6_picksUp_84
            rw [V4.gs H4, bd_ok, show sS (mtS y (dnB p s) (pkI x)) = sS x from hyS, iN hs (by omega), H4.rk 0 (by decide) rfl rfl, bd_ok, l0, bd_ok, if_pos (show nI 5 = 5 from rfl), H4.r 35 28 8 (by decide) rfl, bd_ok, sb4, bd_ok, andn_ok _ hrl _ rl, bit_tst s (by omega) _ (by omega), nI1 s]
            by_cases g : tb (andn (hrdN y p (sP x)) (repN y p)) s = 1
            · rw [if_pos (show nI (tb (andn (hrdN y p (sP x)) (repN y p)) s) = 1 by rw [g]; rfl), H4.rk 9 (by decide) rfl rfl, bd_ok]
              obtain ⟨h5, e5, H5, V5, F5⟩ := W_has (c := 1) H4 O4 V4 (p := p) (s := s) (show p < sP y by omega) (show s < sS y by omega) (u := 0) rfl
              show Ret (Option.bind (sI (m + 26) (nI p * 6 + nI s) 0 h4) _) _ _
              rw [e5, bd_ok]
              have g' := at'.mp g
              have hpk1 : pck x s p = 1 := by
                have h1 : tb (sng x s) p = 0 := by
                  have := tb_lt (sng x s) p
                  have := (not_congr pp.1).mp g'.2
                  omega
                unfold pck
                rw [if_pos ⟨h1, g5, pp.2.mp g'.1⟩]
              rw [hpk1] at e1
              rw [e1] at V5
              exact kk4 h5 ⟨F4.tr F5.w33, V5, fun i hi => by rw [F5.2.2.2.2.2 (m + 28) (by omega)]; exact L4 i hi⟩
            · rw [if_neg (show ¬ nI (tb (andn (hrdN y p (sP x)) (repN y p)) s) = 1 from eqN (m := 1) g (by decide) (by omega))]
              refine kk4 h4 ⟨F4, ?_, L4⟩
              have : pck x s p = fgt x s p := by
                unfold pck
                rw [if_neg]
                rintro ⟨q1, q2, q3⟩
                refine g (at'.mpr ⟨pp.2.mpr q3, fun q => ?_⟩)
                have := pp.1.mp q
                omega
              rw [← e1, uA_same]
              · exact V4
              · rw [ec, this]
          · rintro t2 h4 ⟨F4, V4, L4⟩
            have H4 := F4.Md H
            show Ret (lb_X6_picksUp_84 m _ _ _ _ _ h4) _ _
            unfold lb_X6_picksUp_84
            rw [V4.gs H4, bd_ok, show sS (mtS y (dnB p (sS x)) (pkI x)) = sS x from hyS, iY (by omega)]
            have := dnB_row (x := y) (by omega) (p := p) (pkI x)
            rw [hyS] at this
            exact kk h4 ⟨F4, V4.ext this, L4⟩
        · have go : Ret (lp_X6_picksUp_29 m (fun h29_ => some ((), h29_)) k (nI (p + 1)) h3) () (fun h' => Fk m h h' ∧ VR h' m (pzS x 0)) := by
            refine kk h3 ⟨F2, V2.ext ?_, L2⟩
            refine ⟨rfl, rfl, rfl, rfl, rfl, rfl, fun k hk i hi => ?_, fun p' hp' s hs => ?_⟩
            · rw [em _ (by omega), sA_mtS_n _ _ _ _ (by omega), er _ (by omega)]
            · have hp2 : p' < sP y := hp'
              have hs2 : s < sS y := hs
              rw [sA_mtS, sA_mtS]
              by_cases q : p' < p
              · rw [if_pos ⟨rfl, decide_eq_true (by omega)⟩, if_pos ⟨rfl, decide_eq_true (by omega)⟩]
              · rw [if_neg (fun e => by have := of_decide_eq_true e.2; omega)]
                by_cases q2 : p' = p
                · rw [if_pos ⟨rfl, decide_eq_true (by omega)⟩, q2, e9 p s (by omega), pkI_at x (by omega)]
                  unfold pck
                  rw [if_neg (fun e => g5 e.2.1)]
                · rw [if_neg (fun e => by have := of_decide_eq_true e.2; omega)]
          have l0 := R_ld H2 V2 0 (by decide) hpk (b := m + 17) rfl
          rw [em 0 (by decide)] at l0
          show Ret (lb_X6_picksUp_84 m _ _ _ _ _ h3) _ _
          unfold lb_X6_picksUp_84
          rw [V2.gs H2, bd_ok, H2.rk 0 (by decide) rfl rfl, bd_ok, l0, bd_ok]
          split
          · exact go
          · rw [if_neg (show ¬ nI (sA x 0 p) = 5 from eqN (m := 5) g5 (by decide) (by omega))]
            exact go
    · rintro k h2 ⟨F2, V2, L2⟩
      have H2 := F2.Md H
      show Ret (lb_X6_picksUp_29 m _ _ _ h2) _ _
      unfold lb_X6_picksUp_29
      rw [V2.gp H2, bd_ok, show sP (mtS y (dnB (sP x) 0) (pkI x)) = sP x from hyP, iY (by omega)]
      exact Ret.mk ⟨F2, V2.ext hend⟩
theorem r_last (H : MdI h m) (O : Ok x) (V : VR h m (pzS x 0)) : Ret (lp_X6_passes_43 m (hv (besN x)) (fun b1_43 h43_ => some (b1_43, h43_)) 1000 0 0 h) (nI (fndN x (sS x))) (fun h' => Fk m h h' ∧ VR h' m (stpN x (sS x))) := by
  have hP := O.1
  have hS := O.2.1
  have by3 : sV x 3 < 1000 := O.2.2.2.1
  have hbl := besN_le x
  refine Ret.loopA (lp := lp_X6_passes_43 m (hv (besN x)) _) (fun i => nI (fndN x i)) (fun s q => Fk m h q ∧ VR q m (pzS x s)) (sS x) (by omega) rfl ⟨Fk.rf _ _, V⟩ ?_ ?_
  · rintro k s h1 hs ⟨F, V1⟩ kk
    have H1 := F.Md H
    have O1 := Ok_pzS O s
    have hs7 : s < ln 7 := by show s < 6; omega
    have hs6 : s < ln 6 := hs7
    have b7 : sA x 7 s < 3 := O.b 7 s (by decide) hs7
    have b6 : sA x 6 s < 5 := O.b 6 s (by decide) hs6
    have e7 : sA (pzS x s) 7 s = sA x 7 s := by rw [sA_pzS, if_neg (by omega), if_neg (by omega)]
    have e6 : sA (pzS x s) 6 s = sA x 6 s := by rw [sA_pzS, if_neg (by omega), if_neg (by omega)]
    have l7 := R_ld H1 V1 7 (by decide) hs7 (b := m + 24) rfl
    have l6 := R_ld H1 V1 6 (by decide) hs6 (b := m + 23) rfl
    rw [e7] at l7
    rw [e6] at l6
    have r7 : gR 6 21 m h1 = some (m + 24) := H1.rk 7 (by decide) rfl rfl
    have r6 : gR 6 20 m h1 = some (m + 23) := H1.rk 6 (by decide) rfl rfl
    have r9 : gR 6 23 m h1 = some (m + 26) := H1.rk 9 (by decide) rfl rfl
    have gy : gI 6 10 m h1 = some (nI (sV x 3)) := V1.gy H1
    have ec : ∀ p, p < sP x → sA (pzS x s) 9 (p * 6 + s) = pck x s p := fun p hp => by
      rw [sA_pzS, if_pos rfl, if_neg (by omega), show (p * 6 + s) % 6 = s by omega, show (p * 6 + s) / 6 = p by omega]
    have no : ¬ fnd x s = true → Ret (if nI (sA x 7 s) = 0 then
            ob (inv 6 m h1 (f_X6_holdersOf m (nI s) h1)) fun x117 h117 =>
            if x117 = 0 then
              (gR 6 21 m h117).bind fun x124 =>
              (sI x124 (nI s) 1 h117).bind fun h129 =>
              lp_X6_passes_43 m (hv (besN x)) (fun b1_43 h43_ => some (b1_43, h43_)) k (nI (fndN x s)) (nI (s + 1)) h129
            else
              lp_X6_passes_43 m (hv (besN x)) (fun b1_43 h43_ => some (b1_43, h43_)) k (nI (fndN x s)) (nI (s + 1)) h117
          else
            lp_X6_passes_43 m (hv (besN x)) (fun b1_43 h43_ => some (b1_43, h43_)) k (nI (fndN x s)) (nI (s + 1)) h1) (nI (fndN x (sS x))) (fun h' => Fk m h h' ∧ VR h' m (stpN x (sS x))) := by
      intro nf
      have ef : fndN x (s + 1) = fndN x s := by
        show (if fnd x s = true then fndN x s + 1 else fndN x s) = _
        rw [if_neg nf]
      rw [ef] at kk
      have ck : ∀ p, col x s p = pck x s p := fun p => by unfold col; rw [if_neg (fun e => nf e.1)]
      have hh : havN (pzS x s) s = sge x s := by
        unfold havN sge
        refine bsN_congr _ (fun p hp => ?_)
        unfold has
        rw [ec p hp, ck]
      have hsg : sge x s < 256 := Nat.lt_of_lt_of_le (bsN_lt _ _) (Nat.pow_le_pow_right (n := 2) (by decide) hP)
      have nx : ∀ v, stt x s = v → uA (pzS x s) 7 s v = pzS x (s + 1) := by
        rintro v rfl
        apply St_ext <;> try rfl
        intro r i
        rw [sA_uA, sA_pzS, sA_pzS]
        by_cases g : r = 7 ∧ i = s
        · rw [if_pos g, if_neg (by omega), if_pos ⟨g.1, by omega⟩, g.2]
        · rw [if_neg g]
          by_cases g9 : r = 9
          · rw [if_pos g9, if_pos g9]
            by_cases g1 : i % 6 < s
            · rw [if_pos g1, if_pos (by omega)]
            · rw [if_neg g1]
              by_cases g2 : i % 6 = s
              · rw [if_pos (by omega), g2, ck]
              · rw [if_neg (by omega)]
          · rw [if_neg g9, if_neg g9]
            by_cases g1 : r = 7 ∧ i < s
            · rw [if_pos g1, if_pos ⟨g1.1, by omega⟩]
            · rw [if_neg g1, if_neg (by omega)]
      have stay : stt x s = sA x 7 s → VR h1 m (pzS x (s + 1)) := fun e => by
        rw [← nx _ e, uA_same e7]
        exact V1
      by_cases q0 : sA x 7 s = 0
      · rw [if_pos (show nI (sA x 7 s) = 0 by rw [q0]; rfl), inv_ok H1.1, r_holdersOf H1 O1 V1 hs, ob_ok, hh]
        by_cases q1 : sge x s = 0
        · rw [if_pos (show nI (sge x s) = 0 by rw [q1]; rfl), r7, bd_ok]
          obtain ⟨h2, e2, H2, V2, F2⟩ := W_row H1 V1 7 (by decide) (v := 1) hs7 (u := 1) rfl (b := m + 24) rfl
          rw [e2, bd_ok]
          refine kk h2 ⟨F.tr F2.w33, ?_⟩
          rw [nx 1 (by unfold stt; rw [if_neg nf, if_pos ⟨q0, q1⟩])] at V2
          exact V2
        · rw [if_neg (show ¬ nI (sge x s) = 0 from eqN (m := 0) q1 (by decide) (by omega))]
          exact kk h1 ⟨F, stay (by unfold stt; rw [if_neg nf, if_neg (fun e => q1 e.2)])⟩
      · rw [if_neg (show ¬ nI (sA x 7 s) = 0 from eqN (m := 0) q0 (by decide) (by omega))]
        exact kk h1 ⟨F, stay (by unfold stt; rw [if_neg nf, if_neg (fun e => q0 e.1)])⟩
    show Ret (lb_X6_passes_43 m _ _ _ _ _ h1) _ _
    unfold lb_X6_passes_43
    rw [V1.gs H1, bd_ok, show sS (pzS x s) = sS x from rfl, iN hs (by omega)]
    simp only [r7, r6, r9, l7, l6, gy, dz5, Option.bind_some, rem5 (show sV x 3 ≤ 100000 by omega), nI1 s]
    by_cases q1 : sA x 7 s = 1
    · rw [if_pos (show nI (sA x 7 s) = 1 by rw [q1]; rfl)]
      by_cases q2 : sA x 6 s = sV x 3 % 5
      · rw [if_pos (congrArg nI q2)]
        by_cases q3 : besN x = 0
        · rw [if_pos ((hv_m1 (by omega)).mpr q3)]
          exact no (by unfold fnd; simp [q3])
        · have hf : fnd x s = true := by unfold fnd; simp [q1, q2, q3]
          rw [if_neg (by rw [hv_m1 (by omega)]; exact q3)]
          obtain ⟨b, hbb⟩ : ∃ b, besN x = b + 1 := ⟨besN x - 1, by omega⟩
          have hbv : hv (besN x) = nI b := by rw [hbb, hvS]
          have hbP : b < sP x := by omega
          obtain ⟨h2, e2, H2, V2, F2⟩ := W_has (c := 1) H1 O1 V1 (p := b) (s := s) hbP hs (u := 0) rfl
          have e2' : sI (m + 26) (hv (besN x) * 6 + nI s) 0 h1 = some h2 := by rw [hbv]; exact e2
          rw [e2', bd_ok]
          obtain ⟨h3, e3, H3, V3, F3⟩ := W_row H2 V2 7 (by decide) (v := 2) hs7 (u := 2) rfl (b := m + 24) rfl
          rw [H2.rk 7 (by decide) rfl rfl, bd_ok, e3, bd_ok]
          have ef : fndN x (s + 1) = fndN x s + 1 := by
            show (if fnd x s = true then fndN x s + 1 else fndN x s) = _
            rw [if_pos hf]
          have := kk h3 ⟨(F.tr F2.w33).tr F3.w33, ?_⟩
          · rw [ef, ← nI1] at this
            exact this
          · have e : uA (uA (pzS x s) 9 (b * 6 + s) 1) 7 s 2 = pzS x (s + 1) := by
              apply St_ext <;> try rfl
              intro r i
              rw [sA_uA, sA_uA, sA_pzS, sA_pzS]
              by_cases g : r = 7 ∧ i = s
              · rw [if_pos g, if_neg (by omega), if_pos ⟨g.1, by omega⟩, g.2]
                unfold stt
                rw [if_pos hf]
              · rw [if_neg g]
                by_cases g9 : r = 9
                · rw [if_pos g9, if_pos g9]
                  by_cases g3 : r = 9 ∧ i = b * 6 + s
                  · rw [if_pos g3, if_pos (by omega)]
                    rw [show i % 6 = s by omega]
                    unfold col
                    rw [if_pos ⟨hf, by omega⟩]
                  · rw [if_neg g3]
                    by_cases g1 : i % 6 < s
                    · rw [if_pos g1, if_pos (by omega)]
                    · rw [if_neg g1]
                      by_cases g2 : i % 6 = s
                      · rw [if_pos (by omega)]
                        unfold col
                        rw [if_neg (fun e => g3 ⟨g9, by have := e.2; omega⟩)]
                      · rw [if_neg (by omega)]
                · rw [if_neg (fun e => g9 e.1), if_neg g9, if_neg g9]
                  by_cases g1 : r = 7 ∧ i < s
                  · rw [if_pos g1, if_pos ⟨g1.1, by omega⟩]
                  · rw [if_neg g1, if_neg (by omega)]
            rw [e] at V3
            exact V3
      · rw [if_neg (by rw [nIe (by omega) (by omega)]; exact q2)]
        exact no (by unfold fnd; simp [q2])
    · rw [if_neg (show ¬ nI (sA x 7 s) = 1 from eqN (m := 1) q1 (by decide) (by omega))]
      exact no (by unfold fnd; simp [q1])
  · rintro k h1 ⟨F, V1⟩
    have H1 := F.Md H
    show Ret (lb_X6_passes_43 m _ _ _ _ _ h1) _ _
    unfold lb_X6_passes_43
    rw [V1.gs H1, bd_ok, show sS (pzS x (sS x)) = sS x from rfl, iY (by omega)]
    exact Ret.mk ⟨F, V1.ext (pzS_end hS)⟩
theorem r_passes (H : MdI h m) (O : Ok x) (V : VR h m x) : Ret (f_X6_passes m h) (nI (fndN (yr1 x) (sS x))) (fun h' => Fk m h h' ∧ VR h' m (yearS x)) := by
  have hy : sV x 3 < 1000 := O.2.2.2.1
  have O1 := Ok_yr1 O
  have rest : ∀ h23, MdI h23 m → VR h23 m (yr1 x) → Fk m h h23 → Ret (ob (inv 6 m h23 (f_X6_forgetsAll m h23)) fun _ h27 =>
    ob (inv 6 m h27 (f_X6_picksUp m h27)) fun _ h31 =>
    ob (inv 6 m h31 (f_X6_findsAll m h31)) fun x37 h37 =>
    lp_X6_passes_43 m x37 (fun b1_43 h43_ =>
      some (b1_43, h43_))
      1000 0 0 h37) (nI (fndN (yr1 x) (sS x))) (fun h' => Fk m h h' ∧ VR h' m (yearS x)) := by
    intro h1 H1 V1 F1
    refine Ret.icall H1.1 (r_forgets H1 O1 V1) fun h2 ⟨F2, V2⟩ => ?_
    have H2 := F2.Md H1
    refine Ret.icall H2.1 (r_picks H2 O1 V2) fun h3 ⟨F3, V3⟩ => ?_
    have H3 := F3.Md H2
    have hb : besN (pzS (yr1 x) 0) = besN (yr1 x) := besF_congr _ (fun p _ => by rw [sA_pzS, if_neg (by decide), if_neg (by omega)])
    rw [inv_ok H3.1, r_finds H3 (Ok_pzS O1 0) V3, ob_ok, hb]
    exact (r_last H3 O1 V3).mono fun h4 ⟨F4, V4⟩ => ⟨((F1.tr F2).tr F3).tr F4, V4⟩
  unfold f_X6_passes
  rw [V.gy H, bd_ok, bd_ok, nI1]
  by_cases q : 999 ≤ sV x 3
  · rw [if_pos (show (999 : Int32) ≤ nI (sV x 3) from leY (m := 999) q (by omega))]
    obtain ⟨h1, e1, H1, V1, F1⟩ := W_num H V (k := 3) (v := min 999 (sV x 3 + 1)) (by omega) (q := 10) rfl (u := 999) (by rw [show min 999 (sV x 3 + 1) = 999 by omega]; rfl)
    rw [e1, bd_ok]
    exact rest h1 H1 V1 F1
  · rw [if_neg (show ¬ (999 : Int32) ≤ nI (sV x 3) from leN (m := 999) (by omega) (by decide))]
    obtain ⟨h1, e1, H1, V1, F1⟩ := W_num H V (k := 3) (v := min 999 (sV x 3 + 1)) (by omega) (q := 10) rfl (u := nI (sV x 3 + 1)) (by rw [show min 999 (sV x 3 + 1) = sV x 3 + 1 by omega])
    rw [e1, bd_ok]
    exact rest h1 H1 V1 F1
end REF2
