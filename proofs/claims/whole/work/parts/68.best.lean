/-! BOTH SIDES: the best, the least -/
theorem clr_tb : ∀ k, k < 8 → ∀ j, j < 8 → ∀ m, m < 256 → tb (clrb m k) j = if j = k then 0 else tb m j := by decide +kernel
theorem tb_z (j : Nat) : tb 0 j = 0 := by unfold tb; rw [Nat.zero_div]
/-- one's bit taken from those below n -/
def clF (x : St) (p : Nat) : Nat → St
  | 0 => x
  | o + 1 => uA (clF x p o) 4 o (clrb (sA (clF x p o) 4 o) p)
theorem clF_P (x : St) (p : Nat) : ∀ n, sP (clF x p n) = sP x ∧ sS (clF x p n) = sS x
  | 0 => ⟨rfl, rfl⟩
  | n + 1 => clF_P x p n
theorem Ok_clF {x : St} (O : Ok x) {p : Nat} (hp : p < 8) : ∀ n, Ok (clF x p n)
  | 0 => O
  | n + 1 => Ok_uA (Ok_clF O hp n) (by decide) (fun hi => (bit_clr p hp _ ((Ok_clF O hp n).b 4 n (by decide) hi)).2)
theorem clF_4 (x : St) (p : Nat) : ∀ n a, sA (clF x p n) 4 a = if a < n then clrb (sA x 4 a) p else sA x 4 a
  | 0, a => by rw [if_neg (by omega)]; rfl
  | n + 1, a => by
    show sA (uA (clF x p n) 4 n (clrb (sA (clF x p n) 4 n) p)) 4 a = _
    rw [sA_uA, clF_4 x p n a, clF_4 x p n n]
    by_cases e : a = n
    · rw [if_pos ⟨rfl, e⟩, if_neg (by omega), if_pos (by omega), e]
    · rw [if_neg (fun q => e q.2)]
      by_cases g : a < n
      · rw [if_pos g, if_pos (by omega)]
      · rw [if_neg g, if_neg (by omega)]
theorem clF_n (x : St) (p : Nat) {r : Nat} (hr : r ≠ 4) : ∀ n i, sA (clF x p n) r i = sA x r i
  | 0, _ => rfl
  | n + 1, i => by
    show sA (uA (clF x p n) 4 n _) r i = _
    rw [sA_uA, if_neg (fun q => hr q.1), clF_n x p hr n i]
theorem lvF_n (x : St) (p : Nat) {r : Nat} (hr : r ≠ 4) : ∀ n i, sA (lvF x p n) r i = sA x r i
  | 0, _ => rfl
  | n + 1, i => by
    show sA (besS (lvF x p n) p n false) r i = _
    unfold besS
    rw [sA_uA, if_neg (fun q => hr q.1), sA_uA, if_neg (fun q => hr q.1), lvF_n x p hr n i]
theorem lvF_V (x : St) (p : Nat) : ∀ n k, sV (lvF x p n) k = sV x k
  | 0, _ => rfl
  | n + 1, k => lvF_V x p n k
theorem clF_V (x : St) (p : Nat) : ∀ n k, sV (clF x p n) k = sV x k
  | 0, _ => rfl
  | n + 1, k => clF_V x p n k
theorem lvF_4 {x : St} (O : Ok x) {p : Nat} (hp : p < 8) : ∀ n, n ≤ 8 → ∀ a, a < 8 → ∀ b, b < 8 → tb (sA (lvF x p n) 4 a) b = if (a = p ∧ b < n) ∨ (b = p ∧ a < n) then 0 else tb (sA x 4 a) b
  | 0, _, a, ha, b, hb => by rw [if_neg (by omega)]; rfl
  | n + 1, hn, a, ha, b, hb => by
    have ih := lvF_4 O hp n (by omega)
    have On := Ok_lvF O hp n (by omega)
    have bp : sA (lvF x p n) 4 p < 256 := On.b 4 p (by decide) hp
    have c1 : sA (uA (lvF x p n) 4 p (clrb (sA (lvF x p n) 4 p) n)) 4 n < 256 := (Ok_uA On (by decide) (fun _ => (bit_clr n (by omega) _ bp).2)).b 4 n (by decide) (by show n < 8; omega)
    show tb (sA (besS (lvF x p n) p n false) 4 a) b = _
    have eb : besS (lvF x p n) p n false = uA (uA (lvF x p n) 4 p (clrb (sA (lvF x p n) 4 p) n)) 4 n (clrb (sA (uA (lvF x p n) 4 p (clrb (sA (lvF x p n) 4 p) n)) 4 n) p) := rfl
    have e1 : ∀ c, sA (uA (lvF x p n) 4 p (clrb (sA (lvF x p n) 4 p) n)) 4 c = if c = p then clrb (sA (lvF x p n) 4 p) n else sA (lvF x p n) 4 c := fun c => by
      rw [sA_uA]
      by_cases e : c = p
      · rw [if_pos ⟨rfl, e⟩, if_pos e]
      · rw [if_neg (fun q => e q.2), if_neg e]
    rw [eb, sA_uA]
    by_cases e : a = n
    · rw [if_pos ⟨rfl, e⟩, clr_tb p hp b hb _ c1]
      by_cases e2 : b = p
      · rw [if_pos e2, if_pos (Or.inr ⟨e2, by omega⟩)]
      · rw [if_neg e2, e1]
        by_cases e3 : n = p
        · rw [if_pos e3, clr_tb n (by omega) b hb _ bp]
          by_cases e4 : b = n
          · exact absurd (e4.trans e3) e2
          · rw [if_neg e4, ih p hp b hb]
            by_cases g : b < n
            · rw [if_pos (Or.inl ⟨rfl, g⟩), if_pos (Or.inl ⟨by omega, by omega⟩)]
            · rw [if_neg (by omega), if_neg (by omega), e, e3]
        · rw [if_neg e3, ih n (by omega) b hb, if_neg (by omega), if_neg (by omega), e]
    · rw [if_neg (fun q => e q.2), e1]
      by_cases e3 : a = p
      · rw [if_pos e3, clr_tb n (by omega) b hb _ bp]
        by_cases e4 : b = n
        · rw [if_pos e4, if_pos (Or.inl ⟨e3, by omega⟩)]
        · rw [if_neg e4, ih p hp b hb]
          by_cases g : (p = p ∧ b < n) ∨ (b = p ∧ p < n)
          · rw [if_pos g, if_pos (by omega)]
          · rw [if_neg g, if_neg (by omega), e3]
      · rw [if_neg e3, ih a ha b hb]
        by_cases g : (a = p ∧ b < n) ∨ (b = p ∧ a < n)
        · rw [if_pos g, if_pos (by omega)]
        · rw [if_neg g, if_neg (by omega)]
/-- the reference's way to leave a table is alike -/
theorem leave_eq {x : St} (O : Ok x) {p s : Nat} (hp : p < sP x) (hs : s < sS x) : loss (uA (clF x p (sP x)) 4 p 0) s = loss (lvF x p (sP x)) s := by
  have hP := O.1
  have hS := O.2.1
  have Oc : Ok (uA (clF x p (sP x)) 4 p 0) := Ok_uA (Ok_clF O (by omega) _) (by decide) (fun _ => by decide)
  have Ol : Ok (lvF x p (sP x)) := Ok_lvF O (by omega) _ hP
  have eP : sP (uA (clF x p (sP x)) 4 p 0) = sP x := (clF_P x p _).1
  refine loss_congr ⟨eP.trans (lvF_P x p _).1.symm, (clF_P x p _).2.trans (lvF_P x p _).2.symm, (clF_V x p _ 2).trans (lvF_V x p _ 2).symm, (clF_V x p _ 3).trans (lvF_V x p _ 3).symm, (clF_V x p _ 5).trans (lvF_V x p _ 5).symm, fun k hk h4 i hi => ?_, ?_, fun q hq => ?_, fun a ha b hb => ?_⟩ Oc Ol (by show s < sS (clF x p (sP x)); rw [(clF_P x p _).2]; exact hs)
  · rw [sA_uA, if_neg (fun q => h4 q.1), clF_n x p h4, lvF_n x p h4]
  · rw [sA_uA, if_neg (by omega), clF_n x p (by decide), lvF_n x p (by decide)]
  · rw [sA_uA, if_neg (by omega), clF_n x p (by decide), lvF_n x p (by decide)]
  · rw [eP] at ha hb
    rw [lvF_4 O (by omega) _ hP a (by omega) b (by omega), sA_uA, clF_4]
    by_cases e : a = p
    · rw [if_pos ⟨rfl, e⟩, tb_z, if_pos (Or.inl ⟨e, hb⟩)]
    · rw [if_neg (fun q => e q.2), if_pos ha, clr_tb p (by omega) b (by omega) _ (O.b 4 a (by decide) (by show a < 8; omega))]
      by_cases g : b = p
      · rw [if_pos g, if_pos (Or.inr ⟨g, ha⟩)]
      · rw [if_neg g, if_neg (by omega)]
/-- the least from above -/
def lowF (P : Nat → Bool) : Nat → Nat
  | 0 => 0
  | i + 1 => if P (9 - i) = true then 9 - i + 1 else lowF P i
theorem lowF_spec (P : Nat → Bool) : ∀ i, i ≤ 10 → (lowF P i = 0 → ∀ v, 10 - i ≤ v → v < 10 → ¬ P v = true) ∧ (∀ v, lowF P i = v + 1 → P v = true ∧ 10 - i ≤ v ∧ v < 10 ∧ ∀ u, 10 - i ≤ u → u < v → ¬ P u = true)
  | 0, _ => ⟨fun _ v h1 h2 => absurd h2 (by omega), fun v hv => by cases hv⟩
  | i + 1, hi => by
    obtain ⟨a, b⟩ := lowF_spec P i (by omega)
    have e : lowF P (i + 1) = if P (9 - i) = true then 9 - i + 1 else lowF P i := rfl
    rw [e]
    by_cases q : P (9 - i) = true
    · rw [if_pos q]
      refine ⟨fun h => absurd h (by omega), fun v hv => ?_⟩
      have : v = 9 - i := by omega
      subst this
      exact ⟨q, by omega, by omega, fun u h1 h2 => absurd h2 (by omega)⟩
    · rw [if_neg q]
      have ext : ∀ v, 10 - (i + 1) ≤ v → v = 9 - i ∨ 10 - i ≤ v := fun v h => by omega
      refine ⟨fun h v h1 h2 => ?_, fun v hv => ?_⟩
      · rcases ext v h1 with g | g
        · rw [g]; exact q
        · exact a h v g h2
      · obtain ⟨b1, b2, b3, b4⟩ := b v hv
        refine ⟨b1, by omega, b3, fun u h1 h2 => ?_⟩
        rcases ext u h1 with g | g
        · rw [g]; exact q
        · exact b4 u g h2
theorem lowF_le (P : Nat → Bool) (i : Nat) (hi : i ≤ 10) : lowF P i ≤ 10 := by
  have := (lowF_spec P i hi).2
  cases h : lowF P i with
  | zero => omega
  | succ v => have := (this v h).2.2.1; omega
theorem lowF_fst (P : Nat → Bool) : hv (lowF P 10) = fstI P 10 := by
  obtain ⟨a, b⟩ := lowF_spec P 10 (Nat.le_refl _)
  cases h : lowF P 10 with
  | zero => rw [hv0, fstI_miss (fun v hv => a h v (by omega) hv)]
  | succ v =>
    obtain ⟨b1, b2, b3, b4⟩ := b v h
    rw [hvS, fstI_hit b3 (fun u hu => b4 u (by omega) hu) b1]
section BEST
variable {h : HP} {w : Wd}
theorem al_keep (W : WI h w) (a1 : Int32) : Alk (f_X5_keep 0 a1) (f_X6_keep 71 a1) h := by
  obtain ⟨O, C, V, -⟩ := id W
  have hP := O.1.1
  by_cases g1 : inR a1 (sS (wX w))
  · obtain ⟨s, hs, rfl⟩ := inR_is g1
    refine both W (hv (minG (fun _ => true) (fun p => loss (lvF (wX w) p (sP (wX w))) s) (sP (wX w))).1) w O ?_ (fun h1 R => ?_)
    · unfold f_X5_keep
      rw [cSY C V O g1, C.g3, bd_ok, C.g0, bd_ok]
      exact Ret.icall C.O.1 (Ret.scr V (by decide) (by decide) (s_needed C.O C.I O.1 V.1 (by decide) hs)) fun h2 q => Ret.mk q
    · unfold f_X6_keep
      rw [rSY R O g1]
      refine Ret.loopB (lp := lp_X6_keep_23 71 (nI s) _) (fun i => (hv (minG (fun _ => true) (fun p => loss (lvF (wX w) p (sP (wX w))) s) i).1, nI (minG (fun _ => true) (fun p => loss (lvF (wX w) p (sP (wX w))) s) i).2)) (fun i q => RR q 71 w ∧ Sm 71 h1 q) (sP (wX w)) (by omega) rfl ⟨R, Sm.rf _ _⟩ ?_ ?_
      · rintro t p h2 hp ⟨R2, S2⟩ kk
        have ml := minG_le (fun _ => true) (fun p => loss (lvF (wX w) p (sP (wX w))) s) p
        show Ret (lb_X6_keep_23 71 _ _ _ _ _ _ h2) _ _
        unfold lb_X6_keep_23
        rw [R2.v.gp R2.md, bd_ok, iN hp (by omega), nI1]
        obtain ⟨k, rt⟩ := r_thought O R2
        refine Ret.icall R2.md.1 rt fun h3 ⟨T3, V3, S3⟩ => ?_
        refine Ret.loop (lp := lp_X6_keep_41 71 (nI s) _ _ (nI p) k _) (fun o q => RT q 71 k w ∧ VR q k (clF (wX w) p o) ∧ Sm 71 h1 q) (sP (wX w)) (by omega) ⟨T3, V3, S2.tr S3.1⟩ ?_ ?_
        · rintro t2 o h4 ho ⟨T4, V4, S4⟩ kk4
          have Oc := Ok_clF O.1 (show p < 8 by omega) o
          have ho8 : o < ln 4 := by show o < 8; omega
          have b4 : sA (clF (wX w) p o) 4 o < 256 := Oc.b 4 o (by decide) ho8
          show Ret (lb_X6_keep_41 71 _ _ _ _ k _ _ _ h4) _ _
          unfold lb_X6_keep_41
          obtain ⟨h5, e5, H5, V5, F5⟩ := W_row T4.k.2 V4 4 (by decide) (i := o) (v := clrb (sA (clF (wX w) p o) 4 o) p) ho8 rfl (b := k + 21) rfl
          rw [T4.R.v.gp T4.R.md, bd_ok, iN ho (by omega), T4.k.2.rk 4 (by decide) rfl rfl, bd_ok, R_ld T4.k.2 V4 4 (by decide) ho8 (b := k + 21) rfl, bd_ok, (bit_clr p (by omega) _ b4).1, e5, bd_ok, nI1]
          obtain ⟨T5, S5⟩ := T4.fr F5.w33.1
          exact kk4 h5 ⟨T5, V5, S4.tr S5.1⟩
        · rintro t2 h4 ⟨T4, V4, S4⟩
          have hp8 : p < ln 4 := by show p < 8; omega
          show Ret (lb_X6_keep_41 71 _ _ _ _ k _ _ _ h4) _ _
          unfold lb_X6_keep_41
          rw [T4.R.v.gp T4.R.md, bd_ok, iY (by omega)]
          dsimp only
          obtain ⟨h5, e5, H5, V5, F5⟩ := W_row T4.k.2 V4 4 (by decide) (i := p) (v := 0) hp8 (u := 0) rfl (b := k + 21) rfl
          rw [T4.k.2.rk 4 (by decide) rfl rfl, bd_ok, e5, bd_ok]
          obtain ⟨T5, S5⟩ := T4.fr F5.w33.1
          have Oc : Ok (uA (clF (wX w) p (sP (wX w))) 4 p 0) := Ok_uA (Ok_clF O.1 (by omega) _) (by decide) (fun _ => by decide)
          refine Ret.icall T5.k.2.1 (r_runs T5.k.2 Oc V5 (s := s) (by show s < sS (clF (wX w) p (sP (wX w))); rw [(clF_P _ _ _).2]; exact hs)) fun h6 ⟨F6, _⟩ => ?_
          obtain ⟨T6, S6⟩ := T5.fr F6
          have hl := loss_le (lvF (wX w) p (sP (wX w))) s
          rw [leave_eq O.1 hp hs]
          have go := kk h6 ⟨T6.R, (S4.tr S5.1).tr S6.1⟩
          have e : minG (fun _ => true) (fun p => loss (lvF (wX w) p (sP (wX w))) s) (p + 1) = if true = true ∧ loss (lvF (wX w) p (sP (wX w))) s < (minG (fun _ => true) (fun p => loss (lvF (wX w) p (sP (wX w))) s) p).2 then (p + 1, loss (lvF (wX w) p (sP (wX w))) s) else minG (fun _ => true) (fun p => loss (lvF (wX w) p (sP (wX w))) s) p := rfl
          rw [e] at go
          by_cases g : loss (lvF (wX w) p (sP (wX w))) s < (minG (fun _ => true) (fun p => loss (lvF (wX w) p (sP (wX w))) s) p).2
          · rw [if_pos ⟨rfl, g⟩] at go
            dsimp only at go ⊢
            rw [hvS] at go
            rw [if_neg (leN g (by omega))]
            exact go
          · rw [if_neg (fun q => g q.2)] at go
            dsimp only at go ⊢
            rw [if_pos (leY (by omega) (by omega))]
            exact go
      · rintro t h2 ⟨R2, S2⟩
        show Ret (lb_X6_keep_23 71 _ _ _ _ _ _ h2) _ _
        unfold lb_X6_keep_23
        rw [R2.v.gp R2.md, bd_ok, iY (by omega)]
        exact Ret.mk ⟨R2, S2⟩
  · refine bad W ?_ (fun h1 R => ?_)
    · unfold f_X5_keep
      rw [cSN C V O g1]
    · unfold f_X6_keep
      rw [rSN R O g1]
theorem z_dec {i : Nat} (hi : i < 10) : nI (9 - i) + (-1) = zI ((9 : Int) - ((i + 1 : Nat) : Int)) := by
  rw [zI_n, show (-1 : Int32) = zI (-1) from rfl, zI_add]
  congr 1
  omega
/-- a loop from nine down to nothing -/
theorem down {ρ : Type} {v : ρ} {Q : HP → Prop} {lp : Nat → Int32 → Int32 → HP → Option (ρ × HP)} {h : HP} (P : Nat → Bool) (J : HP → Prop) (h0 : J h) (hs : ∀ k i h1, i < 10 → J h1 → (∀ h2, J h2 → Ret (lp k (hv (lowF P (i + 1))) (nI (9 - i) + (-1)) h2) v Q) → Ret (lp (k + 1) (hv (lowF P i)) (nI (9 - i)) h1) v Q) (hx : ∀ k h1, J h1 → Ret (lp (k + 1) (fstI P 10) (-1) h1) v Q) : Ret (lp 1000 (-1) 9 h) v Q := by
  refine Ret.gen (run := fun k (q : Int32 × Int32 × HP) => lp k q.1 q.2.1 q.2.2) (fun i q => q.1 = hv (lowF P i) ∧ q.2.1 = zI ((9 : Int) - (i : Int)) ∧ J q.2.2) 10 ?_ ?_ 10 0 1000 (-1, 9, h) (by omega) (by omega) ⟨rfl, rfl, h0⟩
  · rintro k i ⟨a, b, h1⟩ hi ⟨e1, e2, hJ⟩ kk
    dsimp only at e1 e2 hJ ⊢
    subst e1
    have e3 : b = nI (9 - i) := by
      rw [e2, zI_n]
      congr 1
      omega
    subst e3
    exact hs k i h1 hi hJ (fun h2 hJ2 => kk (_, _, h2) ⟨rfl, z_dec hi, hJ2⟩)
  · rintro k ⟨a, b, h1⟩ ⟨e1, e2, hJ⟩
    dsimp only at e1 e2 hJ ⊢
    subst e1
    subst e2
    rw [lowF_fst]
    exact hx k h1 hJ
theorem al_workFor (W : WI h w) (a1 a2 : Int32) : Alk (f_X5_workFor 0 a1 a2) (f_X6_workFor 71 a1 a2) h := by
  obtain ⟨O, C, V, -⟩ := id W
  by_cases g1 : inR a1 (sS (wX w))
  · by_cases g2 : inR a2 61
    · obtain ⟨s, hs, rfl⟩ := inR_is g1
      obtain ⟨n, hn, rfl⟩ := inR_is g2
      refine both W (fstI (fun v => decide (loss (uV (wX w) 2 v) s ≤ n)) 10) w O ?_ (fun h1 R => ?_)
      · unfold f_X5_workFor
        rw [cSY C V O g1, cY 61 g2 (by decide), C.g3, bd_ok, C.g0, bd_ok]
        exact Ret.icall C.O.1 (Ret.scr V (by decide) (by decide) (s_leastWork C.O C.I O.1 V.1 (by decide) hs (by omega))) fun h2 q => Ret.mk q
      · unfold f_X6_workFor
        rw [rSY R O g1, rY 60 g2]
        refine down (lp := lp_X6_workFor_33 71 (nI s) (nI n) _) (fun v => decide (loss (uV (wX w) 2 v) s ≤ n)) (fun q => RR q 71 w ∧ Sm 71 h1 q) ⟨R, Sm.rf _ _⟩ ?_ ?_
        · rintro t i h2 hi ⟨R2, S2⟩ kk
          have Ow : Ok (uV (wX w) 2 (9 - i)) := Ok_uV O.1 (fun _ => by omega) (fun q => by cases q) (fun q => by cases q)
          have hl := loss_le (uV (wX w) 2 (9 - i)) s
          show Ret (lb_X6_workFor_33 71 _ _ _ _ _ _ h2) _ _
          unfold lb_X6_workFor_33
          rw [if_neg (show ¬ nI (9 - i) < 0 from ltN (b := 0) (by omega) (by omega))]
          obtain ⟨k, rt⟩ := r_thought O R2
          refine Ret.icall R2.md.1 rt fun h3 ⟨T3, V3, S3⟩ => ?_
          obtain ⟨h4, e4, H4, V4, F4⟩ := W_num T3.k.2 V3 (k := 2) (v := 9 - i) (by omega) (q := 9) rfl rfl
          rw [e4, bd_ok]
          obtain ⟨T4, S4⟩ := T3.fr F4.1
          refine Ret.icall T4.k.2.1 (r_runs T4.k.2 Ow V4 (s := s) hs) fun h5 ⟨F5, _⟩ => ?_
          obtain ⟨T5, S5⟩ := T4.fr F5
          have go := kk h5 ⟨T5.R, ((S2.tr S3.1).tr S4.1).tr S5.1⟩
          have e : lowF (fun v => decide (loss (uV (wX w) 2 v) s ≤ n)) (i + 1) = if decide (loss (uV (wX w) 2 (9 - i)) s ≤ n) = true then 9 - i + 1 else lowF (fun v => decide (loss (uV (wX w) 2 v) s ≤ n)) i := rfl
          rw [e] at go
          by_cases g : loss (uV (wX w) 2 (9 - i)) s ≤ n
          · rw [if_pos (decide_eq_true g), hvS] at go
            rw [if_neg (ltN g (by omega))]
            exact go
          · rw [if_neg (by simpa using g)] at go
            rw [if_pos (ltY (by omega) (by omega))]
            exact go
        · rintro t h2 ⟨R2, S2⟩
          show Ret (lb_X6_workFor_33 71 _ _ _ _ _ _ h2) _ _
          unfold lb_X6_workFor_33
          rw [if_pos (by decide)]
          exact Ret.mk ⟨R2, S2⟩
    · refine bad W ?_ (fun h1 R => ?_)
      · unfold f_X5_workFor
        rw [cSY C V O g1, cN 61 g2 (by decide)]
      · unfold f_X6_workFor
        rw [rSY R O g1, rN 60 g2]
  · refine bad W ?_ (fun h1 R => ?_)
    · unfold f_X5_workFor
      rw [cSN C V O g1]
    · unfold f_X6_workFor
      rw [rSN R O g1]
theorem al_teach (W : WI h w) (a1 a2 : Int32) : Alk (f_X5_teach 0 a1 a2) (f_X6_teach 71 a1 a2) h := by
  obtain ⟨O, C, V, -⟩ := id W
  have hP := O.1.1
  have hS := O.1.2.1
  by_cases g1 : inR a1 (sS (wX w))
  · by_cases g2 : inR a2 9
    · obtain ⟨s, hs, rfl⟩ := inR_is g1
      obtain ⟨n, hn, rfl⟩ := inR_is g2
      have hh := havN_lt O.1 s
      have hp2 : 2 ^ sP (wX w) ≤ 256 := Nat.pow_le_pow_right (n := 2) (by decide) hP
      refine both W (hv (minG (tcOk (wX w) s n) (fun m => loss (tchS (wX w) s m) s) (2 ^ sP (wX w))).1) w O ?_ (fun h1 R => ?_)
      · unfold f_X5_teach
        rw [cSY C V O g1, cY 9 g2 (by decide), C.g3, bd_ok, C.g0, bd_ok]
        exact Ret.icall C.O.1 (Ret.scr V (by decide) (by decide) (s_worst C.O C.I O.1 V.1 (by decide) hs (by omega))) fun h2 q => Ret.mk q
      · unfold f_X6_teach
        rw [rSY R O g1, rY 8 g2, inv_ok R.md.1, r_holdersOf R.md O.1 R.v hs, ob_ok]
        refine Ret.loopB (lp := lp_X6_teach_43 71 (nI s) (nI n) (nI (havN (wX w) s)) _) (fun i => (hv (minG (tcOk (wX w) s n) (fun m => loss (tchS (wX w) s m) s) i).1, nI (minG (tcOk (wX w) s n) (fun m => loss (tchS (wX w) s m) s) i).2)) (fun i q => RR q 71 w ∧ Sm 71 h1 q) (2 ^ sP (wX w)) (by omega) rfl ⟨R, Sm.rf _ _⟩ ?_ ?_
        · rintro t m h2 hm ⟨R2, S2⟩ kk
          have ml := minG_le (tcOk (wX w) s n) (fun m => loss (tchS (wX w) s m) s) m
          have hpm := pop_le m
          have hmh : m &&& havN (wX w) s ≤ m := Nat.and_le_left
          have skip : ¬ tcOk (wX w) s n m = true → Ret (lp_X6_teach_43 71 (nI s) (nI n) (nI (havN (wX w) s)) (fun b3_43 h43_ => some (b3_43, h43_)) t (hv (minG (tcOk (wX w) s n) (fun m => loss (tchS (wX w) s m) s) m).1) (nI (minG (tcOk (wX w) s n) (fun m => loss (tchS (wX w) s m) s) m).2) (nI (m + 1)) h2) (hv (minG (tcOk (wX w) s n) (fun m => loss (tchS (wX w) s m) s) (2 ^ sP (wX w))).1) (fun h2 => RR h2 71 w ∧ Sm 71 h1 h2) := fun q => by
            have := kk h2 ⟨R2, S2⟩
            rw [min_skip q] at this
            exact this
          show Ret (lb_X6_teach_43 71 _ _ _ _ _ _ _ _ h2) _ _
          unfold lb_X6_teach_43
          rw [R2.v.gp R2.md, bd_ok, bit_one10 _ (by omega), iN hm (by omega), r_bits _ _ (by omega), ob_ok, nI_and, nI1]
          by_cases q1 : pop m = n
          · rw [if_pos (congrArg nI q1)]
            by_cases q2 : m &&& havN (wX w) s = 0
            · rw [if_pos ((nI0 (by omega)).mpr q2)]
              have tok : tcOk (wX w) s n m = true := decide_eq_true ⟨q2, q1⟩
              obtain ⟨k, rt⟩ := r_thought O R2
              refine Ret.icall R2.md.1 rt fun h3 ⟨T3, V3, S3⟩ => ?_
              refine Ret.loop (lp := lp_X6_teach_80 71 (nI s) _ _ _ _ (nI m) k _) (fun i q => RT q 71 k w ∧ VR q k (colS (wX w) s i (fun p => if tb m p = 1 then 1 else sA (wX w) 9 (p * 6 + s))) ∧ Sm 71 h1 q) (sP (wX w)) (by omega) ⟨T3, by rw [colS_0]; exact V3, S2.tr S3.1⟩ ?_ ?_
              · rintro t2 i h4 hi ⟨T4, V4, S4⟩ kk4
                have Oc : Ok (colS (wX w) s i (fun p => if tb m p = 1 then 1 else sA (wX w) 9 (p * 6 + s))) := by
                  obtain ⟨o1, o2, o3, o4, o5, o6, o7⟩ := O.1
                  refine ⟨o1, o2, o3, o4, o5, fun r hr j hj => by rw [sA_colS_n _ _ _ _ _ (by omega)]; exact o6 r hr j hj, fun p hp s' hs' => ?_⟩
                  have hs2 : s' < sS (wX w) := hs'
                  rw [sA_colS]
                  split
                  · rename_i q
                    split
                    · decide
                    · exact o7 _ (by have := q.2.2; omega) _ hs
                  · exact o7 p hp s' hs'
                have hi2 : i < sP (colS (wX w) s i (fun p => if tb m p = 1 then 1 else sA (wX w) 9 (p * 6 + s))) := hi
                have hs2 : s < sS (colS (wX w) s i (fun p => if tb m p = 1 then 1 else sA (wX w) 9 (p * 6 + s))) := hs
                have tl := tb_lt m i
                show Ret (lb_X6_teach_80 71 _ _ _ _ _ _ k _ _ _ h4) _ _
                unfold lb_X6_teach_80
                rw [T4.R.v.gp T4.R.md, bd_ok, iN hi (by omega), T4.k.2.rk 9 (by decide) rfl (b := k + 26) rfl, bd_ok, bit_tst i (by omega) _ (by omega), nI1 i]
                have put : ∀ c u, u = hv c → c = (if tb m i = 1 then 1 else sA (wX w) 9 (i * 6 + s)) → Ret ((sI (k + 26) ((nI i * 6) + nI s) u h4).bind fun h128 => lp_X6_teach_80 71 (nI s) (nI n) (hv (minG (tcOk (wX w) s n) (fun m => loss (tchS (wX w) s m) s) m).1) (nI (minG (tcOk (wX w) s n) (fun m => loss (tchS (wX w) s m) s) m).2) (nI (havN (wX w) s)) (nI m) k (fun h80_ => ob (inv 6 k h80_ (f_X6_runsOut k (nI s) h80_)) fun x138 h138 => if nI (minG (tcOk (wX w) s n) (fun m => loss (tchS (wX w) s m) s) m).2 ≤ x138 then lp_X6_teach_43 71 (nI s) (nI n) (nI (havN (wX w) s)) (fun b3_43 h43_ => some (b3_43, h43_)) t (hv (minG (tcOk (wX w) s n) (fun m => loss (tchS (wX w) s m) s) m).1) (nI (minG (tcOk (wX w) s n) (fun m => loss (tchS (wX w) s m) s) m).2) (nI (m + 1)) h138 else lp_X6_teach_43 71 (nI s) (nI n) (nI (havN (wX w) s)) (fun b3_43 h43_ => some (b3_43, h43_)) t (nI m) x138 (nI (m + 1)) h138) t2 (nI (i + 1)) h128) (hv (minG (tcOk (wX w) s n) (fun m => loss (tchS (wX w) s m) s) (2 ^ sP (wX w))).1) (fun h2 => RR h2 71 w ∧ Sm 71 h1 h2) := by
                  rintro c u rfl hc
                  obtain ⟨h5, e5, H5, V5, F5⟩ := W_has (c := c) T4.k.2 Oc V4 hi2 hs2 rfl
                  rw [e5, bd_ok]
                  obtain ⟨T5, S5⟩ := T4.fr F5.w33.1
                  refine kk4 h5 ⟨T5, ?_, S4.tr S5.1⟩
                  rw [← colS_1 (by omega), ← hc]
                  exact V5
                by_cases q3 : tb m i = 1
                · rw [if_pos (show nI (tb m i) = 1 by rw [q3]; rfl)]
                  exact put 1 0 rfl (by rw [if_pos q3])
                · rw [if_neg (show ¬ nI (tb m i) = 1 from eqN (m := 1) q3 (by decide) (by omega)), bd_ok, R_has T4.k.2 Oc V4 hi2 hs2, bd_ok]
                  exact put _ _ rfl (by rw [if_neg q3, colS_at _ _ _ (by omega), if_neg (by omega)])
              · rintro t2 h4 ⟨T4, V4, S4⟩
                show Ret (lb_X6_teach_80 71 _ _ _ _ _ _ k _ _ _ h4) _ _
                unfold lb_X6_teach_80
                rw [T4.R.v.gp T4.R.md, bd_ok, iY (by omega)]
                dsimp only
                refine Ret.icall T4.k.2.1 (r_runs T4.k.2 (Ok_tchS O.1 (m := m) hs) V4 (s := s) hs) fun h5 ⟨F5, _⟩ => ?_
                obtain ⟨T5, S5⟩ := T4.fr F5
                have hl := loss_le (tchS (wX w) s m) s
                have go := kk h5 ⟨T5.R, S4.tr S5.1⟩
                have e : minG (tcOk (wX w) s n) (fun m => loss (tchS (wX w) s m) s) (m + 1) = if tcOk (wX w) s n m = true ∧ loss (tchS (wX w) s m) s < (minG (tcOk (wX w) s n) (fun m => loss (tchS (wX w) s m) s) m).2 then (m + 1, loss (tchS (wX w) s m) s) else minG (tcOk (wX w) s n) (fun m => loss (tchS (wX w) s m) s) m := rfl
                rw [e] at go
                by_cases g : loss (tchS (wX w) s m) s < (minG (tcOk (wX w) s n) (fun m => loss (tchS (wX w) s m) s) m).2
                · rw [if_pos ⟨tok, g⟩] at go
                  dsimp only at go
                  rw [hvS] at go
                  rw [if_neg (leN g (by omega))]
                  exact go
                · rw [if_neg (fun q => g q.2)] at go
                  rw [if_pos (leY (by omega) (by omega))]
                  exact go
            · rw [if_neg (by rw [nI0 (by omega)]; exact q2)]
              exact skip (fun e => q2 (of_decide_eq_true e).1)
          · rw [if_neg (by rw [nIe (by omega) (by omega)]; exact q1)]
            exact skip (fun e => q1 (of_decide_eq_true e).2)
        · rintro t h2 ⟨R2, S2⟩
          show Ret (lb_X6_teach_43 71 _ _ _ _ _ _ _ _ h2) _ _
          unfold lb_X6_teach_43
          rw [R2.v.gp R2.md, bd_ok, bit_one10 _ (by omega), iY (by omega)]
          exact Ret.mk ⟨R2, S2⟩
    · refine bad W ?_ (fun h1 R => ?_)
      · unfold f_X5_teach
        rw [cSY C V O g1, cN 9 g2 (by decide)]
      · unfold f_X6_teach
        rw [rSY R O g1, rN 8 g2]
  · refine bad W ?_ (fun h1 R => ?_)
    · unfold f_X5_teach
      rw [cSN C V O g1]
    · unfold f_X6_teach
      rw [rSN R O g1]
end BEST
