/-! THE OUTLOOK: the best, the least, the order, what is told -/
theorem bit_one10 : ∀ k, k < 11 → (1 : Int32) <<< (nI k &&& 31) = nI (2 ^ k) := by decide +kernel
theorem bs_orG {f : Nat → Bool} {k : Nat} (hk : k < 11) (hf : f k = true) : nI (bsN f k) ||| ((1 : Int32) <<< (nI k &&& 31)) = nI (bsN f (k + 1)) := by
  have h := bsN_lt f k
  rw [bit_one10 k hk, nI_or]
  have e : bsN f (k + 1) = if f k = true then bsN f k + 2 ^ k else bsN f k := rfl
  rw [e, if_pos hf]
  congr 1
  have := Nat.two_pow_add_eq_or_of_lt h 1
  rw [Nat.mul_one] at this
  rw [Nat.or_comm, ← this, Nat.add_comm]
theorem havN_congr {x y : St} {s : Nat} (E : EqS s x y) : havN x s = havN y s := by
  unfold havN
  rw [← E.1]
  refine bsN_congr _ (fun p hp => ?_)
  unfold has
  rw [E.2.2.2.2.2.2.2.1 p hp]
/-- who had it last -/
def lastV (x : St) (s : Nat) : Int32 := if sA x 7 s = 0 then (if loss x s < 61 then nI (havN (yN x (loss x s - 1)) s) else -1) else -1
def tchS (x : St) (s m : Nat) : St := colS x s (sP x) (fun p => if tb m p = 1 then 1 else sA x 9 (p * 6 + s))
theorem Ok_tchS {x : St} (O : Ok x) {s m : Nat} (hs : s < sS x) : Ok (tchS x s m) := by
  have O' := O
  obtain ⟨o1, o2, o3, o4, o5, o6, o7⟩ := O
  refine ⟨o1, o2, o3, o4, o5, fun k hk i hi => ?_, fun p hp s' hs' => ?_⟩
  · unfold tchS
    rw [sA_colS_n _ _ _ _ _ (by omega)]
    exact o6 k hk i hi
  · unfold tchS
    rw [sA_colS]
    have hs2 : s' < sS x := hs'
    split
    · split
      · decide
      · rename_i q _
        exact o7 _ q.2.2 _ hs
    · exact o7 p hp s' hs'
def plcN (L : Nat → Nat) (s : Nat) : Nat → Nat
  | 0 => 0
  | j + 1 => if L j < L s ∨ (L j = L s ∧ j < s) then plcN L s j + 1 else plcN L s j
theorem plcN_le (L : Nat → Nat) (s : Nat) : ∀ n, plcN L s n ≤ n
  | 0 => Nat.le_refl _
  | n + 1 => by
    have := plcN_le L s n
    unfold plcN
    split <;> omega
/-- it isn't as told behind i + 1 years -/
def tlP (y : St) (p : Nat) (e : Nat → Int64) (i : Nat) : Bool := decide (¬ lg_cmp (nI (repN (yN y (i + 1)) p)).toInt64 (e i) = 0)
def wrP (y : St) (e : Nat → Int64) (i : Nat) : Bool := decide (¬ lg_cmp (nI (knoN (yN y (i + 1)))).toInt64 (e i) = 0)
def lwP (y : St) (p s n : Nat) : Bool := decide (fstN (fun i => fgP y p s (i + 1)) n < n)
/-- a shelf's row -/
def ToldI (h : HP) (b c : Nat) (e : Nat → Int64) : Prop := OA 3 h b ∧ hR h b 2 = some c ∧ LA h c 40 ∧ hJ h c = e
theorem Fr.Told {n k b c : Nat} {e : Nat → Int64} {h h' : HP} (f : Fr n k h h') (H : ToldI h b c e) : ToldI h' b c e :=
  ⟨f.OA H.1, by rw [f.2.2.2.1]; exact H.2.1, f.LA H.2.2.1, by rw [f.2.2.2.2.1]; exact H.2.2.2⟩
theorem ToldI.r {h : HP} {b c : Nat} {e : Nat → Int64} (H : ToldI h b c e) : gR 3 2 b h = some c := gR_ok H.1 H.2.1
theorem ToldI.j {h : HP} {b c : Nat} {e : Nat → Int64} (H : ToldI h b c e) {i : Nat} (hi : i < 40) : lJ c (nI i) h = some (e i) := by
  rw [lJ_ok H.2.2.1 hi (by decide), H.2.2.2]
section LOOK2
variable {h : HP} {a o : Nat} {x y : St} {s : Nat}
theorem s_last (HO : OutI h o) (HA : IsI h a) (O : Ok x) (V : VC h a x) (hd : a + 11 ≤ o + 1) (hs : s < sS x) : Ret (f_X1_lastHavers o a (nI s) h) (lastV x s) (fun h' => Fr (o + 1) 11 h h') := by
  have hS := O.2.1
  have hP := O.1
  have hs7 : s < ln 7 := by show s < 6; omega
  have b7 : sA x 7 s < 3 := O.b 7 s (by decide) hs7
  unfold f_X1_lastHavers
  rw [HA.r 7 (by decide) rfl rfl, bd_ok, I_ld HA V 7 (by decide) hs7 rfl, bd_ok]
  by_cases q0 : sA x 7 s = 0
  · rw [if_pos (show nI (sA x 7 s) = 0 by rw [q0]; rfl)]
    have ev : lastV x s = if loss x s < 61 then nI (havN (yN x (loss x s - 1)) s) else -1 := by unfold lastV; rw [if_pos q0]
    refine o_bec HO HA O V hd (Fr.rf _ _ _) fun h1 F1 V1 => ?_
    refine Ret.gen (run := fun k (q : Int32 × HP) => lp_X1_lastHavers_21 o (nI s) _ k q.1 q.2) (fun i q => q.1 = nI (i + 1) ∧ Fr (o + 1) 11 h q.2 ∧ VC q.2 (o + 1) (yS x s i) ∧ ∀ j, j ≤ i → ¬ lsP x s j = true) 60 ?_ ?_ 60 0 1000 (1, h1) (by omega) (by omega) ⟨rfl, F1, V1, fun j hj => ?_⟩
    · rintro k i ⟨i', h1⟩ hi ⟨rfl, F, V1, hn⟩ kk
      dsimp only at F V1 hn kk ⊢
      have H1 := F.Out HO
      have O1 := Ok_yS O s i
      have E := EqS_yN O hs i
      have E2 := EqS_yN O hs (i + 1)
      have hs1 : s < sS (yS x s i) := by rw [sS_yS]; exact hs
      have e7 : sA (yS x s (i + 1)) 7 s = sA (yN x (i + 1)) 7 s := E2.2.2.2.2.2.2.1.symm
      have b7 : sA (yN x (i + 1)) 7 s < 3 := (Ok_yN O (i + 1)).b 7 s (by decide) hs7
      show Ret (lb_X1_lastHavers_21 o _ _ _ _ h1) _ _
      unfold lb_X1_lastHavers_21
      rw [if_neg (show ¬ (60 : Int32) < nI (i + 1) from ltN (m := 60) (by omega) (by decide)), H1.t, bd_ok, inv_ok H1.I.1, s_havers H1.I O1 V1 hs1, ob_ok, H1.t, bd_ok]
      refine Ret.icall H1.I.1 (s_passYearOf H1.I O1 V1 hs1) fun h2 ⟨F2, V2⟩ => ?_
      have V2' : VC h2 (o + 1) (yS x s (i + 1)) := V2
      have FF := F.tr F2
      have H2 := FF.Out HO
      rw [H2.t, bd_ok, H2.I.r 7 (by decide) rfl rfl, bd_ok, I_ld H2.I V2' 7 (by decide) hs7 rfl, bd_ok, e7, nI1 (i + 1)]
      by_cases q : sA (yN x (i + 1)) 7 s = 0
      · rw [if_pos (show nI (sA (yN x (i + 1)) 7 s) = 0 by rw [q]; rfl)]
        refine kk (nI (i + 1 + 1), h2) ⟨rfl, FF, V2', fun j hj => ?_⟩
        by_cases e : j = i + 1
        · rw [e]
          unfold lsP
          simp [q]
        · exact hn j (by omega)
      · rw [if_neg (show ¬ nI (sA (yN x (i + 1)) 7 s) = 0 from eqN q (by decide) (by omega))]
        have hl : loss x s = i + 1 := fstN_is (by omega) (fun j hj => hn j (by omega)) (fun _ => by unfold lsP; simp [q])
        rw [ev, hl, if_pos (by omega), Nat.add_sub_cancel, havN_congr E]
        exact Ret.mk FF
    · rintro k ⟨i', h1⟩ ⟨rfl, F, V1, hn⟩
      dsimp only at F V1 hn ⊢
      show Ret (lb_X1_lastHavers_21 o _ _ _ _ h1) _ _
      unfold lb_X1_lastHavers_21
      rw [if_pos (show (60 : Int32) < nI (60 + 1) by decide), ev]
      have hl : loss x s = 61 := fstN_is (by omega) (fun j hj => hn j (by omega)) (fun q => absurd q (by omega))
      rw [hl, if_neg (by omega)]
      exact Ret.mk F
    · have : j = 0 := by omega
      subst this
      unfold lsP
      show ¬ decide (sA x 7 s ≠ 0) = true
      simp [q0]
  · rw [if_neg (show ¬ nI (sA x 7 s) = 0 from eqN q0 (by decide) (by omega))]
    have ev : lastV x s = -1 := by unfold lastV; rw [if_neg q0]
    rw [ev]
    exact Ret.mk (Fr.rf _ _ _)
/-- one turn of a search for the least -/
theorem min_turn {ok : Nat → Bool} {f : Nat → Nat} {i w : Nat} (hok : ok i = true) (hw : (w < (minG ok f i).2 ↔ f i < (minG ok f i).2) ∧ (f i < (minG ok f i).2 → w = f i)) (hw2 : w ≤ 61) {ρ : Type} {u v : ρ} {R : ρ → Prop} {F : Int32 → Int32 → ρ} (h1 : F (hv (minG ok f i).1) (nI (minG ok f i).2) = u) (h2 : F (nI i) (nI w) = v) (hR : R (F (hv (minG ok f (i + 1)).1) (nI (minG ok f (i + 1)).2))) : R (if nI (minG ok f i).2 ≤ nI w then u else v) := by
  have hl := minG_le ok f i
  have e : minG ok f (i + 1) = if ok i = true ∧ f i < (minG ok f i).2 then (i + 1, f i) else minG ok f i := rfl
  rw [e] at hR
  by_cases q : f i < (minG ok f i).2
  · rw [if_pos ⟨hok, q⟩] at hR
    have hw3 := hw.1.mpr q
    rw [if_neg (leN hw3 (by omega)), ← h2, hw.2 q]
    dsimp only at hR
    rw [hvS] at hR
    exact hR
  · rw [if_neg (fun g => q g.2)] at hR
    have : ¬ w < (minG ok f i).2 := fun g => q (hw.1.mp g)
    rw [if_pos (leY (by omega) (by omega)), ← h1]
    exact hR
theorem min_skip {ok : Nat → Bool} {f : Nat → Nat} {i : Nat} (hok : ¬ ok i = true) : minG ok f (i + 1) = minG ok f i := by
  show (if ok i = true ∧ f i < (minG ok f i).2 then (i + 1, f i) else minG ok f i) = _
  rw [if_neg (fun g => hok g.1)]
theorem s_needed (HO : OutI h o) (HA : IsI h a) (O : Ok x) (V : VC h a x) (hd : a + 11 ≤ o + 1) (hs : s < sS x) : Ret (f_X1_neededAtTable o a (nI s) h) (hv (minG (fun _ => true) (fun p => loss (lvF x p (sP x)) s) (sP x)).1) (fun h' => Fr (o + 1) 11 h h') := by
  have hP := O.1
  refine Ret.loopB (lp := lp_X1_neededAtTable_9 o a (nI s) _) (fun i => (hv (minG (fun _ => true) (fun p => loss (lvF x p (sP x)) s) i).1, nI (minG (fun _ => true) (fun p => loss (lvF x p (sP x)) s) i).2)) (fun i q => Fr (o + 1) 11 h q) (sP x) (by omega) rfl (Fr.rf _ _ _) ?_ ?_
  · rintro k i h1 hi F kk
    have V1 : VC h1 a x := V.fr F (by omega)
    show Ret (lb_X1_neededAtTable_9 o a _ _ _ _ _ _ h1) _ _
    unfold lb_X1_neededAtTable_9
    rw [gI_ok (F.I HA).1, bd_ok, V1.p, iN hi (by omega)]
    refine o_bec HO HA O V hd F fun h2 F2 V2 => ?_
    have H2 := F2.Out HO
    rw [H2.t, bd_ok]
    refine Ret.icall H2.I.1 (s_leave H2.I O V2 hi) fun h3 ⟨F3, V3⟩ => ?_
    have FF := F2.tr F3
    have H3 := FF.Out HO
    have hl := minG_le (fun _ => true) (fun p => loss (lvF x p (sP x)) s) i
    refine Ret.icall H3.1 (s_loss H3 (Ok_lvF O (by omega) _ hP) V3 (by rw [(lvF_P x i _).2]; exact hs) hl.2 rfl) fun h4 F4 => ?_
    rw [nI1 i]
    exact min_turn (ok := fun _ => true) (f := fun p => loss (lvF x p (sP x)) s) (F := fun b c => lp_X1_neededAtTable_9 o a (nI s) _ k b c (nI (i + 1)) h4) (R := fun t => Ret t _ _) rfl (lsL_lt hl.2) (lsL_le _ _ _) rfl rfl (kk h4 (FF.tr F4))
  · rintro k h1 F
    have V1 : VC h1 a x := V.fr F (by omega)
    show Ret (lb_X1_neededAtTable_9 o a _ _ _ _ _ _ h1) _ _
    unfold lb_X1_neededAtTable_9
    rw [gI_ok (F.I HA).1, bd_ok, V1.p, iY (by omega)]
    exact Ret.mk F
theorem s_leastWork (HO : OutI h o) (HA : IsI h a) (O : Ok x) (V : VC h a x) (hd : a + 11 ≤ o + 1) (hs : s < sS x) {n : Nat} (hn : n ≤ 60) : Ret (f_X1_leastWork o a (nI s) (nI n) h) (fstI (fun v => decide (loss (uV x 2 v) s ≤ n)) 10) (fun h' => Fr (o + 1) 11 h h') := by
  refine Ret.loop (lp := lp_X1_leastWork_3 o a (nI s) (nI n) _) (fun i q => Fr (o + 1) 11 h q ∧ ∀ j, j < i → ¬ decide (loss (uV x 2 j) s ≤ n) = true) 10 (by decide) ⟨Fr.rf _ _ _, fun j hj => absurd hj (by omega)⟩ ?_ ?_
  · rintro k i h1 hi ⟨F, hno⟩ kk
    show Ret (lb_X1_leastWork_3 o a _ _ _ _ _ h1) _ _
    unfold lb_X1_leastWork_3
    rw [if_neg (show ¬ (10 : Int32) ≤ nI i from leN hi (by decide))]
    refine o_bec HO HA O V hd F fun h2 F2 V2 => ?_
    have H2 := F2.Out HO
    rw [H2.t, bd_ok]
    refine st_num H2.I V2 2 (by decide) fun h3 H3' V3 F3 => ?_
    have FF := F2.tr F3
    have H3 := FF.Out HO
    have O3 : Ok (uV x 2 i) := Ok_uV O (fun _ => hi) (fun q => by cases q) (fun q => by cases q)
    refine Ret.icall H3.1 (s_loss (m := n + 1) H3 O3 V3 hs (by omega) (lim_n n)) fun h4 F4 => ?_
    have hle := lsL_le (uV x 2 i) s (n + 1)
    have hlt := lsL_lt (x := uV x 2 i) (s := s) (m := n + 1) (by omega)
    rw [nI1 i]
    by_cases q : loss (uV x 2 i) s ≤ n
    · have := hlt.2 (by omega)
      rw [if_neg (show ¬ nI (lsL (uV x 2 i) s (n + 1)) = 61 from eqN (m := 61) (by omega) (by decide) (by omega)), fstI_hit hi hno (by simp [q])]
      exact Ret.mk (FF.tr F4)
    · have : lsL (uV x 2 i) s (n + 1) = 61 := by unfold lsL; rw [if_neg (by omega)]
      rw [this, if_pos (show nI 61 = 61 from rfl)]
      refine kk h4 ⟨FF.tr F4, fun j hj => ?_⟩
      by_cases e : j = i
      · rw [e]; simp; omega
      · exact hno j (by omega)
  · rintro k h1 ⟨F, hno⟩
    show Ret (lb_X1_leastWork_3 o a _ _ _ _ _ h1) _ _
    unfold lb_X1_leastWork_3
    rw [if_pos (show (10 : Int32) ≤ nI 10 by decide), fstI_miss hno]
    exact Ret.mk F
theorem s_teachThen (HO : OutI h o) (O : Ok y) (V : VC h (o + 1) y) (hs : s < sS y) {m : Nat} (hm : m < 256) : Ret (f_X1_teachThen o (nI m) (nI s) h) () (fun h' => Fr (o + 1) 11 h h' ∧ VC h' (o + 1) (tchS y s m)) := by
  have hP := O.1
  have hS := O.2.1
  refine Ret.loop (lp := lp_X1_teachThen_2 o (nI m) (nI s) _) (fun i q => Fr (o + 1) 11 h q ∧ VC q (o + 1) (colS y s i (fun p => if tb m p = 1 then 1 else sA y 9 (p * 6 + s)))) (sP y) (by omega) ⟨Fr.rf _ _ _, by rw [colS_0]; exact V⟩ ?_ ?_
  · rintro k i h1 hi ⟨F, V1⟩ kk
    have H1 := F.Out HO
    have ht := tb_lt m i
    have e9 : sA (colS y s i (fun p => if tb m p = 1 then 1 else sA y 9 (p * 6 + s))) 9 (i * 6 + s) = sA y 9 (i * 6 + s) := by rw [colS_at _ _ _ (by omega), if_neg (by omega)]
    show Ret (lb_X1_teachThen_2 o _ _ _ _ _ h1) _ _
    unfold lb_X1_teachThen_2
    rw [H1.t, bd_ok, gI_ok H1.I.1, bd_ok, V1.p, show sP (colS y s i (fun p => if tb m p = 1 then 1 else sA y 9 (p * 6 + s))) = sP y from rfl, iN hi (by omega), bit_tst i (by omega) _ hm, bd_ok, nI1 i]
    by_cases q : tb m i = 1
    · rw [if_pos (show nI (tb m i) = 1 by rw [q]; rfl), inv_ok H1.I.1, show (0 : Int32) = hv 1 from rfl, r_setHeld H1.I (by omega), ob_ok]
      refine kk _ ⟨F.tr (Fr.w (by omega) (by omega)), ?_⟩
      have := VC_held (j := i * 6 + s) (c := 1) V1
      rw [← colS_1 (by omega), if_pos q]
      exact this
    · rw [if_neg (show ¬ nI (tb m i) = 1 from eqN q (by decide) (by omega))]
      refine kk _ ⟨F, ?_⟩
      rw [← colS_1 (by omega), if_neg q, uA_same e9]
      exact V1
  · rintro k h1 ⟨F, V1⟩
    have H1 := F.Out HO
    show Ret (lb_X1_teachThen_2 o _ _ _ _ _ h1) _ _
    unfold lb_X1_teachThen_2
    rw [H1.t, bd_ok, gI_ok H1.I.1, bd_ok, V1.p, show sP (colS y s (sP y) (fun p => if tb m p = 1 then 1 else sA y 9 (p * 6 + s))) = sP y from rfl, iY (by omega)]
    exact Ret.mk ⟨F, V1⟩
/-- a set of k who haven't it -/
def tcOk (x : St) (s k m : Nat) : Bool := decide (m &&& havN x s = 0 ∧ pop m = k)
theorem s_worst (HO : OutI h o) (HA : IsI h a) (O : Ok x) (V : VC h a x) (hd : a + 11 ≤ o + 1) (hs : s < sS x) {n : Nat} (hn : n ≤ 8) : Ret (f_X1_worstPupils o a (nI s) (nI n) h) (hv (minG (tcOk x s n) (fun m => loss (tchS x s m) s) (2 ^ sP x)).1) (fun h' => Fr (o + 1) 11 h h') := by
  have hP := O.1
  have h2P : 2 ^ sP x ≤ 256 := Nat.pow_le_pow_right (n := 2) (by decide) hP
  have hhv := havN_lt O s
  unfold f_X1_worstPupils
  rw [inv_ok HA.1, s_havers HA O V hs, ob_ok]
  refine Ret.loopB (lp := lp_X1_worstPupils_17 o a (nI s) (nI n) (nI (havN x s)) _) (fun i => (hv (minG (tcOk x s n) (fun m => loss (tchS x s m) s) i).1, nI (minG (tcOk x s n) (fun m => loss (tchS x s m) s) i).2)) (fun i q => Fr (o + 1) 11 h q) (2 ^ sP x) (by omega) rfl (Fr.rf _ _ _) ?_ ?_
  · rintro k i h1 hi F kk
    have V1 : VC h1 a x := V.fr F (by omega)
    have hpp := pop_le i
    have ha : i &&& havN x s < 256 := and_lt8 (by omega)
    have skip : ¬ tcOk x s n i = true → Ret (lp_X1_worstPupils_17 o a (nI s) (nI n) (nI (havN x s)) (fun b5_17 h17_ => some (b5_17, h17_)) k (hv (minG (tcOk x s n) (fun m => loss (tchS x s m) s) i).1) (nI (minG (tcOk x s n) (fun m => loss (tchS x s m) s) i).2) (nI (i + 1)) h1) (hv (minG (tcOk x s n) (fun m => loss (tchS x s m) s) (2 ^ sP x)).1) (fun h' => Fr (o + 1) 11 h h') := fun q => by
      have := kk h1 F
      rw [min_skip q] at this
      exact this
    show Ret (lb_X1_worstPupils_17 o a _ _ _ _ _ _ _ _ h1) _ _
    unfold lb_X1_worstPupils_17
    rw [gI_ok (F.I HA).1, bd_ok, V1.p, bit_one10 _ (by omega), iN hi (by omega), nI_and, nI1 i]
    by_cases q1 : i &&& havN x s = 0
    · rw [if_pos ((nI0 (by omega)).mpr q1), f_bitCount h1 i (by omega), ob_ok]
      by_cases q2 : pop i = n
      · rw [if_pos (congrArg nI q2)]
        refine o_bec HO HA O V hd F fun h2 F2 V2 => ?_
        have H2 := F2.Out HO
        refine Ret.icall H2.1 (s_teachThen H2 O V2 hs (m := i) (by omega)) fun h3 ⟨F3, V3⟩ => ?_
        have FF := F2.tr F3
        have H3 := FF.Out HO
        have hl := minG_le (tcOk x s n) (fun m => loss (tchS x s m) s) i
        refine Ret.icall H3.1 (s_loss H3 (Ok_tchS O hs) V3 hs hl.2 rfl) fun h4 F4 => ?_
        exact min_turn (ok := tcOk x s n) (f := fun m => loss (tchS x s m) s) (F := fun b c => lp_X1_worstPupils_17 o a (nI s) (nI n) (nI (havN x s)) _ k b c (nI (i + 1)) h4) (R := fun t => Ret t _ _) (by unfold tcOk; simp [q1, q2]) (lsL_lt hl.2) (lsL_le _ _ _) rfl rfl (kk h4 (FF.tr F4))
      · rw [if_neg (by rw [nIe (by omega) (by omega)]; exact q2)]
        exact skip (by unfold tcOk; simp [q2])
    · rw [if_neg (by rw [nI0 (by omega)]; exact q1)]
      exact skip (by unfold tcOk; simp [q1])
  · rintro k h1 F
    have V1 : VC h1 a x := V.fr F (by omega)
    show Ret (lb_X1_worstPupils_17 o a _ _ _ _ _ _ _ _ h1) _ _
    unfold lb_X1_worstPupils_17
    rw [gI_ok (F.I HA).1, bd_ok, V1.p, bit_one10 _ (by omega), iY (by omega)]
    exact Ret.mk F
theorem s_hummer (HO : OutI h o) (HA : IsI h a) (O : Ok x) (V : VC h a x) (hd : a + 11 ≤ o + 1) (hs : s < sS x) : Ret (f_X1_bestHummer o a (nI s) h) (hv (maxG (fun p => has x p s) (fun p => loss (uV x 5 (setb (sV x 5) p)) s) (sP x)).1) (fun h' => Fr (o + 1) 11 h h') := by
  have hP := O.1
  have hf : ∀ i, (fun p => loss (uV x 5 (setb (sV x 5) p)) s) i ≤ 61 := fun i => loss_le _ _
  refine Ret.loopB (lp := lp_X1_bestHummer_8 o a (nI s) _) (fun i => (hv (maxG (fun p => has x p s) (fun p => loss (uV x 5 (setb (sV x 5) p)) s) i).1, mc (maxG (fun p => has x p s) (fun p => loss (uV x 5 (setb (sV x 5) p)) s) i))) (fun i q => Fr (o + 1) 11 h q) (sP x) (by omega) rfl (Fr.rf _ _ _) ?_ ?_
  · rintro k i h1 hi F kk
    have V1 : VC h1 a x := V.fr F (by omega)
    have e : maxG (fun p => has x p s) (fun p => loss (uV x 5 (setb (sV x 5) p)) s) (i + 1) = if has x i s = true ∧ ((maxG (fun p => has x p s) (fun p => loss (uV x 5 (setb (sV x 5) p)) s) i).1 = 0 ∨ (maxG (fun p => has x p s) (fun p => loss (uV x 5 (setb (sV x 5) p)) s) i).2 < loss (uV x 5 (setb (sV x 5) i)) s) then (i + 1, loss (uV x 5 (setb (sV x 5) i)) s) else maxG (fun p => has x p s) (fun p => loss (uV x 5 (setb (sV x 5) p)) s) i := rfl
    rw [e] at kk
    have hg := maxG_le (fun p => has x p s) (fun p => loss (uV x 5 (setb (sV x 5) p)) s) hf i
    generalize maxG (fun p => has x p s) (fun p => loss (uV x 5 (setb (sV x 5) p)) s) i = g at kk hg ⊢
    show Ret (lb_X1_bestHummer_8 o a _ _ _ _ _ _ h1) _ _
    unfold lb_X1_bestHummer_8
    rw [gI_ok (F.I HA).1, bd_ok, V1.p, iN hi (by omega), inv_ok (F.I HA).1, s_heldFor (F.I HA) O V1 hi hs, ob_ok, nI1 i]
    by_cases q1 : has x i s = true
    · rw [if_neg (by rw [has_iff O hi hs]; exact fun e => e q1)]
      refine o_bec HO HA O V hd F fun h2 F2 V2 => ?_
      have H2 := F2.Out HO
      rw [H2.t, bd_ok]
      have r := s_setHums H2.I O V2 (p := i) (by omega) true
      rw [if_pos rfl] at r
      refine Ret.icall H2.I.1 r fun h3 ⟨F3, V3⟩ => ?_
      have FF := F2.tr F3
      have H3 := FF.Out HO
      have O3 : Ok (uV x 5 (setb (sV x 5) i)) := Ok_uV O (fun q => by cases q) (fun q => by cases q) (fun _ => (bit_or i (by omega) _ O.2.2.2.2.1).2)
      refine Ret.icall H3.1 (s_loss H3 O3 V3 hs (Nat.le_refl 61) rfl) fun h4 F4 => ?_
      have kk4 := kk h4 (FF.tr F4)
      have hle := loss_le (uV x 5 (setb (sV x 5) i)) s
      rw [lsL_61]
      by_cases q2 : g.1 = 0
      · rw [if_pos ⟨q1, Or.inl q2⟩] at kk4
        have e1 : mc g = -1 := by unfold mc; rw [if_pos q2]
        have e2 : mc (i + 1, loss (uV x 5 (setb (sV x 5) i)) s) = nI (loss (uV x 5 (setb (sV x 5) i)) s) := by unfold mc; rw [if_neg (by simp)]
        dsimp only at kk4
        rw [e2, hvS] at kk4
        rw [e1, if_neg]
        · exact kk4
        · show ¬ nI (loss (uV x 5 (setb (sV x 5) i)) s) ≤ (-1 : Int32)
          rw [Int32.le_iff_toInt_le, nI_toInt (by omega)]
          have : (-1 : Int32).toInt = -1 := rfl
          omega
      · have e1 : mc g = nI g.2 := by unfold mc; rw [if_neg q2]
        by_cases q3 : g.2 < loss (uV x 5 (setb (sV x 5) i)) s
        · rw [if_pos ⟨q1, Or.inr q3⟩] at kk4
          have e2 : mc (i + 1, loss (uV x 5 (setb (sV x 5) i)) s) = nI (loss (uV x 5 (setb (sV x 5) i)) s) := by unfold mc; rw [if_neg (by simp)]
          dsimp only at kk4
          rw [e2, hvS] at kk4
          rw [e1, if_neg (leN q3 (by omega))]
          exact kk4
        · rw [if_neg (fun q => by rcases q.2 with q | q <;> omega)] at kk4
          rw [e1, if_pos (leY (by omega) (by omega)), ← e1]
          exact kk4
    · rw [if_pos ((has_iff O hi hs).mpr q1)]
      have := kk h1 F
      rw [if_neg (fun q => q1 q.1)] at this
      exact this
  · rintro k h1 F
    have V1 : VC h1 a x := V.fr F (by omega)
    show Ret (lb_X1_bestHummer_8 o a _ _ _ _ _ _ h1) _ _
    unfold lb_X1_bestHummer_8
    rw [gI_ok (F.I HA).1, bd_ok, V1.p, iY (by omega)]
    exact Ret.mk F
theorem s_next (HO : OutI h o) (HA : IsI h a) (O : Ok x) (V : VC h a x) (hd : a + 11 ≤ o + 1) : Ret (f_X1_nextLost o a h) (hv (minG (fun s => decide (sA x 7 s = 0)) (fun s => loss x s) (sS x)).1) (fun h' => Fr (o + 1) 11 h h') := by
  have hS := O.2.1
  refine Ret.loopB (lp := lp_X1_nextLost_8 o a _) (fun i => (hv (minG (fun s => decide (sA x 7 s = 0)) (fun s => loss x s) i).1, nI (minG (fun s => decide (sA x 7 s = 0)) (fun s => loss x s) i).2)) (fun i q => Fr (o + 1) 11 h q) (sS x) (by omega) rfl (Fr.rf _ _ _) ?_ ?_
  · rintro k i h1 hi F kk
    have V1 : VC h1 a x := V.fr F (by omega)
    have hi7 : i < ln 7 := by show i < 6; omega
    have b7 : sA x 7 i < 3 := O.b 7 i (by decide) hi7
    show Ret (lb_X1_nextLost_8 o a _ _ _ _ _ h1) _ _
    unfold lb_X1_nextLost_8
    rw [gI_ok (F.I HA).1, bd_ok, V1.s, iN hi (by omega), (F.I HA).r 7 (by decide) rfl rfl, bd_ok, I_ld (F.I HA) V1 7 (by decide) hi7 rfl, bd_ok, nI1 i]
    by_cases q : sA x 7 i = 0
    · rw [if_pos (show nI (sA x 7 i) = 0 by rw [q]; rfl)]
      refine o_bec HO HA O V hd F fun h2 F2 V2 => ?_
      have H2 := F2.Out HO
      have hl := minG_le (fun s => decide (sA x 7 s = 0)) (fun s => loss x s) i
      refine Ret.icall H2.1 (s_loss H2 O V2 hi hl.2 rfl) fun h4 F4 => ?_
      exact min_turn (ok := fun s => decide (sA x 7 s = 0)) (f := fun s => loss x s) (F := fun b c => lp_X1_nextLost_8 o a _ k b c (nI (i + 1)) h4) (R := fun t => Ret t _ _) (by simp [q]) (lsL_lt hl.2) (lsL_le _ _ _) rfl rfl (kk h4 (F2.tr F4))
    · rw [if_neg (show ¬ nI (sA x 7 i) = 0 from eqN q (by decide) (by omega))]
      have := kk h1 F
      rw [min_skip (by simp [q])] at this
      exact this
  · rintro k h1 F
    have V1 : VC h1 a x := V.fr F (by omega)
    show Ret (lb_X1_nextLost_8 o a _ _ _ _ _ h1) _ _
    unfold lb_X1_nextLost_8
    rw [gI_ok (F.I HA).1, bd_ok, V1.s, iY (by omega)]
    exact Ret.mk F
end LOOK2
