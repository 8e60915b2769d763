/-! THE OUTLOOK: the order, what is told, grief -/
section LOOK3
variable {h : HP} {a o : Nat} {x y : St} {s : Nat}
/-- the losses stand in their cell -/
def LosI (h : HP) (b n : Nat) (L : Nat → Nat) : Prop := ∀ i, i < n → hI h b i = nI (L i)
theorem s_placeOf (HO : OutI h o) (HA : IsI h a) (O : Ok x) (V : VC h a x) {L : Nat → Nat} (HL : LosI h (o + 12) (sS x) L) (hL : ∀ i, L i ≤ 61) (hs : s < sS x) : f_X1_placeOf o a (nI s) h = some (nI (plcN L s (sS x)), h) := by
  have hS := O.2.1
  refine loop_acc (lp := lp_X1_placeOf_5 o a (nI s) _) (sS x) (by omega) (fun i => nI (plcN L s i)) h (K := fun v h => some (v, h)) (fun k => ?_) (fun k i hi => ?_)
  · show lb_X1_placeOf_5 o a _ _ _ _ _ h = _
    unfold lb_X1_placeOf_5
    rw [gI_ok HA.1, bd_ok, V.s, iY (by omega)]
  · show lb_X1_placeOf_5 o a _ _ _ _ _ h = _
    have l1 : lI (o + 12) (nI i) h = some (nI (L i)) := by rw [lI_ok HO.2.2.2.2 (by omega) (by decide), HL i hi]
    have l2 : lI (o + 12) (nI s) h = some (nI (L s)) := by rw [lI_ok HO.2.2.2.2 (by omega) (by decide), HL s hs]
    have h1 := hL i
    have h2 := hL s
    unfold lb_X1_placeOf_5
    rw [gI_ok HA.1, bd_ok, V.s, iN hi (by omega)]
    simp only [HO.l, l1, l2, Option.bind_some, nI1]
    show _ = lp_X1_placeOf_5 o a _ _ _ (nI (if L i < L s ∨ (L i = L s ∧ i < s) then plcN L s i + 1 else plcN L s i)) _ h
    by_cases q1 : L i = L s
    · rw [if_pos (congrArg nI q1)]
      have n1 : ¬ nI (L i) < nI (L s) := ltN (by omega) (by omega)
      by_cases q2 : i < s
      · rw [if_neg (leN q2 (by omega)), if_neg n1, if_pos (Or.inr ⟨q1, q2⟩)]
      · rw [if_pos (leY (by omega) (by omega)), if_neg n1, if_neg (by omega)]
    · rw [if_neg (by rw [nIe (by omega) (by omega)]; exact q1)]
      by_cases q2 : L i < L s
      · rw [if_pos (ltY q2 (by omega)), if_pos (Or.inl q2)]
      · rw [if_neg (ltN (by omega) (by omega)), if_neg (by omega)]
theorem s_order (HO : OutI h o) (HA : IsI h a) (O : Ok x) (V : VC h a x) (hd : a + 11 ≤ o + 1) {i0 : Nat} (hi0 : i0 ≤ 100) : Ret (f_X1_inOrder o a (nI i0) h) (fstI (fun s => decide (plcN (loss x) s (sS x) = i0)) (sS x)) (fun h' => Fr (o + 1) 12 h h') := by
  have hS := O.2.1
  refine Ret.loop (lp := lp_X1_inOrder_2 o a (nI i0) _) (fun i q => Fr (o + 1) 12 h q ∧ LosI q (o + 12) i (loss x)) (sS x) (by omega) ⟨Fr.rf _ _ _, fun j hj => absurd hj (by omega)⟩ ?_ ?_
  · rintro k i h1 hi ⟨F, HL⟩ kk
    have V1 : VC h1 a x := V.fr F (by omega)
    have H1 := F.Out HO
    show Ret (lb_X1_inOrder_2 o a _ _ _ _ h1) _ _
    unfold lb_X1_inOrder_2
    rw [gI_ok (F.I HA).1, bd_ok, V1.s, iN hi (by omega)]
    refine o_bec H1 (F.I HA) O V1 hd (Fr.rf _ _ _) fun h2 F2 V2 => ?_
    have H2 := F2.Out H1
    rw [H2.l, bd_ok]
    refine Ret.icall H2.1 (s_loss H2 O V2 hi (Nat.le_refl 61) rfl) fun h3 F3 => ?_
    have H3 := F3.Out H2
    have F23 := F2.tr F3
    have hle := loss_le x i
    rw [lsL_61, sI_ok H3.2.2.2.2 (by omega) (by decide), bd_ok, nI1 i]
    refine kk _ ⟨(F.tr (F23.wide (by omega) (by omega))).tr (Fr.w (by omega) (by omega)), fun j hj => ?_⟩
    rw [hI_w]
    by_cases e : j = i
    · rw [e, upd_s]
    · rw [upd_n _ _ e, F23.2.2.2.2.2 (o + 12) (by omega)]
      exact HL j (by omega)
  · rintro k h1 ⟨F, HL⟩
    have V1 : VC h1 a x := V.fr F (by omega)
    have H1 := F.Out HO
    show Ret (lb_X1_inOrder_2 o a _ _ _ _ h1) _ _
    unfold lb_X1_inOrder_2
    rw [gI_ok (F.I HA).1, bd_ok, V1.s, iY (by omega)]
    refine Ret.loop (lp := lp_X1_inOrder_39 o a (nI i0) _) (fun i q => q = h1 ∧ ∀ j, j < i → ¬ decide (plcN (loss x) j (sS x) = i0) = true) (sS x) (by omega) ⟨rfl, fun j hj => absurd hj (by omega)⟩ ?_ ?_
    · rintro k i h2 hi ⟨rfl, hn⟩ kk
      have hpl := plcN_le (loss x) i (sS x)
      show Ret (lb_X1_inOrder_39 o a _ _ _ _ _) _ _
      unfold lb_X1_inOrder_39
      rw [gI_ok (F.I HA).1, bd_ok, V1.s, iN hi (by omega), inv_ok H1.1, s_placeOf H1 (F.I HA) O V1 HL (loss_le x) hi, ob_ok, nI1 i]
      by_cases q : plcN (loss x) i (sS x) = i0
      · rw [if_pos (congrArg nI q), fstI_hit hi hn (by simp [q])]
        exact Ret.mk F
      · rw [if_neg (by rw [nIe (by omega) (by omega)]; exact q)]
        refine kk _ ⟨rfl, fun j hj => ?_⟩
        by_cases e : j = i
        · rw [e]; simp [q]
        · exact hn j (by omega)
    · rintro k h2 ⟨rfl, hn⟩
      show Ret (lb_X1_inOrder_39 o a _ _ _ _ _) _ _
      unfold lb_X1_inOrder_39
      rw [gI_ok (F.I HA).1, bd_ok, V1.s, iY (by omega), fstI_miss hn]
      exact Ret.mk F
theorem s_told (HO : OutI h o) (O : Ok y) (V : VC h (o + 1) y) {b c n p : Nat} {e : Nat → Int64} (HT : ToldI h b c e) (hn : n ≤ 40) (hp : p < sP y) : Ret (f_X1_comesAsTold o b (nI n) (nI p) h) (if fstN (tlP y p e) n < n then 0 else 1) (fun h' => Fr (o + 1) 11 h h') := by
  refine Ret.loop (lp := lp_X1_comesAsTold_3 o b (nI n) (nI p) _) (fun i q => Fr (o + 1) 11 h q ∧ VC q (o + 1) (yN y i) ∧ ∀ j, j < i → ¬ tlP y p e j = true) n (by omega) ⟨Fr.rf _ _ _, V, fun j hj => absurd hj (by omega)⟩ ?_ ?_
  · rintro k i h1 hi ⟨F, V1, hno⟩ kk
    have H1 := F.Out HO
    show Ret (lb_X1_comesAsTold_3 o b _ _ _ _ _ h1) _ _
    unfold lb_X1_comesAsTold_3
    rw [iN hi (by omega), H1.t, bd_ok]
    refine Ret.icall H1.I.1 (s_passYear H1.I (Ok_yN O i) V1) fun h2 ⟨F2, V2⟩ => ?_
    have V2' : VC h2 (o + 1) (yN y (i + 1)) := V2
    have FF := F.tr F2
    have H2 := FF.Out HO
    have T2 := FF.Told HT
    rw [H2.t, bd_ok, inv_ok H2.I.1, s_repertoire H2.I (Ok_yN O (i + 1)) V2' (by rw [sP_yN]; exact hp), ob_ok, T2.r, bd_ok, T2.j (by omega), bd_ok, nI1 i]
    by_cases q : lg_cmp (nI (repN (yN y (i + 1)) p)).toInt64 (e i) = 0
    · rw [if_pos q]
      refine kk h2 ⟨FF, V2', fun j hj => ?_⟩
      by_cases e : j = i
      · rw [e]
        unfold tlP
        simp [q]
      · exact hno j (by omega)
    · rw [if_neg q, fstN_is (P := tlP y p e) (n := n) (k := i) (by omega) hno (fun _ => by unfold tlP; simp [q]), if_pos hi]
      exact Ret.rz0 FF
  · rintro k h1 ⟨F, V1, hno⟩
    show Ret (lb_X1_comesAsTold_3 o b _ _ _ _ _ h1) _ _
    unfold lb_X1_comesAsTold_3
    rw [iY (by omega), fstN_is (P := tlP y p e) (n := n) (k := n) (by omega) hno (fun q => absurd q (by omega)), if_neg (by omega)]
    exact Ret.rz1 F
theorem s_mems (HO : OutI h o) (HA : IsI h a) (O : Ok x) (V : VC h a x) (hd : a + 11 ≤ o + 1) {b c n p : Nat} {e : Nat → Int64} (HT : ToldI h b c e) (hn : n ≤ 40) (hp : p < sP x) : Ret (f_X1_memoriesBy o a b (nI n) (nI p) h) (nI (bsN (fun v => decide (¬ fstN (tlP (uA x 2 p v) p e) n < n)) 10)) (fun h' => Fr (o + 1) 11 h h') := by
  have hP := O.1
  have hp8 : p < ln 2 := by show p < 8; omega
  refine Ret.loopA (lp := lp_X1_memoriesBy_6 o a b (nI n) (nI p) _) (fun i => nI (bsN (fun v => decide (¬ fstN (tlP (uA x 2 p v) p e) n < n)) i)) (fun i q => Fr (o + 1) 11 h q) 10 (by decide) rfl (Fr.rf _ _ _) ?_ ?_
  · rintro k i h1 hi F kk
    show Ret (lb_X1_memoriesBy_6 o a b _ _ _ _ _ _ h1) _ _
    unfold lb_X1_memoriesBy_6
    rw [if_neg (show ¬ (10 : Int32) ≤ nI i from leN hi (by decide))]
    refine o_bec HO HA O V hd F fun h2 F2 V2 => ?_
    have H2 := F2.Out HO
    rw [H2.t, bd_ok]
    refine st_row H2.I V2 2 (by decide) rfl hp8 rfl fun h3 H3' V3 F3 => ?_
    have FF := F2.tr F3
    have H3 := FF.Out HO
    have O3 : Ok (uA x 2 p i) := Ok_uA O (by decide) (fun _ => hi)
    refine Ret.icall H3.1 (s_told H3 O3 V3 (FF.Told HT) hn hp) fun h4 F4 => ?_
    have := kk h4 (FF.tr F4)
    rw [nI1 i]
    by_cases q : fstN (tlP (uA x 2 p i) p e) n < n
    · rw [if_pos q, if_pos rfl, bs_no (k := i) (f := fun v => decide (¬ fstN (tlP (uA x 2 p v) p e) n < n)) (by simp [q])]
      exact this
    · rw [if_neg q, if_neg (by decide), bs_orG (k := i) (f := fun v => decide (¬ fstN (tlP (uA x 2 p v) p e) n < n)) (by omega) (by simp [q])]
      exact this
  · rintro k h1 F
    show Ret (lb_X1_memoriesBy_6 o a b _ _ _ _ _ _ h1) _ _
    unfold lb_X1_memoriesBy_6
    rw [if_pos (show (10 : Int32) ≤ nI 10 by decide)]
    exact Ret.mk F
theorem s_kinds (HO : OutI h o) (HA : IsI h a) (O : Ok x) (V : VC h a x) (hd : a + 11 ≤ o + 1) {b c n p : Nat} {e : Nat → Int64} (HT : ToldI h b c e) (hn : n ≤ 40) (hp : p < sP x) : Ret (f_X1_kindsBy o a b (nI n) (nI p) h) (nI (bsN (fun v => decide (¬ fstN (tlP (uA x 0 p v) p e) n < n)) 6)) (fun h' => Fr (o + 1) 11 h h') := by
  have hP := O.1
  have hp8 : p < ln 0 := by show p < 8; omega
  refine Ret.loopA (lp := lp_X1_kindsBy_6 o a b (nI n) (nI p) _) (fun i => nI (bsN (fun v => decide (¬ fstN (tlP (uA x 0 p v) p e) n < n)) i)) (fun i q => Fr (o + 1) 11 h q) 6 (by decide) rfl (Fr.rf _ _ _) ?_ ?_
  · rintro k i h1 hi F kk
    show Ret (lb_X1_kindsBy_6 o a b _ _ _ _ _ _ h1) _ _
    unfold lb_X1_kindsBy_6
    rw [if_neg (show ¬ (6 : Int32) ≤ nI i from leN hi (by decide))]
    refine o_bec HO HA O V hd F fun h2 F2 V2 => ?_
    have H2 := F2.Out HO
    rw [H2.t, bd_ok]
    refine st_row H2.I V2 0 (by decide) rfl hp8 rfl fun h3 H3' V3 F3 => ?_
    have FF := F2.tr F3
    have H3 := FF.Out HO
    have O3 : Ok (uA x 0 p i) := Ok_uA O (by decide) (fun _ => hi)
    refine Ret.icall H3.1 (s_told H3 O3 V3 (FF.Told HT) hn hp) fun h4 F4 => ?_
    have := kk h4 (FF.tr F4)
    rw [nI1 i]
    by_cases q : fstN (tlP (uA x 0 p i) p e) n < n
    · rw [if_pos q, if_pos rfl, bs_no (k := i) (f := fun v => decide (¬ fstN (tlP (uA x 0 p v) p e) n < n)) (by simp [q])]
      exact this
    · rw [if_neg q, if_neg (by decide), bs_orG (k := i) (f := fun v => decide (¬ fstN (tlP (uA x 0 p v) p e) n < n)) (by omega) (by simp [q])]
      exact this
  · rintro k h1 F
    show Ret (lb_X1_kindsBy_6 o a b _ _ _ _ _ _ h1) _ _
    unfold lb_X1_kindsBy_6
    rw [if_pos (show (6 : Int32) ≤ nI 6 by decide)]
    exact Ret.mk F
theorem s_within (HO : OutI h o) (O : Ok y) (V : VC h (o + 1) y) {n p : Nat} (hn : n ≤ 60) (hp : p < sP y) (hs : s < sS y) : Ret (f_X1_losesWithin o (nI p) (nI s) (nI n) h) (if lwP y p s n = true then 1 else 0) (fun h' => Fr (o + 1) 11 h h') := by
  have hS := O.2.1
  refine Ret.loop (lp := lp_X1_losesWithin_3 o (nI p) (nI s) (nI n) _) (fun i q => Fr (o + 1) 11 h q ∧ VC q (o + 1) (yS y s i) ∧ ∀ j, j < i → ¬ fgP y p s (j + 1) = true) n (by omega) ⟨Fr.rf _ _ _, V, fun j hj => absurd hj (by omega)⟩ ?_ ?_
  · rintro k i h1 hi ⟨F, V1, hno⟩ kk
    have H1 := F.Out HO
    have O1 := Ok_yS O s i
    have O2 := Ok_yS O s (i + 1)
    have E := EqS_yN O hs (i + 1)
    have hs1 : s < sS (yS y s i) := by rw [sS_yS]; exact hs
    have hs2 : s < sS (yS y s (i + 1)) := by rw [sS_yS]; exact hs
    have hp2 : p < sP (yS y s (i + 1)) := by rw [sP_yS]; exact hp
    have e9 : sA (yS y s (i + 1)) 9 (p * 6 + s) = sA (yN y (i + 1)) 9 (p * 6 + s) := (E.2.2.2.2.2.2.2.1 p (by rw [sP_yN]; exact hp)).symm
    have b9 : sA (yS y s (i + 1)) 9 (p * 6 + s) ≤ 100 := O2.h hp2 hs2
    show Ret (lb_X1_losesWithin_3 o _ _ _ _ _ _ h1) _ _
    unfold lb_X1_losesWithin_3
    rw [iN hi (by omega), H1.t, bd_ok]
    refine Ret.icall H1.I.1 (s_passYearOf H1.I O1 V1 hs1) fun h2 ⟨F2, V2⟩ => ?_
    have V2' : VC h2 (o + 1) (yS y s (i + 1)) := V2
    have FF := F.tr F2
    have H2 := FF.Out HO
    rw [H2.t, bd_ok, inv_ok H2.I.1, s_heldFor H2.I O2 V2' hp2 hs2, ob_ok, nI1 i]
    by_cases q : sA (yS y s (i + 1)) 9 (p * 6 + s) = 0
    · have : lwP y p s n = true := by
        unfold lwP
        rw [fstN_is (P := fun i => fgP y p s (i + 1)) (n := n) (k := i) (by omega) hno (fun _ => by unfold fgP; rw [← e9]; simp [q])]
        simp [hi]
      rw [if_pos ((hv_m1 (by omega)).mpr q), if_pos this]
      exact Ret.rz1 FF
    · rw [if_neg (by rw [hv_m1 (by omega)]; exact q)]
      refine kk h2 ⟨FF, V2', fun j hj => ?_⟩
      by_cases e : j = i
      · rw [e]
        unfold fgP
        rw [← e9]
        simp [q]
      · exact hno j (by omega)
  · rintro k h1 ⟨F, V1, hno⟩
    show Ret (lb_X1_losesWithin_3 o _ _ _ _ _ _ h1) _ _
    unfold lb_X1_losesWithin_3
    have : ¬ lwP y p s n = true := by
      unfold lwP
      rw [fstN_is (P := fun i => fgP y p s (i + 1)) (n := n) (k := n) (by omega) hno (fun q => absurd q (by omega))]
      simp
    rw [iY (by omega), if_neg this]
    exact Ret.rz0 F
theorem s_grief (HO : OutI h o) (HA : IsI h a) (O : Ok x) (V : VC h a x) (hd : a + 11 ≤ o + 1) {n p : Nat} (hn : n ≤ 60) (hp : p < sP x) (hs : s < sS x) : Ret (f_X1_leastGrief o a (nI p) (nI s) (nI n) h) (fstI (fun v => lwP (uA x 3 p v) p s n) 10) (fun h' => Fr (o + 1) 11 h h') := by
  have hP := O.1
  have hp8 : p < ln 3 := by show p < 8; omega
  refine Ret.loop (lp := lp_X1_leastGrief_3 o a (nI p) (nI s) (nI n) _) (fun i q => Fr (o + 1) 11 h q ∧ ∀ j, j < i → ¬ lwP (uA x 3 p j) p s n = true) 10 (by decide) ⟨Fr.rf _ _ _, fun j hj => absurd hj (by omega)⟩ ?_ ?_
  · rintro k i h1 hi ⟨F, hno⟩ kk
    show Ret (lb_X1_leastGrief_3 o a _ _ _ _ _ _ h1) _ _
    unfold lb_X1_leastGrief_3
    rw [if_neg (show ¬ (10 : Int32) ≤ nI i from leN hi (by decide))]
    refine o_bec HO HA O V hd F fun h2 F2 V2 => ?_
    have H2 := F2.Out HO
    rw [H2.t, bd_ok]
    refine st_row H2.I V2 3 (by decide) rfl hp8 rfl fun h3 H3' V3 F3 => ?_
    have FF := F2.tr F3
    have H3 := FF.Out HO
    have O3 : Ok (uA x 3 p i) := Ok_uA O (by decide) (fun _ => hi)
    refine Ret.icall H3.1 (s_within H3 O3 V3 hn hp hs) fun h4 F4 => ?_
    rw [nI1 i]
    by_cases q : lwP (uA x 3 p i) p s n = true
    · rw [if_pos q, if_neg (by decide), fstI_hit (P := fun v => lwP (uA x 3 p v) p s n) hi hno q]
      exact Ret.mk (FF.tr F4)
    · rw [if_neg q, if_pos rfl]
      refine kk h4 ⟨FF.tr F4, fun j hj => ?_⟩
      by_cases e : j = i
      · rw [e]; exact q
      · exact hno j (by omega)
  · rintro k h1 ⟨F, hno⟩
    show Ret (lb_X1_leastGrief_3 o a _ _ _ _ _ _ h1) _ _
    unfold lb_X1_leastGrief_3
    rw [if_pos (show (10 : Int32) ≤ nI 10 by decide), fstI_miss (P := fun v => lwP (uA x 3 p v) p s n) hno]
    exact Ret.mk F
theorem s_wrong (HO : OutI h o) (HA : IsI h a) (O : Ok x) (V : VC h a x) (hd : a + 11 ≤ o + 1) {b c n : Nat} {e : Nat → Int64} (HT : ToldI h b c e) (hn : n ≤ 40) : Ret (f_X1_firstWrong o a b (nI n) h) (fstI (wrP x e) n) (fun h' => Fr (o + 1) 11 h h') := by
  unfold f_X1_firstWrong
  refine o_bec HO HA O V hd (Fr.rf _ _ _) fun h1 F1 V1 => ?_
  refine Ret.loop (lp := lp_X1_firstWrong_11 o b (nI n) _) (fun i q => Fr (o + 1) 11 h q ∧ VC q (o + 1) (yN x i) ∧ ∀ j, j < i → ¬ wrP x e j = true) n (by omega) ⟨F1, V1, fun j hj => absurd hj (by omega)⟩ ?_ ?_
  · rintro k i h1 hi ⟨F, V1, hno⟩ kk
    have H1 := F.Out HO
    show Ret (lb_X1_firstWrong_11 o b _ _ _ _ h1) _ _
    unfold lb_X1_firstWrong_11
    rw [iN hi (by omega), H1.t, bd_ok]
    refine Ret.icall H1.I.1 (s_passYear H1.I (Ok_yN O i) V1) fun h2 ⟨F2, V2⟩ => ?_
    have V2' : VC h2 (o + 1) (yN x (i + 1)) := V2
    have FF := F.tr F2
    have H2 := FF.Out HO
    have T2 := FF.Told HT
    rw [H2.t, bd_ok, inv_ok H2.I.1, s_known H2.I (Ok_yN O (i + 1)) V2', ob_ok, T2.r, bd_ok, T2.j (by omega), bd_ok, nI1 i]
    by_cases q : lg_cmp (nI (knoN (yN x (i + 1)))).toInt64 (e i) = 0
    · rw [if_pos q]
      refine kk h2 ⟨FF, V2', fun j hj => ?_⟩
      by_cases e : j = i
      · rw [e]
        unfold wrP
        simp [q]
      · exact hno j (by omega)
    · rw [if_neg q, fstI_hit (P := wrP x e) hi hno (by unfold wrP; simp [q])]
      exact Ret.mk FF
  · rintro k h1 ⟨F, V1, hno⟩
    show Ret (lb_X1_firstWrong_11 o b _ _ _ _ h1) _ _
    unfold lb_X1_firstWrong_11
    rw [iY (by omega), fstI_miss hno]
    exact Ret.mk F
end LOOK3
