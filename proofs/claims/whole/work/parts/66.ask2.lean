/-! BOTH SIDES: most, table, weakest, of a kind -/
theorem mosF_1 (x : St) : ∀ n, 0 < n → 0 < (mosF x n).1 ∧ (mosF x n).1 ≤ n ∧ (mosF x n).2 = pop (havN x ((mosF x n).1 - 1))
  | 0, h => absurd h (by omega)
  | 1, _ => by
    have e : mosF x 1 = (1, pop (havN x 0)) := if_pos (Or.inl rfl)
    rw [e]
    exact ⟨Nat.one_pos, Nat.le_refl _, rfl⟩
  | n + 2, _ => by
    have ih := mosF_1 x (n + 1) (by omega)
    have e : mosF x (n + 2) = if (mosF x (n + 1)).1 = 0 ∨ (mosF x (n + 1)).2 < pop (havN x (n + 1)) then (n + 1 + 1, pop (havN x (n + 1))) else mosF x (n + 1) := rfl
    rw [e]
    split
    · exact ⟨by dsimp only; omega, by dsimp only; omega, rfl⟩
    · exact ⟨ih.1, by omega, ih.2.2⟩
theorem leaF_1 (x : St) : ∀ n, 0 < n → 0 < (leaF x n).1 ∧ (leaF x n).1 ≤ n ∧ (leaF x n).2 = pop (havN x ((leaF x n).1 - 1))
  | 0, h => absurd h (by omega)
  | 1, _ => by
    have e : leaF x 1 = (1, pop (havN x 0)) := if_pos (show pop (havN x 0) < 9 by have := pop_le (havN x 0); omega)
    rw [e]
    exact ⟨Nat.one_pos, Nat.le_refl _, rfl⟩
  | n + 2, _ => by
    have ih := leaF_1 x (n + 1) (by omega)
    have e : leaF x (n + 2) = if pop (havN x (n + 1)) < (leaF x (n + 1)).2 then (n + 1 + 1, pop (havN x (n + 1))) else leaF x (n + 1) := rfl
    rw [e]
    split
    · exact ⟨by dsimp only; omega, by dsimp only; omega, rfl⟩
    · exact ⟨ih.1, by omega, ih.2.2⟩
theorem z_sub (a b : Nat) : nI a - nI b = zI ((a : Int) - b) := by rw [zI_n, zI_n, zI_sub]
section ASK2
variable {h : HP} {w : Wd}
theorem al_most (W : WI h w) (a1 : Int32) : Alk (f_X5_most 0 a1) (f_X6_most 71 a1) h := by
  obtain ⟨O, C, V, -⟩ := id W
  have hS := O.1.2.1
  by_cases g1 : inR a1 2
  · obtain ⟨k, hk, rfl⟩ := inR_is g1
    have z0 : (0 : Int32) = zI 0 := rfl
    have ca := fun h1 (R : RR h1 71 w) => show f_X6_most 71 (nI k) h1 = _ by
      unfold f_X6_most
      rw [rY 1 g1, R.v.gs R.md, bd_ok]
    have hc : k = 0 ∨ k = 1 := by omega
    rcases hc with rfl | rfl
    · refine both_q W (hv (mosF (wX w) (sS (wX w))).1) ?_ (fun h1 R => (ca h1 R).trans ?_)
      · unfold f_X5_most
        rw [cY 2 g1 (by decide), if_pos (by decide), C.g0, bd_ok, inv_ok C.I.1, s_most C.I O.1 V.1, ob_ok]
      · by_cases q0 : sS (wX w) = 0
        · rw [q0, if_pos (by decide)]
          show lb_X6_most_32 71 _ _ _ _ _ h1 = _
          unfold lb_X6_most_32
          rw [R.v.gs R.md, bd_ok, q0, if_pos (by decide)]
          rfl
        · rw [if_neg (by rw [nI0 (by omega)]; exact q0)]
          have L := loop_0' (fun t (q : Int32 × Int32) => lp_X6_most_32 71 (nI 0) (fun b2_32 h32_ => some (b2_32, h32_)) t q.1 q.2 h1) (fun i q => q = (nI ((mosF (wX w) (i + 1)).1 - 1), nI (i + 1))) (sS (wX w) - 1) (by omega) (fun q => some (q.1, h1)) (nI 0, nI 1) ?_ ?_ ?_
          · obtain ⟨a', e, rfl⟩ := L
            refine e.trans ?_
            have := mosF_1 (wX w) (sS (wX w)) (by omega)
            rw [show sS (wX w) - 1 + 1 = sS (wX w) by omega]
            obtain ⟨b, hb⟩ : ∃ b, (mosF (wX w) (sS (wX w))).1 = b + 1 := ⟨(mosF (wX w) (sS (wX w))).1 - 1, by omega⟩
            rw [hb, hvS]
            rfl
          · have e : mosF (wX w) 1 = (1, pop (havN (wX w) 0)) := if_pos (Or.inl rfl)
            rw [e]
            rfl
          · rintro t q rfl
            show lb_X6_most_32 71 _ _ _ _ _ h1 = _
            unfold lb_X6_most_32
            rw [R.v.gs R.md, bd_ok, show sS (wX w) - 1 + 1 = sS (wX w) by omega, iY (by omega)]
          · rintro t i q hi rfl
            refine ⟨_, ?_, rfl⟩
            show lb_X6_most_32 71 _ _ _ _ _ h1 = _
            have m1 := mosF_1 (wX w) (i + 1) (by omega)
            have p1 := pop_le (havN (wX w) (i + 1))
            have p2 := pop_le (havN (wX w) ((mosF (wX w) (i + 1)).1 - 1))
            have e : mosF (wX w) (i + 2) = if (mosF (wX w) (i + 1)).1 = 0 ∨ (mosF (wX w) (i + 1)).2 < pop (havN (wX w) (i + 1)) then (i + 1 + 1, pop (havN (wX w) (i + 1))) else mosF (wX w) (i + 1) := rfl
            unfold lb_X6_most_32
            rw [R.v.gs R.md, bd_ok, iN (show i + 1 < sS (wX w) by omega) (by omega), inv_ok R.md.1, r_holdersOf R.md O.1 R.v (by omega), ob_ok, r_bits _ _ (havN_lt O.1 _), ob_ok, inv_ok R.md.1, r_holdersOf R.md O.1 R.v (show (mosF (wX w) (i + 1)).1 - 1 < sS (wX w) by omega), ob_ok, r_bits _ _ (havN_lt O.1 _), ob_ok, if_pos (show nI 0 = 0 from rfl), nI1, z_sub, z0]
            by_cases q : (mosF (wX w) (i + 1)).2 < pop (havN (wX w) (i + 1))
            · rw [if_pos (by rw [zI_lt (by omega) (by omega) (by omega) (by omega)]; omega), show i + 1 + 1 = i + 2 from rfl, e, if_pos (Or.inr q)]
              rfl
            · rw [if_neg (by rw [zI_lt (by omega) (by omega) (by omega) (by omega)]; omega), show i + 1 + 1 = i + 2 from rfl, e, if_neg (by omega)]
    · refine both_q W (hv (leaF (wX w) (sS (wX w))).1) ?_ (fun h1 R => (ca h1 R).trans ?_)
      · unfold f_X5_most
        rw [cY 2 g1 (by decide), if_neg (by decide), C.g0, bd_ok, inv_ok C.I.1, s_least C.I O.1 V.1, ob_ok]
      · by_cases q0 : sS (wX w) = 0
        · rw [q0, if_pos (by decide)]
          show lb_X6_most_32 71 _ _ _ _ _ h1 = _
          unfold lb_X6_most_32
          rw [R.v.gs R.md, bd_ok, q0, if_pos (by decide)]
          rfl
        · rw [if_neg (by rw [nI0 (by omega)]; exact q0)]
          have L := loop_0' (fun t (q : Int32 × Int32) => lp_X6_most_32 71 (nI 1) (fun b2_32 h32_ => some (b2_32, h32_)) t q.1 q.2 h1) (fun i q => q = (nI ((leaF (wX w) (i + 1)).1 - 1), nI (i + 1))) (sS (wX w) - 1) (by omega) (fun q => some (q.1, h1)) (nI 0, nI 1) ?_ ?_ ?_
          · obtain ⟨a', e, rfl⟩ := L
            refine e.trans ?_
            have := leaF_1 (wX w) (sS (wX w)) (by omega)
            rw [show sS (wX w) - 1 + 1 = sS (wX w) by omega]
            obtain ⟨b, hb⟩ : ∃ b, (leaF (wX w) (sS (wX w))).1 = b + 1 := ⟨(leaF (wX w) (sS (wX w))).1 - 1, by omega⟩
            rw [hb, hvS]
            rfl
          · have e : leaF (wX w) 1 = (1, pop (havN (wX w) 0)) := if_pos (show pop (havN (wX w) 0) < 9 by have := pop_le (havN (wX w) 0); omega)
            rw [e]
            rfl
          · rintro t q rfl
            show lb_X6_most_32 71 _ _ _ _ _ h1 = _
            unfold lb_X6_most_32
            rw [R.v.gs R.md, bd_ok, show sS (wX w) - 1 + 1 = sS (wX w) by omega, iY (by omega)]
          · rintro t i q hi rfl
            refine ⟨_, ?_, rfl⟩
            show lb_X6_most_32 71 _ _ _ _ _ h1 = _
            have m1 := leaF_1 (wX w) (i + 1) (by omega)
            have p1 := pop_le (havN (wX w) (i + 1))
            have p2 := pop_le (havN (wX w) ((leaF (wX w) (i + 1)).1 - 1))
            have e : leaF (wX w) (i + 2) = if pop (havN (wX w) (i + 1)) < (leaF (wX w) (i + 1)).2 then (i + 1 + 1, pop (havN (wX w) (i + 1))) else leaF (wX w) (i + 1) := rfl
            unfold lb_X6_most_32
            rw [R.v.gs R.md, bd_ok, iN (show i + 1 < sS (wX w) by omega) (by omega), inv_ok R.md.1, r_holdersOf R.md O.1 R.v (by omega), ob_ok, r_bits _ _ (havN_lt O.1 _), ob_ok, inv_ok R.md.1, r_holdersOf R.md O.1 R.v (show (leaF (wX w) (i + 1)).1 - 1 < sS (wX w) by omega), ob_ok, r_bits _ _ (havN_lt O.1 _), ob_ok, if_neg (by decide), if_pos (show nI 1 = 1 from rfl), nI1, z_sub, z0]
            by_cases q : pop (havN (wX w) (i + 1)) < (leaF (wX w) (i + 1)).2
            · rw [if_neg (by rw [zI_le (by omega) (by omega) (by omega) (by omega)]; omega), show i + 1 + 1 = i + 2 from rfl, e, if_pos q]
              rfl
            · rw [if_pos (by rw [zI_le (by omega) (by omega) (by omega) (by omega)]; omega), show i + 1 + 1 = i + 2 from rfl, e, if_neg q]
  · refine bad W ?_ (fun h1 R => ?_)
    · unfold f_X5_most
      rw [cN 2 g1 (by decide)]
    · unfold f_X6_most
      rw [rN 1 g1]
theorem al_table (W : WI h w) (a1 : Int32) : Alk (f_X5_table 0 a1) (f_X6_table 71 a1) h := by
  obtain ⟨O, C, V, -⟩ := id W
  have hP := O.1.1
  by_cases g1 : inR a1 (sP (wX w))
  · obtain ⟨p, hp, rfl⟩ := inR_is g1
    have b0 := bit_one p (by omega)
    refine both_q W (nI (tabN (wX w) p)) ?_ (fun h1 R => ?_)
    · unfold f_X5_table
      rw [cPY C V O g1, C.g0, bd_ok, inv_ok C.I.1, s_table C.I O.1 V.1 hp, ob_ok]
    · unfold f_X6_table
      rw [rPY R O g1, b0.1]
      refine loop_acc (lp := lp_X6_table_21 71 _) (sP (wX w)) (by omega) (fun i => nI (tabR (wX w) (2 ^ p) i)) h1 (K := fun v h => some (v, h)) (fun t => ?_) (fun t r hr => ?_)
      · show lb_X6_table_21 71 _ _ _ _ h1 = _
        unfold lb_X6_table_21
        rw [R.v.gp R.md, bd_ok, iY (by omega)]
      · show lb_X6_table_21 71 _ _ _ _ h1 = _
        have hm := tabR_lt O.1 b0.2 r
        unfold lb_X6_table_21
        rw [R.v.gp R.md, bd_ok, iN hr (by omega), nI1]
        refine loop_acc (lp := lp_X6_table_32 71 (nI r) _) (sP (wX w)) (by omega) (fun i => nI (tabF (wX w) (tabR (wX w) (2 ^ p) r) i)) h1 (K := fun v h => lp_X6_table_21 71 _ t v (nI (r + 1)) h) (fun t2 => ?_) (fun t2 i hi => ?_)
        · show lb_X6_table_32 71 _ _ _ _ _ h1 = _
          unfold lb_X6_table_32
          rw [R.v.gp R.md, bd_ok, iY (by omega)]
        · show lb_X6_table_32 71 _ _ _ _ _ h1 = _
          have hi8 : i < ln 4 := by show i < 8; omega
          have ht := tabF_lt O.1 hm i (by omega)
          unfold lb_X6_table_32
          rw [R.v.gp R.md, bd_ok, iN hi (by omega), bit_tst i (by omega) _ ht, R.md.rk 4 (by decide) rfl rfl, bd_ok, R_ld R.md R.v 4 (by decide) hi8 rfl, bd_ok, nI1, nI_or, or_z]
          show _ = lp_X6_table_32 71 _ _ _ (nI (if tb (tabF (wX w) (tabR (wX w) (2 ^ p) r) i) i = 1 then tabF (wX w) (tabR (wX w) (2 ^ p) r) i ||| sA (wX w) 4 i else tabF (wX w) (tabR (wX w) (2 ^ p) r) i)) _ h1
          have := tb_lt (tabF (wX w) (tabR (wX w) (2 ^ p) r) i) i
          by_cases q : tb (tabF (wX w) (tabR (wX w) (2 ^ p) r) i) i = 1
          · rw [if_pos (by rw [q]; rfl), if_pos q]
          · rw [if_neg (fun e : nI (tb (tabF (wX w) (tabR (wX w) (2 ^ p) r) i) i) = 1 => q ((nIe (b := 1) (by omega) (by decide)).mp e)), if_neg q]
  · refine bad W ?_ (fun h1 R => ?_)
    · unfold f_X5_table
      rw [cPN C V O g1]
    · unfold f_X6_table
      rw [rPN R O g1]
theorem al_weakest (W : WI h w) (a1 : Int32) : Alk (f_X5_weakest 0 a1) (f_X6_weakest 71 a1) h := by
  obtain ⟨O, C, V, -⟩ := id W
  have hP := O.1.1
  have hS := O.1.2.1
  by_cases g1 : inR a1 (sS (wX w))
  · obtain ⟨s, hs, rfl⟩ := inR_is g1
    have hs6 : s < ln 5 := by show s < 6; omega
    have b5 : sA (wX w) 5 s < 10 := O.1.b 5 s (by decide) hs6
    refine both_q W (hv (weaF (wX w) s (sP (wX w))).1) ?_ (fun h1 R => ?_)
    · unfold f_X5_weakest
      rw [cSY C V O g1, C.g0, bd_ok, inv_ok C.I.1, s_weakest C.I O.1 V.1 hs, ob_ok]
    · unfold f_X6_weakest
      rw [rSY R O g1]
      refine loop_acc2 (lp := lp_X6_weakest_22 71 (nI s) _) (sP (wX w)) (by omega) (fun i => (hv (weaF (wX w) s i).1, zI (weaF (wX w) s i).2)) h1 (K := fun v h => some (v, h)) (fun k => ?_) (fun k i hi => ?_)
      · show lb_X6_weakest_22 71 (nI s) _ _ _ _ _ h1 = _
        unfold lb_X6_weakest_22
        rw [R.v.gp R.md, bd_ok, iY (by omega)]
      · show lb_X6_weakest_22 71 (nI s) _ _ _ _ _ h1 = _
        have hl := weaF_le O.1 hs i (by omega)
        have h2 := holdN_le O.1 hi b5
        have h3 := O.1.h hi hs
        unfold lb_X6_weakest_22
        rw [R.v.gp R.md, bd_ok, iN hi (by omega), inv_ok R.md.1, r_holdOf R.md O.1 R.v hi hs, ob_ok, R.md.rk 9 (by decide) rfl rfl, bd_ok, R_has R.md O.1 R.v hi hs, bd_ok, inv_ok R.md.1, r_knows R.md O.1 R.v hi hs, ob_ok, nI1]
        have e1 : nI (holdN (wX w) i (sA (wX w) 5 s)) - hv (sA (wX w) 9 (i * 6 + s)) = zI ((holdN (wX w) i (sA (wX w) 5 s) : Int) - ((sA (wX w) 9 (i * 6 + s) : Int) - 1)) := by rw [hv_z, zI_n, zI_sub]
        rw [e1]
        show _ = lp_X6_weakest_22 71 _ _ k (hv (if has (wX w) i s = true ∧ ((weaF (wX w) s i).1 = 0 ∨ (holdN (wX w) i (sA (wX w) 5 s) : Int) - ((sA (wX w) 9 (i * 6 + s) : Int) - 1) < (weaF (wX w) s i).2) then (i + 1, (holdN (wX w) i (sA (wX w) 5 s) : Int) - ((sA (wX w) 9 (i * 6 + s) : Int) - 1)) else weaF (wX w) s i).1) (zI (if has (wX w) i s = true ∧ ((weaF (wX w) s i).1 = 0 ∨ (holdN (wX w) i (sA (wX w) 5 s) : Int) - ((sA (wX w) 9 (i * 6 + s) : Int) - 1) < (weaF (wX w) s i).2) then (i + 1, (holdN (wX w) i (sA (wX w) 5 s) : Int) - ((sA (wX w) 9 (i * 6 + s) : Int) - 1)) else weaF (wX w) s i).2) _ h1
        by_cases q : has (wX w) i s = true
        · rw [if_pos q, if_neg (by decide)]
          by_cases q2 : (weaF (wX w) s i).1 = 0
          · rw [if_pos ((hv_m1 (by omega)).mpr q2), if_pos ⟨q, Or.inl q2⟩, hvS]
          · rw [if_neg (by rw [hv_m1 (by omega)]; exact q2)]
            by_cases q3 : (holdN (wX w) i (sA (wX w) 5 s) : Int) - ((sA (wX w) 9 (i * 6 + s) : Int) - 1) < (weaF (wX w) s i).2
            · rw [if_neg (by rw [zI_le (by omega) (by omega) (by omega) (by omega)]; omega), if_pos ⟨q, Or.inr q3⟩, hvS]
            · rw [if_pos (by rw [zI_le (by omega) (by omega) (by omega) (by omega)]; omega), if_neg (by rintro ⟨-, e | e⟩ <;> omega)]
        · rw [if_neg q, if_pos rfl, if_neg (fun e => q e.1)]
  · refine bad W ?_ (fun h1 R => ?_)
    · unfold f_X5_weakest
      rw [cSN C V O g1]
    · unfold f_X6_weakest
      rw [rSN R O g1]
theorem al_ofKind (W : WI h w) (a1 : Int32) : Alk (f_X5_ofKind 0 a1) (f_X6_ofKind 71 a1) h := by
  obtain ⟨O, C, V, -⟩ := id W
  have hP := O.1.1
  by_cases g1 : inR a1 6
  · obtain ⟨k, hk, rfl⟩ := inR_is g1
    refine both_q W (nI (cntN (wX w) k (sP (wX w)))) ?_ (fun h1 R => ?_)
    · unfold f_X5_ofKind
      rw [cY 6 g1 (by decide), C.g0, bd_ok, inv_ok C.I.1, s_count C.I O.1 V.1 (by omega), ob_ok]
    · unfold f_X6_ofKind
      rw [rY 5 g1]
      refine loop_acc (lp := lp_X6_ofKind_23 71 (nI k) _) (sP (wX w)) (by omega) (fun i => nI (cntN (wX w) k i)) h1 (K := fun v h => some (v, h)) (fun t => ?_) (fun t i hi => ?_)
      · show lb_X6_ofKind_23 71 (nI k) _ _ _ _ h1 = _
        unfold lb_X6_ofKind_23
        rw [R.v.gp R.md, bd_ok, iY (by omega)]
      · show lb_X6_ofKind_23 71 (nI k) _ _ _ _ h1 = _
        have hi8 : i < ln 0 := by show i < 8; omega
        have hb : sA (wX w) 0 i < 6 := O.1.b 0 i (by decide) hi8
        unfold lb_X6_ofKind_23
        rw [R.v.gp R.md, bd_ok, iN hi (by omega), R.md.rk 0 (by decide) rfl rfl, bd_ok, R_ld R.md R.v 0 (by decide) hi8 rfl, bd_ok, nI1, nI1, Int32.add_zero]
        show _ = lp_X6_ofKind_23 71 (nI k) _ t (nI (if sA (wX w) 0 i = k then cntN (wX w) k i + 1 else cntN (wX w) k i)) _ h1
        by_cases q : sA (wX w) 0 i = k
        · rw [if_pos (by rw [q]), if_pos q]
        · rw [if_neg (by rw [nIe (by omega) (by omega)]; exact q), if_neg q]
  · refine bad W ?_ (fun h1 R => ?_)
    · unfold f_X5_ofKind
      rw [cN 6 g1 (by decide)]
    · unfold f_X6_ofKind
      rw [rN 5 g1]
end ASK2
