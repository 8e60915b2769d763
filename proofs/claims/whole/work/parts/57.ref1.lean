/-! THE REFERENCE: a year -/
/-- cells of what is had are others -/
def mtS (x : St) (D : Nat → Bool) (g : Nat → Nat) : St := (sP x, sS x, sV x, fun r i => if r = 9 ∧ D i = true then g i else sA x r i, sD x)
theorem sA_mtS (x : St) (D : Nat → Bool) (g : Nat → Nat) (r i : Nat) : sA (mtS x D g) r i = if r = 9 ∧ D i = true then g i else sA x r i := rfl
theorem sA_mtS_n (x : St) (D : Nat → Bool) (g : Nat → Nat) {r : Nat} (i : Nat) (h : r ≠ 9) : sA (mtS x D g) r i = sA x r i := by
  rw [sA_mtS, if_neg (fun q => h q.1)]
theorem mtS_1 {x : St} {D E : Nat → Bool} {g : Nat → Nat} {j : Nat} (h : ∀ i, E i = true ↔ (D i = true ∨ i = j)) : uA (mtS x D g) 9 j (g j) = mtS x E g := by
  apply St_ext <;> try rfl
  intro r i
  rw [sA_uA, sA_mtS, sA_mtS]
  by_cases q : r = 9 ∧ i = j
  · rw [if_pos q, if_pos ⟨q.1, (h i).mpr (Or.inr q.2)⟩, q.2]
  · rw [if_neg q]
    by_cases q2 : r = 9 ∧ D i = true
    · rw [if_pos q2, if_pos ⟨q2.1, (h i).mpr (Or.inl q2.2)⟩]
    · rw [if_neg q2, if_neg (fun e => by
        rcases (h i).mp e.2 with e2 | e2
        · exact q2 ⟨e.1, e2⟩
        · exact q ⟨e.1, e2⟩)]
theorem Ok_mtS {x : St} (O : Ok x) {D : Nat → Bool} {g : Nat → Nat} (hg : ∀ i, g i ≤ 100) : Ok (mtS x D g) := by
  obtain ⟨o1, o2, o3, o4, o5, o6, o7⟩ := O
  refine ⟨o1, o2, o3, o4, o5, fun k hk i hi => ?_, fun p hp s hs => ?_⟩
  · rw [sA_mtS_n _ _ _ _ (by omega)]
    exact o6 k hk i hi
  · rw [sA_mtS]
    split
    · exact hg _
    · exact o7 p hp s hs
theorem mtS_E {x : St} {D E : Nat → Bool} {g : Nat → Nat} (h : ∀ p, p < sP x → ∀ s, s < sS x → D (p * 6 + s) = E (p * 6 + s)) : EqA (mtS x D g) (mtS x E g) := by
  refine ⟨rfl, rfl, rfl, rfl, rfl, rfl, fun k hk i hi => ?_, fun p hp s hs => ?_⟩
  · rw [sA_mtS_n _ _ _ _ (by omega), sA_mtS_n _ _ _ _ (by omega)]
  · rw [sA_mtS, sA_mtS, h p hp s hs]
/-- those ahead of the one p's song s -/
def dnB (p s i : Nat) : Bool := decide (i / 6 < p ∨ (i / 6 = p ∧ i % 6 < s))
theorem dnB_1 {p s : Nat} (hs : s < 6) (i : Nat) : dnB p (s + 1) i = true ↔ (dnB p s i = true ∨ i = p * 6 + s) := by
  unfold dnB
  simp only [decide_eq_true_eq]
  omega
theorem dnB_n {p s : Nat} (hs : s < 6) : ¬ dnB p s (p * 6 + s) = true := by
  unfold dnB
  simp only [decide_eq_true_eq]
  omega
theorem dnB_row {x : St} (hS : sS x ≤ 6) {p : Nat} (g : Nat → Nat) : EqA (mtS x (dnB p (sS x)) g) (mtS x (dnB (p + 1) 0) g) := by
  refine mtS_E (fun p' hp' s hs => ?_)
  unfold dnB
  rw [decide_eq_decide]
  omega
theorem dnB_0 (x : St) (g : Nat → Nat) : mtS x (dnB 0 0) g = x := by
  apply St_ext <;> try rfl
  intro r i
  rw [sA_mtS, if_neg (fun q => by have := of_decide_eq_true q.2; omega)]
theorem dnB_all {x : St} (hS : sS x ≤ 6) (g : Nat → Nat) : EqA (mtS x (dnB (sP x) 0) g) (mtS x (fun _ => true) g) := by
  refine mtS_E (fun p' hp' s hs => ?_)
  unfold dnB
  rw [decide_eq_true (by omega)]
def fgI (x : St) (i : Nat) : Nat := fgt x (i % 6) (i / 6)
def pkI (x : St) (i : Nat) : Nat := pck x (i % 6) (i / 6)
theorem fgI_at (x : St) {p s : Nat} (hs : s < 6) : fgI x (p * 6 + s) = fgt x s p := by
  unfold fgI
  rw [show (p * 6 + s) % 6 = s by omega, show (p * 6 + s) / 6 = p by omega]
theorem pkI_at (x : St) {p s : Nat} (hs : s < 6) : pkI x (p * 6 + s) = pck x s p := by
  unfold pkI
  rw [show (p * 6 + s) % 6 = s by omega, show (p * 6 + s) / 6 = p by omega]
section REF1
variable {h : HP} {m : Nat} {x : St}
theorem r_forgets (H : MdI h m) (O : Ok x) (V : VR h m x) : Ret (f_X6_forgetsAll m h) () (fun h' => Fk m h h' ∧ VR h' m (mtS x (fun _ => true) (fgI x))) := by
  have hP := O.1
  have hS := O.2.1
  refine Ret.loop (lp := lp_X6_forgetsAll_2 m _) (fun p q => Fk m h q ∧ VR q m (mtS x (dnB p 0) (fgI x))) (sP x) (by omega) ⟨Fk.rf _ _, by rw [dnB_0]; exact V⟩ ?_ ?_
  · rintro k p h1 hp ⟨F, V1⟩ kk
    have H1 := F.Md H
    show Ret (lb_X6_forgetsAll_2 m _ _ _ h1) _ _
    unfold lb_X6_forgetsAll_2
    rw [V1.gp H1, bd_ok, show sP (mtS x (dnB p 0) (fgI x)) = sP x from rfl, iN hp (by omega)]
    refine Ret.loop (lp := lp_X6_forgetsAll_12 m (nI p) _) (fun s q => Fk m h q ∧ VR q m (mtS x (dnB p s) (fgI x))) (sS x) (by omega) ⟨F, V1⟩ ?_ ?_
    · rintro k2 s h2 hs ⟨F2, V2⟩ kk2
      have H2 := F2.Md H
      have O2 : Ok (mtS x (dnB p s) (fgI x)) := Ok_mtS O (fun i => fgt_le x _ _)
      have e9 : sA (mtS x (dnB p s) (fgI x)) 9 (p * 6 + s) = sA x 9 (p * 6 + s) := by rw [sA_mtS, if_neg (fun q => dnB_n (by omega) q.2)]
      have e1 : uA (mtS x (dnB p s) (fgI x)) 9 (p * 6 + s) (fgt x s p) = mtS x (dnB p (s + 1)) (fgI x) := by
        rw [← fgI_at x (by omega : s < 6)]
        exact mtS_1 (dnB_1 (by omega))
      have b9 := O.h hp hs
      have bh : sV x 5 < 256 := O.2.2.2.2.1
      have b5 : sA x 5 s < 10 := O.b 5 s (by decide) (by show s < 6; omega)
      generalize hy : mtS x (dnB p s) (fgI x) = y at V2 O2 e9 e1 ⊢
      have hyP : sP y = sP x := by rw [← hy]; rfl
      have hyS : sS y = sS x := by rw [← hy]; rfl
      have hy5 : sV y 5 = sV x 5 := by rw [← hy]; rfl
      have hyh : ∀ c, holdN (uA y 9 (p * 6 + s) c) p (sA (uA y 9 (p * 6 + s) c) 5 s) = holdN x p (sA x 5 s) := fun c => by
        have er : ∀ r, r ≠ 9 → ∀ i, sA (uA y 9 (p * 6 + s) c) r i = sA x r i := fun r hr i => by
          rw [sA_uA, if_neg (fun q => hr q.1), ← hy, sA_mtS_n _ _ _ _ hr]
        rw [er 5 (by decide)]
        exact holdN_congr (er 0 (by decide) _) (er 1 (by decide) _) (er 2 (by decide) _) (er 3 (by decide) _) (by rw [← hy]; rfl)
      have hp' : p < sP y := by omega
      have hs' : s < sS y := by omega
      show Ret (lb_X6_forgetsAll_12 m _ _ _ _ h2) _ _
      unfold lb_X6_forgetsAll_12
      have r2 : gR 6 23 m h2 = some (m + 26) := H2.rk 9 (by decide) rfl rfl
      have l2 := R_has H2 O2 V2 hp' hs'
      rw [e9] at l2
      simp only [V2.gs H2, r2, l2, Option.bind_some, hyS, nI1 s]
      rw [iN hs (by omega)]
      by_cases q : sA x 9 (p * 6 + s) = 0
      · rw [q, hv0, if_pos (by decide)]
        refine kk2 h2 ⟨F2, ?_⟩
        rw [← e1, uA_same]
        · exact V2
        · rw [e9, q]
          unfold fgt
          rw [if_pos q]
      · obtain ⟨c, hc⟩ : ∃ c, sA x 9 (p * 6 + s) = c + 1 := ⟨sA x 9 (p * 6 + s) - 1, by omega⟩
        have hh := holdN_le O hp b5
        have ef : fgt x s p = if tb (sV x 5) p = 1 ∨ min 99 (c + 1) ≤ holdN x p (sA x 5 s) then min 99 (c + 1) + 1 else 0 := by
          unfold fgt
          rw [if_neg q, hc]
        have rest : ∀ h65, MdI h65 m → VR h65 m (uA y 9 (p * 6 + s) (min 99 (c + 1) + 1)) → Fk m h h65 → Ret ((gR 6 23 m h65).bind fun x67 =>
            (gR 6 23 m h65).bind fun x72 =>
            (lI x72 ((nI p * 6) + nI s) h65).bind fun x76 =>
            ob (inv 6 m h65 (f_X6_holdOf m (nI p) (nI s) h65)) fun x80 h80 =>
            if x76 ≤ x80 then
              (gR 6 23 m h80).bind fun x102 =>
              (lI x102 ((nI p * 6) + nI s) h80).bind fun x106 =>
              (sI x67 ((nI p * 6) + nI s) x106 h80).bind fun h107 =>
              lp_X6_forgetsAll_12 m (nI p) (fun h12_ => lp_X6_forgetsAll_2 m (fun h2_ => some ((), h2_)) k (nI p + 1) h12_) k2 (nI (s + 1)) h107
            else
              (gI 6 13 m h80).bind fun x87 =>
              if ((x87 >>> (nI p &&& 31)) &&& 1) = 0 then
                (sI x67 ((nI p * 6) + nI s) (-1) h80).bind fun h107 =>
                lp_X6_forgetsAll_12 m (nI p) (fun h12_ => lp_X6_forgetsAll_2 m (fun h2_ => some ((), h2_)) k (nI p + 1) h12_) k2 (nI (s + 1)) h107
              else
                (gR 6 23 m h80).bind fun x102 =>
                (lI x102 ((nI p * 6) + nI s) h80).bind fun x106 =>
                (sI x67 ((nI p * 6) + nI s) x106 h80).bind fun h107 =>
                lp_X6_forgetsAll_12 m (nI p) (fun h12_ => lp_X6_forgetsAll_2 m (fun h2_ => some ((), h2_)) k (nI p + 1) h12_) k2 (nI (s + 1)) h107) () (fun h' => Fk m h h' ∧ VR h' m (mtS x (fun _ => true) (fgI x))) := by
          intro h65 H3 V3 F3
          have O3 : Ok (uA y 9 (p * 6 + s) (min 99 (c + 1) + 1)) := Ok_held O2 (by omega)
          have hp3 : p < sP (uA y 9 (p * 6 + s) (min 99 (c + 1) + 1)) := hp'
          have hs3 : s < sS (uA y 9 (p * 6 + s) (min 99 (c + 1) + 1)) := hs'
          have r3 : gR 6 23 m h65 = some (m + 26) := H3.rk 9 (by decide) rfl rfl
          have l3 := R_has H3 O3 V3 hp3 hs3
          rw [sA_uA, if_pos ⟨rfl, rfl⟩, hvS] at l3
          have put : ∀ c', c' = fgt x s p → ∀ u, u = hv c' → Ret ((sI (m + 26) ((nI p * 6) + nI s) u h65).bind fun h107 =>
              lp_X6_forgetsAll_12 m (nI p) (fun h12_ => lp_X6_forgetsAll_2 m (fun h2_ => some ((), h2_)) k (nI p + 1) h12_) k2 (nI (s + 1)) h107) () (fun h' => Fk m h h' ∧ VR h' m (mtS x (fun _ => true) (fgI x))) := by
            rintro c' rfl u rfl
            obtain ⟨h4, e4, H4, V4, F4⟩ := W_has (c := fgt x s p) H3 O3 V3 hp3 hs3 rfl
            rw [e4, bd_ok]
            refine kk2 h4 ⟨F3.tr F4.w33, ?_⟩
            rw [← e1]
            have : uA (uA y 9 (p * 6 + s) (min 99 (c + 1) + 1)) 9 (p * 6 + s) (fgt x s p) = uA y 9 (p * 6 + s) (fgt x s p) := by
              apply St_ext <;> try rfl
              intro r i
              rw [sA_uA, sA_uA, sA_uA]
              split <;> rfl
            rw [this] at V4
            exact V4
          have gh3 := V3.gh H3
          rw [show sV (uA y 9 (p * 6 + s) (min 99 (c + 1) + 1)) 5 = sV x 5 from hy5] at gh3
          simp only [r3, l3, Option.bind_some, inv_ok H3.1, r_holdOf H3 O3 V3 hp3 hs3, ob_ok, hyh, gh3, bit_tst p (show p < 8 by omega) _ bh]
          have ht := tb_lt (sV x 5) p
          by_cases q1 : min 99 (c + 1) ≤ holdN x p (sA x 5 s)
          · rw [if_pos (leY q1 (by omega))]
            exact put _ (by rw [ef, if_pos (Or.inr q1)]) _ (by rw [hvS])
          · rw [if_neg (leN (by omega) (by omega))]
            by_cases q2 : tb (sV x 5) p = 1
            · rw [if_neg (show ¬ nI (tb (sV x 5) p) = 0 from eqN (m := 0) (by omega) (by decide) (by omega))]
              exact put _ (by rw [ef, if_pos (Or.inl q2)]) _ (by rw [hvS])
            · rw [if_pos (show nI (tb (sV x 5) p) = 0 by rw [show tb (sV x 5) p = 0 by omega]; rfl)]
              exact put _ (by rw [ef, if_neg (by omega)]) _ (by rw [hv0])
        rw [hc, hvS, if_neg (show ¬ nI c < 0 from ltN (b := 0) (m := c) (by omega) (by omega))]
        by_cases q9 : 99 ≤ c
        · rw [if_pos (show (99 : Int32) ≤ nI c from leY (m := 99) q9 (by omega))]
          obtain ⟨h3, e3, H3, V3, F3⟩ := W_has (c := min 99 (c + 1) + 1) H2 O2 V2 hp' hs' (u := 99) (by rw [show min 99 (c + 1) = 99 by omega]; rfl)
          rw [e3, bd_ok]
          exact rest h3 H3 V3 (F2.tr F3.w33)
        · rw [if_neg (show ¬ (99 : Int32) ≤ nI c from leN (m := 99) (by omega) (by decide)), nI1 c]
          obtain ⟨h3, e3, H3, V3, F3⟩ := W_has (c := min 99 (c + 1) + 1) H2 O2 V2 hp' hs' (u := nI (c + 1)) (by rw [show min 99 (c + 1) = c + 1 by omega, hvS])
          rw [e3, bd_ok]
          exact rest h3 H3 V3 (F2.tr F3.w33)
    · rintro k2 h2 ⟨F2, V2⟩
      have H2 := F2.Md H
      show Ret (lb_X6_forgetsAll_12 m _ _ _ _ h2) _ _
      unfold lb_X6_forgetsAll_12
      rw [V2.gs H2, bd_ok, show sS (mtS x (dnB p (sS x)) (fgI x)) = sS x from rfl, iY (by omega), nI1 p]
      exact kk h2 ⟨F2, V2.ext (dnB_row hS _)⟩
  · rintro k h1 ⟨F, V1⟩
    have H1 := F.Md H
    show Ret (lb_X6_forgetsAll_2 m _ _ _ h1) _ _
    unfold lb_X6_forgetsAll_2
    rw [V1.gp H1, bd_ok, show sP (mtS x (dnB (sP x) 0) (fgI x)) = sP x from rfl, iY (by omega)]
    exact Ret.mk ⟨F, V1.ext (dnB_all hS _)⟩
end REF1
