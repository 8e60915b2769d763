/-! THE LAW: turn by turn -/
theorem Ret.ite {α : Type} {c : Prop} [Decidable c] {a b : Option (α × HP)} {v : α} {Q : HP → Prop} (f : c → Ret a v Q) (g : ¬ c → Ret b v Q) : Ret (if c then a else b) v Q := by
  by_cases h : c
  · rw [if_pos h]; exact f h
  · rw [if_neg h]; exact g h
theorem law_turn {f g : HP → Option (Int32 × HP)} {h : HP} {w : Wd} (W : WI h w) (A : Alk f g h) {G : HP → Option (Int32 × HP)} {v : Int32} {Q : HP → Prop} (kk : ∀ h2 w2, WI h2 w2 → Ret (G h2) v Q) : Ret (ob (inv 5 0 h (f h)) fun x h' => ob (inv 6 71 h' (g h')) fun y h'' => if x = y then G h'' else some ((0 : Int32), h'')) v Q := by
  obtain ⟨v0, h1, h2, w', e1, e2, W2, o⟩ := A
  rw [inv_ok W.2.1.1, e1, ob_ok, inv_ok o, e2, ob_ok, if_pos rfl]
  exact kk h2 w' W2
theorem law_turnJ {f g : HP → Option (Int64 × HP)} {h : HP} {w : Wd} (W : WI h w) (A : Alk f g h) {G : HP → Option (Int32 × HP)} {v : Int32} {Q : HP → Prop} (kk : ∀ h2 w2, WI h2 w2 → Ret (G h2) v Q) : Ret (ob (inv 5 0 h (f h)) fun x h' => ob (inv 6 71 h' (g h')) fun y h'' => if lg_cmp x y = 0 then G h'' else some ((0 : Int32), h'')) v Q := by
  obtain ⟨v0, h1, h2, w', e1, e2, W2, o⟩ := A
  rw [inv_ok W.2.1.1, e1, ob_ok, inv_ok o, e2, ob_ok, if_pos (cmp_eq.mpr rfl)]
  exact kk h2 w' W2
theorem law_go {Z : ZZ} {i : Nat} {h : HP} {w : Wd} (hL : zL Z ≤ 3072) (hi : 6 * i + 6 ≤ zL Z) (W : WI h w) {K : HP → Option (Int32 × HP)} {F : Int32 → HP → Option (Int32 × HP)} {v : Int32} {Q : HP → Prop} (kk : ∀ h2 w2, WI h2 w2 → Ret (F (nI (6 * (i + 1))) h2) v Q) : Ret (lb_L_law_18 Z 0 71 K F (nI (6 * i)) h) v Q := by
  have l : ∀ k, k < 6 → lX Z (nI (6 * i) + nI k) = some (zX Z (6 * i + k)) := fun k hk => by
    rw [nI_add]
    unfold lX
    rw [if_pos (vpiN (by omega) (by omega)), tcN (by omega)]
  have l0 : lX Z (nI (6 * i)) = some (zX Z (6 * i)) := by
    unfold lX
    rw [if_pos (vpiN (by omega) (by omega)), tcN (by omega)]
  have l1 : lX Z (nI (6 * i) + 1) = some (zX Z (6 * i + 1)) := l 1 (by decide)
  have l2 : lX Z (nI (6 * i) + 2) = some (zX Z (6 * i + 2)) := l 2 (by decide)
  have l3 : lX Z (nI (6 * i) + 3) = some (zX Z (6 * i + 3)) := l 3 (by decide)
  have l4 : lX Z (nI (6 * i) + 4) = some (zX Z (6 * i + 4)) := l 4 (by decide)
  have l5 : lX Z (nI (6 * i) + 5) = some (zX Z (6 * i + 5)) := l 5 (by decide)
  have e6 : nI (6 * i) + 6 = nI (6 * (i + 1)) := by
    rw [show (6 : Int32) = nI 6 from rfl, nI_add]
    congr 1
  rw [← e6] at kk
  unfold lb_L_law_18
  have c : ¬ Int32.ofNat (zL Z) - 6 < nI (6 * i) := by
    show ¬ nI (zL Z) - nI 6 < nI (6 * i)
    rw [z_sub, Int32.lt_iff_toInt_lt, zI_toInt (by omega) (by omega), nI_toInt (by omega)]
    omega
  rw [if_neg c, l0, bd_ok]
  refine Ret.ite (fun _ => ?_) (fun _ => ?_)
  · simp only [l1, l2, l3, l4, l5, Option.bind_some]
    exact law_turn W (al_row W _ _ _) kk
  refine Ret.ite (fun _ => ?_) (fun _ => ?_)
  · simp only [l1, l2, l3, l4, l5, Option.bind_some]
    exact law_turn W (al_set W _ _ _) kk
  refine Ret.ite (fun _ => ?_) (fun _ => ?_)
  · simp only [l1, l2, l3, l4, l5, Option.bind_some]
    exact law_turn W (al_copy W _ _ _ _ _) kk
  refine Ret.ite (fun _ => ?_) (fun _ => ?_)
  · simp only [l1, l2, l3, l4, l5, Option.bind_some]
    exact law_turnJ W (al_element W _ _) kk
  refine Ret.ite (fun _ => ?_) (fun _ => ?_)
  · simp only [l1, l2, l3, l4, l5, Option.bind_some]
    exact law_turn W (al_holds W _) kk
  refine Ret.ite (fun _ => ?_) (fun _ => ?_)
  · simp only [l1, l2, l3, l4, l5, Option.bind_some]
    exact law_turn W (al_show W _ _) kk
  refine Ret.ite (fun _ => ?_) (fun _ => ?_)
  · simp only [l1, l2, l3, l4, l5, Option.bind_some]
    exact law_turn W (al_says W _ _) kk
  refine Ret.ite (fun _ => ?_) (fun _ => ?_)
  · simp only [l1, l2, l3, l4, l5, Option.bind_some]
    exact law_turn W (al_person W _ _ _ _) kk
  refine Ret.ite (fun _ => ?_) (fun _ => ?_)
  · simp only [l1, l2, l3, l4, l5, Option.bind_some]
    exact law_turn W (al_song W _ _) kk
  refine Ret.ite (fun _ => ?_) (fun _ => ?_)
  · simp only [l1, l2, l3, l4, l5, Option.bind_some]
    exact law_turn W (al_give W _ _ _) kk
  refine Ret.ite (fun _ => ?_) (fun _ => ?_)
  · simp only [l1, l2, l3, l4, l5, Option.bind_some]
    exact law_turn W (al_mark W _ _ _) kk
  refine Ret.ite (fun _ => ?_) (fun _ => ?_)
  · simp only [l1, l2, l3, l4, l5, Option.bind_some]
    exact law_turn W (al_note W _ _ _) kk
  refine Ret.ite (fun _ => ?_) (fun _ => ?_)
  · simp only [l1, l2, l3, l4, l5, Option.bind_some]
    exact law_turn W (al_knows W _ _ _) kk
  refine Ret.ite (fun _ => ?_) (fun _ => ?_)
  · simp only [l1, l2, l3, l4, l5, Option.bind_some]
    exact law_turn W (al_seat W _ _ _) kk
  refine Ret.ite (fun _ => ?_) (fun _ => ?_)
  · simp only [l1, l2, l3, l4, l5, Option.bind_some]
    exact law_turn W (al_tell W _ _) kk
  refine Ret.ite (fun _ => ?_) (fun _ => ?_)
  · simp only [l1, l2, l3, l4, l5, Option.bind_some]
    exact law_turn W (al_feed W _) kk
  refine Ret.ite (fun _ => ?_) (fun _ => ?_)
  · exact law_turn W (al_wipe W) kk
  refine Ret.ite (fun _ => ?_) (fun _ => ?_)
  · exact law_turn W (al_isle W) kk
  refine Ret.ite (fun _ => ?_) (fun _ => ?_)
  · simp only [l1, l2, l3, l4, l5, Option.bind_some]
    exact law_turn W (al_personOf W _ _) kk
  refine Ret.ite (fun _ => ?_) (fun _ => ?_)
  · simp only [l1, l2, l3, l4, l5, Option.bind_some]
    exact law_turn W (al_songOf W _ _) kk
  refine Ret.ite (fun _ => ?_) (fun _ => ?_)
  · simp only [l1, l2, l3, l4, l5, Option.bind_some]
    exact law_turn W (al_years W _ _) kk
  refine Ret.ite (fun _ => ?_) (fun _ => ?_)
  · simp only [l1, l2, l3, l4, l5, Option.bind_some]
    exact law_turn W (al_hold W _ _) kk
  refine Ret.ite (fun _ => ?_) (fun _ => ?_)
  · simp only [l1, l2, l3, l4, l5, Option.bind_some]
    exact law_turn W (al_behind W _ _ _) kk
  refine Ret.ite (fun _ => ?_) (fun _ => ?_)
  · simp only [l1, l2, l3, l4, l5, Option.bind_some]
    exact law_turn W (al_lostIn W _) kk
  refine Ret.ite (fun _ => ?_) (fun _ => ?_)
  · simp only [l1, l2, l3, l4, l5, Option.bind_some]
    exact law_turn W (al_sungIn W _) kk
  refine Ret.ite (fun _ => ?_) (fun _ => ?_)
  · simp only [l1, l2, l3, l4, l5, Option.bind_some]
    exact law_turn W (al_last W _) kk
  refine Ret.ite (fun _ => ?_) (fun _ => ?_)
  · exact law_turn W (al_finder W) kk
  refine Ret.ite (fun _ => ?_) (fun _ => ?_)
  · simp only [l1, l2, l3, l4, l5, Option.bind_some]
    exact law_turn W (al_keep W _) kk
  refine Ret.ite (fun _ => ?_) (fun _ => ?_)
  · simp only [l1, l2, l3, l4, l5, Option.bind_some]
    exact law_turn W (al_workFor W _ _) kk
  refine Ret.ite (fun _ => ?_) (fun _ => ?_)
  · simp only [l1, l2, l3, l4, l5, Option.bind_some]
    exact law_turn W (al_teach W _ _) kk
  refine Ret.ite (fun _ => ?_) (fun _ => ?_)
  · simp only [l1, l2, l3, l4, l5, Option.bind_some]
    exact law_turn W (al_hummer W _) kk
  refine Ret.ite (fun _ => ?_) (fun _ => ?_)
  · exact law_turn W (al_next W) kk
  refine Ret.ite (fun _ => ?_) (fun _ => ?_)
  · simp only [l1, l2, l3, l4, l5, Option.bind_some]
    exact law_turn W (al_order W _) kk
  refine Ret.ite (fun _ => ?_) (fun _ => ?_)
  · simp only [l1, l2, l3, l4, l5, Option.bind_some]
    exact law_turn W (al_changes W _ _) kk
  refine Ret.ite (fun _ => ?_) (fun _ => ?_)
  · simp only [l1, l2, l3, l4, l5, Option.bind_some]
    exact law_turn W (al_join W _ _) kk
  refine Ret.ite (fun _ => ?_) (fun _ => ?_)
  · simp only [l1, l2, l3, l4, l5, Option.bind_some]
    exact law_turn W (al_like W _ _) kk
  refine Ret.ite (fun _ => ?_) (fun _ => ?_)
  · simp only [l1, l2, l3, l4, l5, Option.bind_some]
    exact law_turn W (al_nearest W _ _ _) kk
  refine Ret.ite (fun _ => ?_) (fun _ => ?_)
  · simp only [l1, l2, l3, l4, l5, Option.bind_some]
    exact law_turn W (al_fits W _ _ _ _) kk
  refine Ret.ite (fun _ => ?_) (fun _ => ?_)
  · simp only [l1, l2, l3, l4, l5, Option.bind_some]
    exact law_turn W (al_griefs W _ _ _) kk
  refine Ret.ite (fun _ => ?_) (fun _ => ?_)
  · simp only [l1, l2, l3, l4, l5, Option.bind_some]
    exact law_turn W (al_songs W _) kk
  refine Ret.ite (fun _ => ?_) (fun _ => ?_)
  · simp only [l1, l2, l3, l4, l5, Option.bind_some]
    exact law_turn W (al_people W _) kk
  refine Ret.ite (fun _ => ?_) (fun _ => ?_)
  · simp only [l1, l2, l3, l4, l5, Option.bind_some]
    exact law_turn W (al_both W _ _) kk
  refine Ret.ite (fun _ => ?_) (fun _ => ?_)
  · simp only [l1, l2, l3, l4, l5, Option.bind_some]
    exact law_turn W (al_most W _) kk
  refine Ret.ite (fun _ => ?_) (fun _ => ?_)
  · simp only [l1, l2, l3, l4, l5, Option.bind_some]
    exact law_turn W (al_table W _) kk
  refine Ret.ite (fun _ => ?_) (fun _ => ?_)
  · simp only [l1, l2, l3, l4, l5, Option.bind_some]
    exact law_turn W (al_weakest W _) kk
  refine Ret.ite (fun _ => ?_) (fun _ => ?_)
  · simp only [l1, l2, l3, l4, l5, Option.bind_some]
    exact law_turn W (al_forgets W _ _) kk
  refine Ret.ite (fun _ => ?_) (fun _ => ?_)
  · simp only [l1, l2, l3, l4, l5, Option.bind_some]
    exact law_turn W (al_ofKind W _) kk
  refine Ret.ite (fun _ => ?_) (fun _ => ?_)
  · simp only [l1, l2, l3, l4, l5, Option.bind_some]
    exact law_turn W (al_judge W _ _) kk
  refine Ret.ite (fun _ => ?_) (fun _ => ?_)
  · exact law_turn W (al_pass W) kk
  refine Ret.ite (fun _ => ?_) (fun _ => ?_)
  · simp only [l1, l2, l3, l4, l5, Option.bind_some]
    exact law_turn W (al_taught W _ _) kk
  refine Ret.ite (fun _ => ?_) (fun _ => ?_)
  · simp only [l1, l2, l3, l4, l5, Option.bind_some]
    exact law_turn W (al_drawn W _) kk
  refine Ret.ite (fun _ => ?_) (fun _ => ?_)
  · simp only [l1, l2, l3, l4, l5, Option.bind_some]
    exact law_turn W (al_seed W _) kk
  refine Ret.ite (fun _ => ?_) (fun _ => ?_)
  · exact law_turn W (al_image W) kk
  refine Ret.ite (fun _ => ?_) (fun _ => ?_)
  · exact law_turn W (al_back W) kk
  refine Ret.ite (fun _ => ?_) (fun _ => ?_)
  · simp only [l1, l2, l3, l4, l5, Option.bind_some]
    exact law_turn W (al_status W _) kk
  exact kk h w W
