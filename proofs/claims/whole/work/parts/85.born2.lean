/-! THE BEGINNING: the class and the reference -/
def w00 : Wd := (x00, none, (fun _ => 0, 0), fun _ => (0, 0, 0, fun _ => 0), fun _ => 0)
theorem OkW_w00 : OkW w00 := by
  have bp : ∀ k, k < 9 → 0 < bnd k := by decide
  refine ⟨⟨by decide, by decide, by decide, by decide, by decide, fun k hk i _ => bp k hk, fun p hp => absurd hp (Nat.not_lt_zero _)⟩, fun y hy => absurd hy (by show ¬ (none : Option St) = some y; simp), fun s _ => ⟨Nat.zero_le _, fun e => absurd (show (0 : Nat) = 1 from e) (by decide), fun e => absurd (show (0 : Nat) = 2 from e) (by decide)⟩, by decide, fun i => (show (0 : Nat) < 256 by decide)⟩
theorem ShI.mv {b : Nat} {h g : HP} (H : ShI h b) (e : E4 h g b) (e1 : E4 h g (b + 1)) (hn : b + 2 ≤ hN g) : ShI g b := ⟨H.1.mv e (by omega), by rw [e.2.1]; exact H.2.1, H.2.2.mv e1 (by omega)⟩
theorem c5_init (h0 : HP) (hz : hN h0 = 0) : Ret (f_X5_init 0 (nO 5 h0)) () (fun g => hN g = 71 ∧ hL g = hL h0 + 1335 ∧ CI g ∧ CV g w00) := by
  have B0 : CB 5 0 1 (hL h0 + 9) [] (fun _ => True) h0 (nO 5 h0) := by
    have := CB.new 5 h0
    rw [hz] at this
    exact this
  unfold f_X5_init
  refine B0.obj (f := f_X0_init) c0_init fun h1 B1 => ?_
  refine B1.obj (f := f_X0_init) c0_init fun h2 B2 => ?_
  refine B2.obj (f := f_X0_init) c0_init fun h3 B3 => ?_
  refine B3.obj (f := f_X1_init) c1_init fun h4 B4 => ?_
  refine B4.obj (f := f_X4_init) c4_init fun h5 B5 => ?_
  refine B5.obj (f := f_X2_init) c2_init fun h6 B6 => ?_
  refine B6.arr (z := 8) rfl (by decide) fun h7 B7 => ?_
  refine B7.arr (z := 5) rfl (by decide) fun h8 B8 => ?_
  obtain ⟨⟨b1, b2, b3, b4, b5, b6⟩, b7, b8⟩ := B8
  have b2 : hN h8 = 55 := b2
  have b3 : hL h8 = hL h0 + 991 := b3
  have b7 : ∀ g : HP, (∀ q, 0 < q → q < 55 → E4 h8 g q) → 55 ≤ hN g → ((((((((True ∧ (IsI g 1 ∧ VC g 1 x00)) ∧ (IsI g 12 ∧ VC g 12 x00)) ∧ (IsI g 23 ∧ VC g 23 x00)) ∧ OutI g 34) ∧ TunI g 47) ∧ (RdI g 50 ∧ hI g 50 2 = 0)) ∧ (hS g 53 = (9, 8) ∧ ∀ i, hI g 53 i = 0)) ∧ (hS g 54 = (7, 5) ∧ ∀ i, hI g 54 i = 0)) := b7
  have r8 : hS h8 53 = (9, 8) := (b7 h8 (fun _ _ _ => ⟨rfl, rfl, rfl, rfl⟩) (by omega)).1.2.1
  refine Ret.loop (lp := lp_X5_init_88 0 _) (fun i q => hN q = 55 + 2 * i ∧ hL q = hL h0 + 991 + 43 * i ∧ (∀ z, z < 55 → z ≠ 53 → E4 h8 q z) ∧ (hS q 53 = (9, 8) ∧ hI q 53 = hI h8 53 ∧ hJ q 53 = hJ h8 53) ∧ ∀ s, s < i → hR q 53 s = some (55 + 2 * s) ∧ ShI q (55 + 2 * s) ∧ ShV q (55 + 2 * s) (0, 0, 0, fun _ => 0)) 8 (by decide) ⟨b2, b3, fun _ _ _ => ⟨rfl, rfl, rfl, rfl⟩, ⟨r8, rfl, rfl⟩, fun s hs => absurd hs (by omega)⟩ ?_ ?_
  · rintro t i q hi ⟨q1, q2, q3, q4, q5⟩ kk
    have o0 : OA 5 q 0 := b4.mv (q3 0 (by decide) (by decide)) (by omega)
    have r6 : hR q 0 6 = some 53 := by rw [(q3 0 (by decide) (by decide)).2.1, b6]; rfl
    show Ret (lb_X5_init_88 0 _ _ _ q) _ _
    unfold lb_X5_init_88
    rw [if_neg (show ¬ (8 : Int32) ≤ nI i from leN (m := 8) hi (by decide)), gR_ok o0 r6, bd_ok, nI1]
    show Ret (ob (f_X3_init (hN q) (nO 3 q)) fun _ h103 => (sR 53 (nI i) (hN q) h103).bind fun h106 => lp_X5_init_88 0 (fun h88_ => some ((), h88_)) t (nI (i + 1)) h106) _ _
    refine (c3_init q).call fun h9 ⟨n1, n2, n3, n4⟩ => ?_
    rw [q1] at n1 n2 n4 ⊢
    rw [q2] at n3
    have sh9 := (n1 h9 (fun _ _ _ => ⟨rfl, rfl, rfl, rfl⟩) (by omega)).1
    have o9 : OA 9 h9 53 := ⟨by omega, by rw [(n4 53 (by omega)).1, q4.1]⟩
    unfold sR
    rw [if_pos ⟨o9.o, by rw [(n4 53 (by omega)).1, q4.1]; exact vpiN hi (by decide), sh9.1.o⟩, bd_ok, tcN (by omega)]
    have ek : ∀ z, z ≠ 53 → E4 h9 (wR h9 53 (upA (hR h9 53) i (some (55 + 2 * i)))) z := fun z hz => ⟨rfl, hR_wn _ _ hz, rfl, rfl⟩
    have hr : hR (wR h9 53 (upA (hR h9 53) i (some (55 + 2 * i)))) 53 = upA (hR h9 53) i (some (55 + 2 * i)) := hR_w _ _ _
    have e4 : (hS (wR h9 53 (upA (hR h9 53) i (some (55 + 2 * i)))) 53 = hS h9 53 ∧ hI (wR h9 53 (upA (hR h9 53) i (some (55 + 2 * i)))) 53 = hI h9 53 ∧ hJ (wR h9 53 (upA (hR h9 53) i (some (55 + 2 * i)))) 53 = hJ h9 53) ∧ hN (wR h9 53 (upA (hR h9 53) i (some (55 + 2 * i)))) = hN h9 ∧ hL (wR h9 53 (upA (hR h9 53) i (some (55 + 2 * i)))) = hL h9 := ⟨⟨rfl, rfl, rfl⟩, rfl, rfl⟩
    generalize wR h9 53 (upA (hR h9 53) i (some (55 + 2 * i))) = g at ek hr e4 ⊢
    obtain ⟨⟨f1, f2, f3⟩, f4, f5⟩ := e4
    refine kk g ⟨by omega, by omega, fun z h1 h2 => E4.tr (E4.tr (q3 z h1 h2) (n4 z (by omega))) (ek z h2), ⟨by rw [f1, (n4 53 (by omega)).1]; exact q4.1, by rw [f2, (n4 53 (by omega)).2.2.1]; exact q4.2.1, by rw [f3, (n4 53 (by omega)).2.2.2]; exact q4.2.2⟩, fun s hs => ?_⟩
    by_cases e : s = i
    · subst e
      refine ⟨by rw [hr]; exact upA_s _ _ _, ?_⟩
      exact n1 g (fun z h1 h2 => ek z (by omega)) (by omega)
    · obtain ⟨s1, s2, s3⟩ := q5 s (by omega)
      have e1 : E4 q g (55 + 2 * s) := E4.tr (n4 _ (by omega)) (ek _ (by omega))
      have e2 : E4 q g (55 + 2 * s + 1) := E4.tr (n4 _ (by omega)) (ek _ (by omega))
      refine ⟨?_, s2.mv e1 e2 (by omega), s3.keep e1.2.2.1 e2.2.2.2⟩
      rw [hr, upA_n _ _ e, (n4 53 (by omega)).2.1]
      exact s1
  · rintro t q ⟨q1, q2, q3, q4, q5⟩
    show Ret (lb_X5_init_88 0 _ _ _ q) _ _
    unfold lb_X5_init_88
    rw [if_pos (show (8 : Int32) ≤ nI 8 by decide)]
    have back : ∀ z, z ≠ 53 → E4 (wR q 53 (hR h8 53)) q z := fun z hz => ⟨rfl, (hR_wn _ _ hz).symm, rfl, rfl⟩
    have there : ∀ z, 0 < z → z < 55 → E4 h8 (wR q 53 (hR h8 53)) z := fun z h1 h2 => by
      by_cases e : z = 53
      · subst e
        exact ⟨q4.1.trans r8.symm, hR_w _ _ _, q4.2.1, q4.2.2⟩
      · exact ⟨(q3 z h2 e).1, (hR_wn _ _ e).trans (q3 z h2 e).2.1, (q3 z h2 e).2.2.1, (q3 z h2 e).2.2.2⟩
    have hn : hN (wR q 53 (hR h8 53)) = hN q := rfl
    have P := b7 (wR q 53 (hR h8 53)) there (by omega)
    generalize wR q 53 (hR h8 53) = g at back P hn
    obtain ⟨⟨⟨⟨⟨⟨⟨⟨-, p1, v1⟩, p2, v2⟩, p3, v3⟩, p4⟩, p5⟩, p6, v6⟩, -⟩, p8, v8⟩ := P
    have o0 : OA 5 q 0 := b4.mv (q3 0 (by decide) (by decide)) (by omega)
    have rr : ∀ j, hR q 0 j = List.lookup j [(7, 54), (6, 53), (5, 50), (4, 47), (3, 34), (2, 23), (1, 12), (0, 1)] := fun j => by rw [(q3 0 (by decide) (by decide)).2.1]; exact b6 j
    have i0 : ∀ j, hI q 0 j = 0 := fun j => by rw [(q3 0 (by decide) (by decide)).2.2.1]; exact b5 j
    refine Ret.mk ⟨by omega, by omega, ⟨o0, ⟨rr 0, rr 1, rr 2, rr 3, rr 4, rr 5, rr 6, rr 7⟩, p1.mv (fun z h1 h2 => back z (by omega)) (by omega), p2.mv (fun z h1 h2 => back z (by omega)) (by omega), p3.mv (fun z h1 h2 => back z (by omega)) (by omega), ?_, ?_, ?_, ⟨by omega, q4.1⟩, fun s hs => ⟨(q5 s hs).1, (q5 s hs).2.1⟩, ⟨by omega, by rw [(back 54 (by decide)).1]; exact p8⟩⟩, ⟨v1.mv (fun z h1 h2 => back z (by omega)), fun y hy => absurd hy (by show ¬ (none : Option St) = some y; simp), i0 8, ⟨by decide, fun i => (show (0 : Nat) < 256 by decide), fun i hi => absurd hi (Nat.not_lt_zero _)⟩, by rw [(back 50 (by decide)).2.2.1]; exact v6, fun s hs => (q5 s hs).2.2, fun i _ => by rw [(back 54 (by decide)).2.2.1]; exact v8 i⟩⟩
    · obtain ⟨o1, o2, o3, o4, o5⟩ := p4
      exact ⟨o1.mv (back 34 (by decide)) (by omega), by rw [(back 34 (by decide)).2.1]; exact o2, by rw [(back 34 (by decide)).2.1]; exact o3, o4.mv (fun z h1 h2 => back z (by omega)) (by omega), o5.mv (back _ (by decide)) (by omega)⟩
    · obtain ⟨o1, o2, o3, o4, o5⟩ := p5
      exact ⟨o1.mv (back 47 (by decide)) (by omega), by rw [(back 47 (by decide)).2.1]; exact o2, by rw [(back 47 (by decide)).2.1]; exact o3, o4.mv (back _ (by decide)) (by omega), o5.mv (back _ (by decide)) (by omega)⟩
    · obtain ⟨o1, o2, o3, o4, o5⟩ := p6
      exact ⟨o1.mv (back 50 (by decide)) (by omega), by rw [(back 50 (by decide)).2.1]; exact o2, by rw [(back 50 (by decide)).2.1]; exact o3, o4.mv (back _ (by decide)) (by omega), o5.mv (back _ (by decide)) (by omega)⟩
theorem RR_new {h : HP} (N : NwR 71 h) (hn : hN h = 104) (hl : hL h ≤ 10000) : RR h 71 w00 := by
  obtain ⟨M, g, r, z⟩ := N
  have z0 : ∀ q, 0 < q → q < 33 → q ≠ 26 → ∀ i, hI h (71 + q) i = 0 := fun q h1 h2 h3 => (z q h1 h2).1 h3
  refine ⟨1, fun _ => none, ⟨hn, by omega, M, fun j h1 h2 => absurd h2 (by omega), fun k hk => r (25 + k) (by omega) (by omega), fun k _ j hj => absurd hj (by simp), fun k _ l _ j hj => absurd hj (by simp), rfl⟩, ⟨by rw [g]; rfl, by rw [g]; rfl, by rw [g]; rfl, by rw [g]; rfl, by rw [g]; rfl, by rw [g]; rfl, fun k hk i _ => ?_, fun p hp => absurd hp (Nat.not_lt_zero _)⟩, fun _ => rfl, fun y hy => absurd hy (by show ¬ (none : Option St) = some y; simp), ⟨by decide, fun i => (show (0 : Nat) < 256 by decide), fun i hi => absurd hi (Nat.not_lt_zero _)⟩, by rw [g]; rfl, fun s hs => ⟨?_, fun e => absurd (show (0 : Nat) = 1 from e) (by decide), fun e => absurd (show (0 : Nat) = 2 from e) (by decide)⟩, fun i hi => z0 16 (by decide) (by decide) (by decide) (2 + i)⟩
  · rw [show 71 + 17 + k = 71 + (17 + k) by omega]
    exact z0 (17 + k) (by omega) (by omega) (by omega) i
  · exact z0 1 (by decide) (by decide) (by decide) s
