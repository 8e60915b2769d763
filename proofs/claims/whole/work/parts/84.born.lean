/-! THE BEGINNING: a new class -/
def E4 (h h' : HP) (q : Nat) : Prop := hS h' q = hS h q ∧ hR h' q = hR h q ∧ hI h' q = hI h q ∧ hJ h' q = hJ h q
theorem E4.tr {h h1 h2 : HP} {q : Nat} (f : E4 h h1 q) (g : E4 h1 h2 q) : E4 h h2 q := ⟨g.1.trans f.1, g.2.1.trans f.2.1, g.2.2.1.trans f.2.2.1, g.2.2.2.trans f.2.2.2⟩
/-- it is so of what lies from a to a + k, whatever else there be -/
def Nw (k : Nat) (N : HP → Nat → Prop) (h : HP) (a : Nat) : Prop := ∀ g, (∀ q, a ≤ q → q < a + k → E4 h g q) → a + k ≤ hN g → N g a
theorem OA.mv {c a : Nat} {h g : HP} (H : OA c h a) (e : E4 h g a) (hn : a < hN g) : OA c g a := ⟨hn, by rw [e.1]; exact H.2⟩
theorem IA.mv {b n : Nat} {h g : HP} (H : IA h b n) (e : E4 h g b) (hn : b < hN g) : IA g b n := ⟨hn, by rw [e.1]; exact H.2⟩
theorem LA.mv {b n : Nat} {h g : HP} (H : LA h b n) (e : E4 h g b) (hn : b < hN g) : LA g b n := ⟨hn, by rw [e.1]; exact H.2⟩
theorem IsI.mv {a : Nat} {h g : HP} (H : IsI h a) (e : ∀ q, a ≤ q → q < a + 11 → E4 h g q) (hn : a + 11 ≤ hN g) : IsI g a :=
  ⟨H.1.mv (e a (by omega) (by omega)) (by omega), fun k hk => (H.2.1 k hk).mv (e _ (by omega) (by omega)) (by omega), fun k hk => by rw [(e a (by omega) (by omega)).2.1]; exact H.2.2 k hk⟩
theorem VC.mv {a : Nat} {h g : HP} {x : St} (V : VC h a x) (e : ∀ q, a ≤ q → q < a + 11 → E4 h g q) : VC g a x := V.keep (fun q h1 h2 => (e q h1 h2).2.2.1)
def x00 : St := (0, 0, fun k => if k = 2 then 3 else 0, fun _ _ => 0, 1)
def as0 : List (Nat × Nat × Nat) := [(10, 7, 48), (9, 7, 48), (8, 7, 6), (7, 7, 6), (6, 7, 6), (5, 7, 8), (4, 7, 8), (3, 7, 8), (2, 7, 8), (1, 7, 8)]
def rs0 : List (Nat × Nat) := [(15, 10), (14, 9), (13, 8), (12, 7), (11, 6), (10, 5), (9, 4), (8, 3), (7, 2), (6, 1)]
theorem as0_k : ∀ k, k < 10 → (1 + k, 7, ln k) ∈ as0 ∧ rs0.lookup (6 + k) = some (1 + k) := by decide
theorem c0_init (h0 : HP) : Ret (f_X0_init (hN h0) (nO 0 h0)) () (fun h' => Nw 11 (fun g a => IsI g a ∧ VC g a x00) h' (hN h0) ∧ hN h' = hN h0 + 11 ∧ hL h' = hL h0 + 170 ∧ Sm (hN h0) h0 h') := by
  unfold f_X0_init
  refine (BI.new 0 h0).num fun h1 B1 => ?_
  refine B1.num fun h2 B2 => ?_
  refine B2.arr (n := 8) rfl (by decide) fun h3 B3 => ?_
  refine B3.arr (n := 8) rfl (by decide) fun h4 B4 => ?_
  refine B4.arr (n := 8) rfl (by decide) fun h5 B5 => ?_
  refine B5.arr (n := 8) rfl (by decide) fun h6 B6 => ?_
  refine B6.arr (n := 8) rfl (by decide) fun h7 B7 => ?_
  refine B7.arr (n := 6) rfl (by decide) fun h8 B8 => ?_
  refine B8.arr (n := 6) rfl (by decide) fun h9 B9 => ?_
  refine B9.arr (n := 6) rfl (by decide) fun h10 B10 => ?_
  refine B10.arr (n := 48) rfl (by decide) fun h11 B11 => ?_
  refine B11.arr (n := 48) rfl (by decide) fun h12 B12 => ?_
  have B : BI 0 (hN h0) h0 as0 rs0 (upd (upd (fun _ => 0) 2 3) 4 1) 0 11 _ h12 := B12
  obtain ⟨⟨b1, b2, b3, b4, b5⟩, b6, b7, b8, b9⟩ := B
  have cell : ∀ k, k < 10 → IA h12 (hN h0 + 1 + k) (ln k) ∧ ∀ i, hI h12 (hN h0 + 1 + k) i = 0 := fun k hk => by
    obtain ⟨c1, c2, c3, c4, c5⟩ := b6 _ (as0_k k hk).1
    dsimp only at c1 c2 c3 c4 c5
    rw [← Nat.add_assoc] at c3 c4
    exact ⟨⟨by omega, c3⟩, c4⟩
  have I12 : IsI h12 (hN h0) := ⟨b4, fun k hk => (cell k hk).1, fun k hk => by rw [b7, (as0_k k hk).2]; show some (hN h0 + (1 + k)) = _; rw [Nat.add_assoc]⟩
  have V12 : VC h12 (hN h0) x00 := by
    refine ⟨by rw [b5]; rfl, by rw [b5]; rfl, by rw [b5]; rfl, by rw [b5]; rfl, by rw [b5]; rfl, by rw [b5]; rfl, fun k hk i _ => ?_, fun p hp => absurd hp (Nat.not_lt_zero _)⟩
    exact (cell k (by omega)).2 i
  exact Ret.mk ⟨fun g e hn => ⟨I12.mv e hn, V12.mv e⟩, b1, by rw [b3]; rfl, b9⟩
theorem c3_init (h0 : HP) : Ret (f_X3_init (hN h0) (nO 3 h0)) () (fun h' => Nw 2 (fun g a => ShI g a ∧ ShV g a (0, 0, 0, fun _ => 0)) h' (hN h0) ∧ hN h' = hN h0 + 2 ∧ hL h' = hL h0 + 43 ∧ Sm (hN h0) h0 h') := by
  unfold f_X3_init
  refine (BI.new 3 h0).num fun h1 B1 => ?_
  refine B1.arr (n := 40) rfl (by decide) fun h2 B2 => ?_
  obtain ⟨⟨b1, b2, b3, b4, b5⟩, b6, b7, b8, b9⟩ := B2
  obtain ⟨c1, c2, c3, c4, c5⟩ := b6 (1, 8, 40) (by decide)
  refine Ret.mk ⟨fun g e hn => ⟨⟨b4.mv (e _ (by omega) (by omega)) (by omega), by rw [(e _ (by omega) (by omega)).2.1, b7]; rfl, by omega, by rw [(e _ (by omega) (by omega)).1]; exact c3⟩, by rw [(e _ (by omega) (by omega)).2.2.1, b5]; rfl, fun z => absurd (show (0 : Nat) = 1 from z) (by decide)⟩, b1, by rw [b3]; rfl, b9⟩
theorem c4_init (h0 : HP) : Ret (f_X4_init (hN h0) (nO 4 h0)) () (fun h' => Nw 3 (fun g a => TunI g a) h' (hN h0) ∧ hN h' = hN h0 + 3 ∧ hL h' = hL h0 + 20 ∧ Sm (hN h0) h0 h') := by
  unfold f_X4_init
  refine (BI.new 4 h0).arr (n := 8) rfl (by decide) fun h1 B1 => ?_
  refine B1.arr (n := 9) rfl (by decide) fun h2 B2 => ?_
  obtain ⟨⟨b1, b2, b3, b4, b5⟩, b6, b7, b8, b9⟩ := B2
  obtain ⟨c1, c2, c3, c4, c5⟩ := b6 (1, 7, 8) (by decide)
  obtain ⟨d1, d2, d3, d4, d5⟩ := b6 (2, 7, 9) (by decide)
  refine Ret.mk ⟨fun g e hn => ⟨b4.mv (e _ (by omega) (by omega)) (by omega), by rw [(e _ (by omega) (by omega)).2.1, b7]; rfl, by rw [(e _ (by omega) (by omega)).2.1, b7]; rfl, ⟨by omega, by rw [(e _ (by omega) (by omega)).1]; exact c3⟩, ⟨by omega, by rw [(e _ (by omega) (by omega)).1]; exact d3⟩⟩, b1, by rw [b3]; rfl, b9⟩
theorem c2_init (h0 : HP) : Ret (f_X2_init (hN h0) (nO 2 h0)) () (fun h' => Nw 3 (fun g a => RdI g a ∧ hI g a 2 = 0) h' (hN h0) ∧ hN h' = hN h0 + 3 ∧ hL h' = hL h0 + 261 ∧ Sm (hN h0) h0 h') := by
  unfold f_X2_init
  refine (BI.new 2 h0).arr (n := 250) rfl (by decide) fun h1 B1 => ?_
  refine B1.arr (n := 4) rfl (by decide) fun h2 B2 => ?_
  obtain ⟨⟨b1, b2, b3, b4, b5⟩, b6, b7, b8, b9⟩ := B2
  obtain ⟨c1, c2, c3, c4, c5⟩ := b6 (1, 7, 250) (by decide)
  obtain ⟨d1, d2, d3, d4, d5⟩ := b6 (2, 7, 4) (by decide)
  refine Ret.mk ⟨fun g e hn => ⟨⟨b4.mv (e _ (by omega) (by omega)) (by omega), by rw [(e _ (by omega) (by omega)).2.1, b7]; rfl, by rw [(e _ (by omega) (by omega)).2.1, b7]; rfl, ⟨by omega, by rw [(e _ (by omega) (by omega)).1]; exact c3⟩, ⟨by omega, by rw [(e _ (by omega) (by omega)).1]; exact d3⟩⟩, by rw [(e _ (by omega) (by omega)).2.2.1, b5]⟩, b1, by rw [b3]; rfl, b9⟩
/-- what is built behind the object t, one thing after the other; P is so of what lies behind t -/
def CB (c t n sl : Nat) (rs : List (Nat × Nat)) (P : HP → Prop) (h0 h : HP) : Prop :=
  (t < n ∧ hN h = n ∧ hL h = sl ∧ OA c h t ∧ (∀ i, hI h t i = 0) ∧ ∀ j, hR h t j = rs.lookup j) ∧ (∀ g, (∀ q, t < q → q < n → E4 h g q) → n ≤ hN g → P g) ∧ Sm t h0 h
theorem CB.new (c : Nat) (h : HP) : CB c (hN h) (hN h + 1) (hL h + nfl c) [] (fun _ => True) h (nO c h) := by
  have n1 : ∀ q, q < hN h → hS (nO c h) q = hS h q ∧ hR (nO c h) q = hR h q ∧ hI (nO c h) q = hI h q ∧ hJ (nO c h) q = hJ h q := fun q hq =>
    ⟨upA_n _ _ (Nat.ne_of_lt hq), upA_n _ _ (Nat.ne_of_lt hq), upA_n _ _ (Nat.ne_of_lt hq), upA_n _ _ (Nat.ne_of_lt hq)⟩
  have s1 : hS (nO c h) (hN h) = (c, 0) := upA_s _ _ _
  have s2 : hI (nO c h) (hN h) = fun _ => 0 := upA_s _ _ _
  have s3 : hR (nO c h) (hN h) = fun _ => none := upA_s _ _ _
  exact ⟨⟨Nat.lt_succ_self _, rfl, rfl, ⟨Nat.lt_succ_self _, by rw [s1]⟩, fun i => by rw [s2], fun j => by rw [s3]; rfl⟩, fun _ _ _ => trivial, n1⟩
theorem CB.ref {ρ : Type} {G : HP → Option (ρ × HP)} {w : ρ} {Q : HP → Prop} {c t n k sl m : Nat} {rs : List (Nat × Nat)} {P : HP → Prop} {h0 h h9 : HP} (B : CB c t n sl rs P h0 h) {N : HP → Nat → Prop} {j : Nat} (r : Nw k N h9 n ∧ hN h9 = n + k ∧ hL h9 = sl + m ∧ Sm n h h9) (kk : ∀ h', CB c t (n + k) (sl + m) ((j, n) :: rs) (fun g => P g ∧ N g n) h0 h' → Ret (G h') w Q) : Ret ((pR c j t n h9).bind G) w Q := by
  obtain ⟨⟨b1, b2, b3, b4, b5, b6⟩, b7, b8⟩ := B
  obtain ⟨r1, r2, r3, r4⟩ := r
  have e0 : ∀ q, q < n → E4 h h9 q := fun q hq => r4 q hq
  have o9 : OA c h9 t := b4.mv (e0 t b1) (by omega)
  unfold pR
  rw [if_pos o9.o, bd_ok]
  have ek : ∀ q, q ≠ t → E4 h9 (wR h9 t (upA (hR h9 t) j (some n))) q := fun q hq => ⟨rfl, hR_wn _ _ hq, rfl, rfl⟩
  refine kk _ ⟨⟨by omega, r2, r3, ⟨o9.1, o9.2⟩, fun i => ?_, fun i => ?_⟩, fun g e hn => ⟨b7 g (fun q h1 h2 => ?_) (by omega), r1 g (fun q h1 h2 => ?_) hn⟩, fun q hq => ?_⟩
  · exact (congrFun (e0 t b1).2.2.1 i).trans (b5 i)
  · rw [hR_w, lookup_cons]
    show (if i = j then some n else hR h9 t i) = _
    rw [(e0 t b1).2.1, b6]
  · exact ((e0 q h2).tr (ek q (by omega))).tr (e q h1 (by omega))
  · exact (ek q (by omega)).tr (e q (by omega) h2)
  · exact E4.tr (E4.tr (b8 q hq) (e0 q (by omega))) (ek q (by omega))
theorem CB.obj {ρ : Type} {G : HP → Option (ρ × HP)} {w : ρ} {Q : HP → Prop} {c t n sl : Nat} {rs : List (Nat × Nat)} {P : HP → Prop} {h0 h : HP} (B : CB c t n sl rs P h0 h) {N : HP → Nat → Prop} {d k m : Nat} {f : Nat → HP → Option (Unit × HP)} {j : Nat} (r : ∀ h0, Ret (f (hN h0) (nO d h0)) () (fun h' => Nw k N h' (hN h0) ∧ hN h' = hN h0 + k ∧ hL h' = hL h0 + m ∧ Sm (hN h0) h0 h')) (kk : ∀ h', CB c t (n + k) (sl + m) ((j, n) :: rs) (fun g => P g ∧ N g n) h0 h' → Ret (G h') w Q) : Ret (ob (mkO d h) fun x h5 => ob (f x h5) fun _ h9 => (pR c j t x h9).bind G) w Q := by
  have hn := B.1.2.1
  have hl := B.1.2.2.1
  show Ret (ob (f (hN h) (nO d h)) fun _ h9 => (pR c j t (hN h) h9).bind G) w Q
  refine (r h).call fun h9 q => ?_
  rw [hn] at q ⊢
  rw [hl] at q
  exact B.ref q kk
theorem CB.arr {ρ : Type} {G : HP → Option (ρ × HP)} {w : ρ} {Q : HP → Prop} {c t n sl : Nat} {rs : List (Nat × Nat)} {P : HP → Prop} {h0 h : HP} (B : CB c t n sl rs P h0 h) {j d z : Nat} {u : Int32} (hu : u = nI z) (hz : z ≤ 4096) (kk : ∀ h', CB c t (n + 1) (sl + z) ((j, n) :: rs) (fun g => P g ∧ hS g n = (d, z) ∧ ∀ i, hI g n i = 0) h0 h' → Ret (G h') w Q) : Ret (ob (mkA d u h) fun x hx => (pR c j t x hx).bind G) w Q := by
  subst hu
  have hn := B.1.2.1
  have hl := B.1.2.2.1
  unfold mkA
  have e9 : (nI z).toNatClampNeg = z := tcN (by omega)
  rw [if_pos ⟨by rw [Int32.lt_iff_toInt_lt, nI_toInt (by omega), show (0 : Int32).toInt = 0 from rfl]; omega, by rw [e9]; exact hz⟩, e9, ob_ok]
  have s1 : hS (nw h d z z) (hN h) = (d, z) := upA_s _ _ _
  have s2 : hI (nw h d z z) (hN h) = fun _ => 0 := upA_s _ _ _
  have n1 : ∀ q, q < hN h → E4 h (nw h d z z) q := fun q hq => ⟨upA_n _ _ (Nat.ne_of_lt hq), upA_n _ _ (Nat.ne_of_lt hq), upA_n _ _ (Nat.ne_of_lt hq), upA_n _ _ (Nat.ne_of_lt hq)⟩
  have q : Nw 1 (fun g a => hS g a = (d, z) ∧ ∀ i, hI g a i = 0) (nw h d z z) (hN h) ∧ hN (nw h d z z) = hN h + 1 ∧ hL (nw h d z z) = hL h + z ∧ Sm (hN h) h (nw h d z z) :=
    ⟨fun g e _ => ⟨by rw [(e _ (by omega) (by omega)).1]; exact s1, fun i => by rw [(e _ (by omega) (by omega)).2.2.1, s2]⟩, rfl, rfl, n1⟩
  rw [hn] at q ⊢
  rw [hl] at q
  exact B.ref q kk
theorem c1_init (h0 : HP) : Ret (f_X1_init (hN h0) (nO 1 h0)) () (fun h' => Nw 13 (fun g a => OutI g a) h' (hN h0) ∧ hN h' = hN h0 + 13 ∧ hL h' = hL h0 + 178 ∧ Sm (hN h0) h0 h') := by
  unfold f_X1_init
  refine (CB.new 1 h0).obj (f := f_X0_init) c0_init fun h1 B1 => ?_
  refine B1.arr (z := 6) rfl (by decide) fun h2 B2 => ?_
  obtain ⟨⟨b1, b2, b3, b4, b5, b6⟩, b7, b8⟩ := B2
  refine Ret.mk ⟨fun g e hn => ?_, b2, by rw [b3]; rfl, b8⟩
  obtain ⟨⟨-, p1, p2⟩, p3, p4⟩ := b7 g (fun q h1 h2 => e q (by omega) (by omega)) (by omega)
  exact ⟨b4.mv (e _ (by omega) (by omega)) (by omega), by rw [(e _ (by omega) (by omega)).2.1, b6]; rfl, by rw [(e _ (by omega) (by omega)).2.1, b6]; rfl, p1, ⟨by omega, p3⟩⟩
