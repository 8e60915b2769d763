/-! THE REFERENCE: a new model; the models that there are; thoughts -/
def asR : List (Nat × Nat × Nat) := [(32, 7, 9), (31, 7, 9), (30, 7, 8), (29, 7, 6), (28, 7, 8), (27, 7, 4), (26, 7, 48), (25, 7, 48), (24, 7, 6), (23, 7, 6), (22, 7, 6), (21, 7, 8), (20, 7, 8), (19, 7, 8), (18, 7, 8), (17, 7, 8), (16, 7, 8), (15, 7, 250), (14, 7, 8), (13, 8, 40), (4, 10, 8), (5, 8, 40), (6, 8, 40), (7, 8, 40), (8, 8, 40), (9, 8, 40), (10, 8, 40), (11, 8, 40), (12, 8, 40), (3, 7, 8), (2, 7, 8), (1, 7, 8)]
def rsR : List (Nat × Nat) := [(40, 32), (39, 31), (38, 30), (37, 29), (35, 28), (33, 27), (23, 26), (22, 25), (21, 24), (20, 23), (19, 22), (18, 21), (17, 20), (16, 19), (15, 18), (14, 17), (8, 16), (6, 15), (5, 14), (4, 13), (3, 4), (2, 3), (1, 2), (0, 1)]
theorem asR_md : ∀ q, q ∈ mdF → (q.2.1, 7, q.2.2) ∈ asR ∧ rsR.lookup q.1 = some q.2.1 := by decide
theorem asR_rw : ∀ i, i < 8 → (5 + i, 8, 40) ∈ asR := by decide
theorem asR_all : ∀ q, q < 33 → 0 < q → ∃ r, r ∈ asR ∧ r.1 = q := by decide
theorem rsR_no : ∀ j, j < 28 → 24 < j → rsR.lookup j = none := by decide
def gR0 : Nat → Int32 := upd (upd (fun _ => 0) 9 3) 24 1
/-- a new model at t -/
def NwR (t : Nat) (h' : HP) : Prop := MdI h' t ∧ hI h' t = gR0 ∧ (∀ j, 24 < j → j < 28 → hR h' t j = none) ∧ (∀ q, 0 < q → q < 33 → (q ≠ 26 → ∀ i, hI h' (t + q) i = 0) ∧ ∀ i, hJ h' (t + q) i = 0)
theorem BI.md {t : Nat} {h0 h : HP} {g : Nat → Int32} {sl : Nat} (B : BI 6 t h0 asR rsR g 4 33 sl h) : MdI h t := by
  obtain ⟨⟨b1, b2, b3, b4, b5⟩, b6, b7, b8, b9⟩ := B
  have cell : ∀ q, q ∈ asR → t + q.1 < hN h ∧ hS h (t + q.1) = (q.2.1, q.2.2) := fun q hq => by
    obtain ⟨c1, c2, c3, c4, c5⟩ := b6 q hq
    exact ⟨by omega, c3⟩
  refine ⟨b4, fun q hq => ?_, by rw [b7]; rfl, (cell (4, 10, 8) (by decide)).1, (cell (4, 10, 8) (by decide)).2, fun i hi => ⟨?_, ?_⟩, by rw [b7]; rfl, cell (13, 8, 40) (by decide)⟩
  · obtain ⟨m1, m2⟩ := asR_md q hq
    exact ⟨cell _ m1, by rw [b7, m2]; rfl⟩
  · rw [(b8 (by decide)).2 i hi]
  · have := cell _ (asR_rw i hi)
    rw [show t + 5 + i = t + (5 + i) by omega]
    exact this
theorem r_init (h0 : HP) : Ret (f_X6_init (hN h0) (nO 6 h0)) () (fun h' => NwR (hN h0) h' ∧ hN h' = hN h0 + 33 ∧ hL h' = hL h0 + 897 ∧ Sm (hN h0) h0 h') := by
  unfold f_X6_init
  refine (BI.new 6 h0).arr (n := 8) rfl (by decide) fun h1 B1 => ?_
  refine B1.arr (n := 8) rfl (by decide) fun h2 B2 => ?_
  refine B2.arr (n := 8) rfl (by decide) fun h3 B3 => ?_
  refine B3.mat fun h4 B4 => ?_
  refine B4.arr (n := 40) rfl (by decide) fun h5 B5 => ?_
  refine B5.arr (n := 8) rfl (by decide) fun h6 B6 => ?_
  refine B6.arr (n := 250) rfl (by decide) fun h7 B7 => ?_
  refine B7.arr (n := 8) rfl (by decide) fun h8 B8 => ?_
  refine B8.num fun h9 B9 => ?_
  refine B9.arr (n := 8) rfl (by decide) fun h10 B10 => ?_
  refine B10.arr (n := 8) rfl (by decide) fun h11 B11 => ?_
  refine B11.arr (n := 8) rfl (by decide) fun h12 B12 => ?_
  refine B12.arr (n := 8) rfl (by decide) fun h13 B13 => ?_
  refine B13.arr (n := 8) rfl (by decide) fun h14 B14 => ?_
  refine B14.arr (n := 6) rfl (by decide) fun h15 B15 => ?_
  refine B15.arr (n := 6) rfl (by decide) fun h16 B16 => ?_
  refine B16.arr (n := 6) rfl (by decide) fun h17 B17 => ?_
  refine B17.arr (n := 48) rfl (by decide) fun h18 B18 => ?_
  refine B18.arr (n := 48) rfl (by decide) fun h19 B19 => ?_
  refine B19.num fun h20 B20 => ?_
  refine B20.arr (n := 4) rfl (by decide) fun h21 B21 => ?_
  refine B21.arr (n := 8) rfl (by decide) fun h22 B22 => ?_
  refine B22.arr (n := 6) rfl (by decide) fun h23 B23 => ?_
  refine B23.arr (n := 8) rfl (by decide) fun h24 B24 => ?_
  refine B24.arr (n := 9) rfl (by decide) fun h25 B25 => ?_
  refine B25.arr (n := 9) rfl (by decide) fun h26 B26 => ?_
  have B : BI 6 (hN h0) h0 asR rsR gR0 4 33 _ h26 := B26
  have M := B.md
  obtain ⟨⟨b1, b2, b3, b4, b5⟩, b6, b7, b8, b9⟩ := B
  refine Ret.loop (lp := lp_X6_init_212 (hN h0) _) (fun i q => Fr (hN h0 + 26) 1 h26 q) 48 (by decide) (Fr.rf _ _ _) ?_ ?_
  · rintro k i q hi F kk
    have Mq := F.Md M
    show Ret (lb_X6_init_212 _ _ _ _ q) _ _
    unfold lb_X6_init_212
    rw [if_neg (show ¬ ((48 : Int32) ≤ nI i) from leN hi (by decide)), Mq.rk 9 (by decide) rfl rfl, bd_ok, sI_ok (Mq.ak 9 (by decide) (b := hN h0 + 26) rfl rfl) hi (by decide), bd_ok, nI1]
    exact kk _ (F.tr (Fr.w (by omega) (by omega)))
  · rintro k q F
    show Ret (lb_X6_init_212 _ _ _ _ q) _ _
    unfold lb_X6_init_212
    rw [if_pos (show ((48 : Int32) ≤ nI 48) by decide)]
    refine Ret.mk ⟨⟨F.Md M, ?_, fun j h1 h2 => ?_, fun z h1 h2 => ?_⟩, ?_, ?_, fun z hz => ?_⟩
    · rw [F.2.2.2.2.2 _ (by omega)]
      exact b5
    · rw [F.2.2.2.1, b7, rsR_no j h2 h1]
      rfl
    · obtain ⟨r, hr, rfl⟩ := asR_all z h2 h1
      obtain ⟨c1, c2, c3, c4, c5⟩ := b6 r hr
      exact ⟨fun h26 i => by rw [F.2.2.2.2.2 _ (by omega)]; exact c4 i, fun i => by rw [F.2.2.2.2.1]; exact c5 i⟩
    · rw [F.1]
      exact b1
    · rw [F.2.1]
      exact b3
    · have := b9 z hz
      exact ⟨by rw [F.2.2.1]; exact this.1, by rw [F.2.2.2.1]; exact this.2.1, by rw [F.2.2.2.2.2 _ (by omega)]; exact this.2.2.1, by rw [F.2.2.2.2.1]; exact this.2.2.2⟩
/-! the world: the isle, what was kept, the tape, the shelves, the refusals -/
abbrev Wd : Type := St × Option St × ((Nat → Nat) × Nat) × (Nat → Sh) × (Nat → Int32)
def wX (w : Wd) : St := w.1
def wK (w : Wd) : Option St := w.2.1
def wT (w : Wd) : Nat → Nat := w.2.2.1.1
def wZ (w : Wd) : Nat := w.2.2.1.2
def wS (w : Wd) : Nat → Sh := w.2.2.2.1
def wC (w : Wd) : Nat → Int32 := w.2.2.2.2
def OkW (w : Wd) : Prop := Ok (wX w) ∧ (∀ y, wK w = some y → Ok y) ∧ (∀ s, s < 8 → ShOk (sP (wX w)) (wS w s)) ∧ wZ w ≤ 250 ∧ ∀ i, wT w i < 256
/-- a shelf of the reference -/
def ShR (h : HP) (m s : Nat) (q : Sh) : Prop := hI h (m + 1) s = nI q.1 ∧ (q.1 = 1 → hI h (m + 2) s = nI q.2.1 ∧ hI h (m + 3) s = nI q.2.2.1 ∧ ∀ i, i < 40 → hJ h (m + 5 + s) i = q.2.2.2 i) ∧ (q.1 = 2 → hI h (m + 14) s = nI q.2.1)
def oc (o : Option Nat) : Nat := match o with
  | none => 0
  | some _ => 1
/-- c models, one behind the other from m on; which is kept (0), tried (1), thought of (2) -/
def RI (h : HP) (m c : Nat) (f : Nat → Option Nat) : Prop := hN h = m + 33 * c ∧ hL h ≤ 10000 + 897 * c ∧ MdI h m ∧ (∀ j, 0 < j → j < c → MdI h (m + 33 * j)) ∧ (∀ k, k < 3 → hR h m (25 + k) = (f k).map (fun j => m + 33 * j)) ∧ (∀ k, k < 3 → ∀ j, f k = some j → 0 < j ∧ j < c) ∧ (∀ k, k < 3 → ∀ l, l < 3 → ∀ j, f k = some j → f l = some j → k = l) ∧ c = 1 + oc (f 0) + oc (f 1) + oc (f 2)
def RW (h : HP) (m : Nat) (f : Nat → Option Nat) (w : Wd) : Prop := VR h m (wX w) ∧ (wK w = none → f 0 = none) ∧ (∀ y, wK w = some y → ∃ j, f 0 = some j ∧ VR h (m + 33 * j) y) ∧ TpI h (m + 15) (wT w) (wZ w) ∧ hI h m 7 = nI (wZ w) ∧ (∀ s, s < 8 → ShR h m s (wS w s)) ∧ ∀ i, i < 5 → hI h (m + 16) (2 + i) = wC w i
def RR (h : HP) (m : Nat) (w : Wd) : Prop := ∃ c f, RI h m c f ∧ RW h m f w
def RT (h : HP) (m k : Nat) (w : Wd) : Prop := ∃ c f j, RI h m c f ∧ RW h m f w ∧ f 2 = some j ∧ k = m + 33 * j
theorem oc_le (o : Option Nat) : oc o ≤ 1 := by
  cases o with
  | none => exact Nat.zero_le _
  | some k => exact Nat.le_refl _
theorem RI.c4 {h : HP} {m c : Nat} {f : Nat → Option Nat} (R : RI h m c f) : c ≤ 4 ∧ 1 ≤ c := by
  obtain ⟨-, -, -, -, -, -, -, e⟩ := R
  have := oc_le (f 0)
  have := oc_le (f 1)
  have := oc_le (f 2)
  omega
theorem RR.md {h : HP} {m : Nat} {w : Wd} (R : RR h m w) : MdI h m := by
  obtain ⟨c, f, R1, -⟩ := R
  exact R1.2.2.1
theorem RR.v {h : HP} {m : Nat} {w : Wd} (R : RR h m w) : VR h m (wX w) := by
  obtain ⟨c, f, -, R2⟩ := R
  exact R2.1
theorem RT.R {h : HP} {m k : Nat} {w : Wd} (R : RT h m k w) : RR h m w := by
  obtain ⟨c, f, j, R1, R2, -⟩ := R
  exact ⟨c, f, R1, R2⟩
theorem RT.k {h : HP} {m k : Nat} {w : Wd} (R : RT h m k w) : m + 33 ≤ k ∧ MdI h k := by
  obtain ⟨c, f, j, R1, R2, e, rfl⟩ := R
  obtain ⟨r1, r2, r3, r4, r5, r6, r7, r8⟩ := R1
  have := r6 2 (by decide) j e
  exact ⟨by omega, r4 j this.1 this.2⟩
theorem RI.fr {h h' : HP} {m c a n : Nat} {f : Nat → Option Nat} (R : RI h m c f) (F : Fr a n h h') : RI h' m c f := by
  obtain ⟨r1, r2, r3, r4, r5, r6, r7, r8⟩ := R
  exact ⟨by rw [F.1]; exact r1, by rw [F.2.1]; exact r2, F.Md r3, fun j h1 h2 => F.Md (r4 j h1 h2), fun k hk => by rw [F.2.2.2.1]; exact r5 k hk, r6, r7, r8⟩
/-- the main model's cells, and the kept one's, are as they were -/
theorem RW.keep {h h' : HP} {m c : Nat} {f f' : Nat → Option Nat} {w : Wd} (R1 : RI h m c f) (R : RW h m f w) (e0 : f' 0 = f 0) (hi : ∀ q, (m ≤ q ∧ q < m + 33) ∨ (∃ j, f 0 = some j ∧ m + 33 * j ≤ q ∧ q < m + 33 * j + 33) → hI h' q = hI h q ∧ hJ h' q = hJ h q) : RW h' m f' w := by
  obtain ⟨v1, v2, v3, v4, v5, v6, v7⟩ := R
  have vg : ∀ {b : Nat} {x : St}, (∀ q, b ≤ q → q < b + 33 → hI h' q = hI h q) → VR h b x → VR h' b x := by
    intro b x e V
    obtain ⟨g1, g2, g3, g4, g5, g6, g7, g8⟩ := V
    have eb := e b (by omega) (by omega)
    exact ⟨by rw [eb]; exact g1, by rw [eb]; exact g2, by rw [eb]; exact g3, by rw [eb]; exact g4, by rw [eb]; exact g5, by rw [eb]; exact g6, fun k hk i hi => by rw [e _ (by omega) (by omega)]; exact g7 k hk i hi, fun p hp s hs => by rw [e _ (by omega) (by omega)]; exact g8 p hp s hs⟩
  have em : ∀ q, m ≤ q → q < m + 33 → hI h' q = hI h q ∧ hJ h' q = hJ h q := fun q h1 h2 => hi q (Or.inl ⟨h1, h2⟩)
  refine ⟨vg (fun q h1 h2 => (em q h1 h2).1) v1, fun e => e0.trans (v2 e), fun y hy => ?_, ⟨v4.1, v4.2.1, fun i hh => by rw [(em (m + 15) (by omega) (by omega)).1]; exact v4.2.2 i hh⟩, by rw [(em m (by omega) (by omega)).1]; exact v5, fun s hs => ?_, fun i hh => by rw [(em (m + 16) (by omega) (by omega)).1]; exact v7 i hh⟩
  · obtain ⟨j, h1, h2⟩ := v3 y hy
    exact ⟨j, e0.trans h1, vg (fun q g1 g2 => (hi q (Or.inr ⟨j, h1, g1, g2⟩)).1) h2⟩
  · obtain ⟨s1, s2, s3⟩ := v6 s hs
    refine ⟨by rw [(em (m + 1) (by omega) (by omega)).1]; exact s1, fun e => ?_, fun e => by rw [(em (m + 14) (by omega) (by omega)).1]; exact s3 e⟩
    obtain ⟨t1, t2, t3⟩ := s2 e
    exact ⟨by rw [(em (m + 2) (by omega) (by omega)).1]; exact t1, by rw [(em (m + 3) (by omega) (by omega)).1]; exact t2, fun i hh => by rw [(em (m + 5 + s) (by omega) (by omega)).2]; exact t3 i hh⟩
/-- nothing ahead, and no number of the main model's changed -/
def Su (m : Nat) (h h' : HP) : Prop := Sm m h h' ∧ ∀ q, q < m + 33 → hI h' q = hI h q
theorem Su.rf (m : Nat) (h : HP) : Su m h h := ⟨Sm.rf _ _, fun _ _ => rfl⟩
theorem Su.tr {m : Nat} {h h1 h2 : HP} (f : Su m h h1) (g : Su m h1 h2) : Su m h h2 := ⟨f.1.tr g.1, fun q hq => (g.2 q hq).trans (f.2 q hq)⟩
theorem RT.fr {h h' : HP} {m k : Nat} {w : Wd} (R : RT h m k w) (F : Fr k 33 h h') : RT h' m k w ∧ Su m h h' := by
  have hk := R.k.1
  obtain ⟨c, f, j, R1, R2, e, rfl⟩ := R
  have R1' := R1
  obtain ⟨r1, r2, r3, r4, r5, r6, r7, r8⟩ := R1
  refine ⟨⟨c, f, j, R1'.fr F, R2.keep R1' rfl (fun q hq => ⟨F.2.2.2.2.2 q ?_, by rw [F.2.2.2.2.1]⟩), e, rfl⟩, fun q hq => ⟨by rw [F.2.2.1], by rw [F.2.2.2.1], F.2.2.2.2.2 q (by omega), by rw [F.2.2.2.2.1]⟩, fun q hq => F.2.2.2.2.2 q (by omega)⟩
  rcases hq with hq | ⟨j0, h0, h1, h2⟩
  · omega
  · have : j0 ≠ j := fun e2 => by
      rw [e2] at h0
      have := r7 0 (by decide) 2 (by decide) j h0 e
      omega
    rcases Nat.lt_or_gt_of_ne this with g | g
    · omega
    · omega
/-- one model more -/
theorem r_lazy {ρ : Type} {G : HP → Option (ρ × HP)} {v : ρ} {Q : HP → Prop} {h : HP} {m c : Nat} {f : Nat → Option Nat} (R : RI h m c f) {i : Nat} (hi : i < 3) (hf : f i = none) {j : Nat} (hj : 25 + i = j)
    (kk : ∀ h', RI h' m (c + 1) (fun k => if k = i then some c else f k) → hN h' = hN h + 33 → (∀ q, q < m + 33 * c → hS h' q = hS h q ∧ hI h' q = hI h q ∧ hJ h' q = hJ h q ∧ (q ≠ m → hR h' q = hR h q)) → (∀ k, k ≠ j → hR h' m k = hR h m k) → Ret (G h') v Q) : Ret (ob (mkO 6 h) fun x8 h8 => ob (f_X6_init x8 h8) fun _ h12 => (pR 6 j m x8 h12).bind G) v Q := by
  subst hj
  have hc := R.c4
  obtain ⟨r1, r2, r3, r4, r5, r6, r7, r8⟩ := R
  rw [show mkO 6 h = some (hN h, nO 6 h) from rfl, ob_ok]
  refine (r_init h).call fun h1 ⟨⟨n1, n2, n3, n4⟩, e1, e2, S⟩ => ?_
  have om : OA 6 h1 m := ⟨by rw [e1]; have := r3.1.1; omega, by rw [(S m (by omega)).1]; exact r3.1.2⟩
  unfold pR
  rw [if_pos om.o, bd_ok]
  have eR : ∀ k, k ≠ 25 + i → hR (wR h1 m (upA (hR h1 m) (25 + i) (some (hN h)))) m k = hR h m k := fun k hk => by
    rw [hR_w]
    show (if k = 25 + i then _ else hR h1 m k) = _
    rw [if_neg hk, (S m (by omega)).2.1]
  have keepM : ∀ b, b + 33 ≤ m + 33 * c → m ≤ b → MdI h b → MdI (wR h1 m (upA (hR h1 m) (25 + i) (some (hN h)))) b := fun b hb hb2 M => by
    refine M.keep (by show hN h ≤ hN h1; omega) (fun q g1 g2 => (S q (by omega)).1) ?_ (fun j hj => ?_)
    · rw [hR_wn _ _ (by omega)]
      exact (S _ (by omega)).2.1
    · by_cases e : b = m
      · subst e
        exact eR j (by omega)
      · rw [hR_wn _ _ e, (S b (by omega)).2.1]
  refine kk _ ⟨by show hN h1 = _; omega, by show hL h1 ≤ _; omega, keepM m (by omega) (Nat.le_refl _) r3, fun j h1' h2 => ?_, fun k hk => ?_, fun k hk j hj => ?_, fun k hk l hl j hkj hlj => ?_, ?_⟩ e1 (fun q hq => ⟨(S q (by omega)).1, (S q (by omega)).2.2.1, (S q (by omega)).2.2.2, fun hqm => by rw [hR_wn _ _ hqm]; exact (S q (by omega)).2.1⟩) (fun k hk => eR k hk)
  · by_cases e : j = c
    · subst e
      rw [← r1]
      refine n1.keep (Nat.le_refl _) (fun q _ _ => rfl) (by rw [hR_wn _ _ (by omega)]) (fun j _ => by rw [hR_wn _ _ (by omega)])
    · exact keepM _ (by omega) (by omega) (r4 j h1' (by omega))
  · by_cases e : k = i
    · subst e
      dsimp only
      rw [hR_w, if_pos rfl, upA_s, r1]
      rfl
    · dsimp only
      rw [if_neg e, eR _ (by omega)]
      exact r5 k hk
  · dsimp only at hj
    by_cases e : k = i
    · rw [if_pos e] at hj
      cases hj
      omega
    · rw [if_neg e] at hj
      have := r6 k hk j hj
      omega
  · dsimp only at hkj hlj
    by_cases e : k = i
    · rw [if_pos e] at hkj
      cases hkj
      by_cases e2 : l = i
      · omega
      · rw [if_neg e2] at hlj
        have := r6 l hl _ hlj
        omega
    · rw [if_neg e] at hkj
      by_cases e2 : l = i
      · rw [if_pos e2] at hlj
        cases hlj
        have := r6 k hk _ hkj
        omega
      · rw [if_neg e2] at hlj
        exact r7 k hk l hl j hkj hlj
  · have hi3 : i = 0 ∨ i = 1 ∨ i = 2 := by omega
    rcases hi3 with rfl | rfl | rfl
    · rw [hf] at r8
      show c + 1 = 1 + oc (some c) + oc (f 1) + oc (f 2)
      have : oc none = 0 := rfl
      have : oc (some c) = 1 := rfl
      omega
    · rw [hf] at r8
      show c + 1 = 1 + oc (f 0) + oc (some c) + oc (f 2)
      have : oc none = 0 := rfl
      have : oc (some c) = 1 := rfl
      omega
    · rw [hf] at r8
      show c + 1 = 1 + oc (f 0) + oc (f 1) + oc (some c)
      have : oc none = 0 := rfl
      have : oc (some c) = 1 := rfl
      omega
theorem gN_ok {c k : Nat} {h : HP} {b : Nat} (H : OA c h b) : gN c k b h = some (hR h b k) := by unfold gN; rw [if_pos H.o]
theorem r_thought {h : HP} {m : Nat} {w : Wd} (O : OkW w) (R : RR h m w) : ∃ k, Ret (f_X6_thought m h) k (fun h' => RT h' m k w ∧ VR h' k (wX w) ∧ Su m h h') := by
  obtain ⟨c, f, R1, R2⟩ := R
  have hm := R1.2.2.1
  have hc := R1.c4
  have e27 := R1.2.2.2.2.1 2 (by decide)
  have fin : ∀ {h1 : HP} {c1 : Nat} {f1 : Nat → Option Nat} {j : Nat}, RI h1 m c1 f1 → RW h1 m f1 w → f1 2 = some j → Su m h h1 → Ret ((gR 6 27 m h1).bind fun x19 => ob (inv 6 x19 h1 (f_X6_takeFrom x19 m h1)) fun _ h23 => (gR 6 27 m h23).bind fun x27 => some (x27, h23)) (m + 33 * j) (fun h' => RT h' m (m + 33 * j) w ∧ VR h' (m + 33 * j) (wX w) ∧ Su m h h') := by
    intro h1 c1 f1 j R1 R2 hj S
    have e27 := R1.2.2.2.2.1 2 (by decide)
    rw [hj] at e27
    have e27 : hR h1 m 27 = some (m + 33 * j) := e27
    have hj2 := R1.2.2.2.2.2.1 2 (by decide) j hj
    have Mj := R1.2.2.2.1 j hj2.1 hj2.2
    rw [gR_ok R1.2.2.1.1 e27, bd_ok]
    refine Ret.icall Mj.1 (r_take Mj R1.2.2.1 O.1 R2.1 (by omega)) fun h2 ⟨F, V⟩ => ?_
    have T : RT h1 m (m + 33 * j) w := ⟨c1, f1, j, R1, R2, hj, rfl⟩
    obtain ⟨T2, S2⟩ := T.fr F.1
    have := T2
    obtain ⟨c2, f2, j2, Q1, Q2, hj3, e3⟩ := this
    have : j2 = j := by omega
    subst this
    have e27 := Q1.2.2.2.2.1 2 (by decide)
    rw [hj3] at e27
    have e27 : hR h2 m 27 = some (m + 33 * j2) := e27
    rw [gR_ok Q1.2.2.1.1 e27, bd_ok]
    exact Ret.mk ⟨T2, V, S.tr S2⟩
  unfold f_X6_thought
  rw [gN_ok hm.1, bd_ok, show (27 : Nat) = 25 + 2 from rfl, e27]
  cases hf : f 2 with
  | none =>
    refine ⟨m + 33 * c, ?_⟩
    rw [if_pos (by rfl)]
    refine r_lazy R1 (i := 2) (by decide) hf rfl fun h1 Q1 e1 K1 K2 => ?_
    refine fin Q1 (R2.keep R1 (by rfl) (fun q hq => ?_)) rfl ⟨fun q hq => ⟨(K1 q (by omega)).1, (K1 q (by omega)).2.2.2 (by omega), (K1 q (by omega)).2.1, (K1 q (by omega)).2.2.1⟩, fun q hq => (K1 q (by omega)).2.1⟩
    have : q < m + 33 * c := by
      rcases hq with hq | ⟨j, h0, h1, h2⟩
      · omega
      · have := R1.2.2.2.2.2.1 0 (by decide) j h0
        omega
    exact ⟨(K1 q this).2.1, (K1 q this).2.2.1⟩
  | some j =>
    refine ⟨m + 33 * j, ?_⟩
    rw [if_neg (by simp)]
    exact fin R1 R2 hf (Su.rf _ _)
section REF4
variable {h : HP} {m : Nat} {x : St}
theorem r_runs (H : MdI h m) (O : Ok x) (V : VR h m x) {s : Nat} (hs : s < sS x) : Ret (f_X6_runsOut m (nI s) h) (nI (loss x s)) (fun h' => Fr m 33 h h' ∧ (0 < loss x s → hI h' m 36 = nI (havN (yN x (loss x s - 1)) s))) := by
  have hS := O.2.1
  have hs7 : s < ln 7 := by show s < 6; omega
  have en : ∀ {n : Nat} {h1 : HP}, n ≤ 61 → Fr m 33 h h1 → VR h1 m (yN x n) → (∀ j, j < n → ¬ lsP x s j = true) → (0 < n → hI h1 m 36 = nI (havN (yN x (n - 1)) s)) → (n < 61 → lsP x s n = true) → Ret ((gR 6 21 m h1).bind fun x38 => (lI x38 (nI s) h1).bind fun x42 => if x42 = 0 then some ((61 : Int32), h1) else if nI n ≤ 60 then some (nI n, h1) else some (61, h1)) (nI (loss x s)) (fun h' => Fr m 33 h h' ∧ (0 < loss x s → hI h' m 36 = nI (havN (yN x (loss x s - 1)) s))) := by
    intro n h1 hn F V1 hno hhad hyes
    have H1 := F.Md H
    have el : loss x s = n := fstN_is hn hno hyes
    have b7 : sA (yN x n) 7 s < 3 := (Ok_yN O n).b 7 s (by decide) hs7
    rw [el, H1.rk 7 (by decide) rfl rfl, bd_ok, R_ld H1 V1 7 (by decide) hs7 rfl, bd_ok]
    by_cases g : n = 61
    · subst g
      rw [if_neg (show ¬ nI 61 ≤ 60 by decide)]
      have : Ret (some ((61 : Int32), h1)) (nI 61) (fun h' => Fr m 33 h h' ∧ (0 < 61 → hI h' m 36 = nI (havN (yN x (61 - 1)) s))) := Ret.mk ⟨F, hhad⟩
      split <;> exact this
    · have := hyes (by omega)
      unfold lsP at this
      have h7 := of_decide_eq_true this
      rw [if_neg (show ¬ nI (sA (yN x n) 7 s) = 0 from eqN (m := 0) h7 (by decide) (by omega)), if_pos (show nI n ≤ 60 from leY (b := 60) (by omega) (by decide))]
      exact Ret.mk ⟨F, hhad⟩
  refine Ret.loop (lp := lp_X6_runsOut_2 m (nI s) _) (fun i q => Fr m 33 h q ∧ VR q m (yN x i) ∧ (∀ j, j < i → ¬ lsP x s j = true) ∧ (0 < i → hI q m 36 = nI (havN (yN x (i - 1)) s))) 61 (by omega) ⟨Fr.rf _ _ _, V, fun j hj => absurd hj (by omega), fun e => absurd e (by omega)⟩ ?_ ?_
  · rintro k i h1 hi ⟨F, V1, hno, hhad⟩ kk
    have H1 := F.Md H
    have O1 := Ok_yN O i
    have hs1 : s < sS (yN x i) := by rw [sS_yN]; exact hs
    have b7 : sA (yN x i) 7 s < 3 := O1.b 7 s (by decide) hs7
    show Ret (lb_X6_runsOut_2 m _ _ _ _ h1) _ _
    unfold lb_X6_runsOut_2
    rw [if_neg (show ¬ (60 : Int32) < nI i from ltN (m := 60) (by omega) (by decide)), H1.rk 7 (by decide) rfl rfl, bd_ok, R_ld H1 V1 7 (by decide) hs7 rfl, bd_ok, nI1 i]
    by_cases q : sA (yN x i) 7 s = 0
    · rw [if_pos (show nI (sA (yN x i) 7 s) = 0 by rw [q]; rfl), inv_ok H1.1, r_holdersOf H1 O1 V1 hs1, ob_ok, pI_pw H1.1, bd_ok]
      have F2 : Fr m 33 h1 (pw h1 m 36 (nI (havN (yN x i) s))) := Fr.pw (by omega) (by omega)
      have V2 : VR (pw h1 m 36 (nI (havN (yN x i) s))) m (yN x i) := VR_fld V1 (by decide)
      have p2 : hI (pw h1 m 36 (nI (havN (yN x i) s))) m 36 = nI (havN (yN x i) s) := pw_s _ _ _ _
      generalize pw h1 m 36 (nI (havN (yN x i) s)) = h2 at F2 V2 p2 ⊢
      have H2 := F2.Md H1
      refine Ret.icall H2.1 (r_passes H2 O1 V2) fun h3 ⟨F3, V3⟩ => kk h3 ⟨(F.tr F2).tr F3.1, V3, fun j hj => ?_, fun _ => ?_⟩
      · by_cases e : j = i
        · rw [e]
          unfold lsP
          simp [q]
        · exact hno j (by omega)
      · rw [F3.2.2 36 (by decide), p2]
        rfl
    · rw [if_neg (show ¬ nI (sA (yN x i) 7 s) = 0 from eqN (m := 0) q (by decide) (by omega))]
      exact en (by omega) F V1 hno hhad (fun _ => by unfold lsP; simp [q])
  · rintro k h1 ⟨F, V1, hno, hhad⟩
    show Ret (lb_X6_runsOut_2 m _ _ _ _ h1) _ _
    unfold lb_X6_runsOut_2
    rw [if_pos (show (60 : Int32) < nI 61 by decide)]
    exact en (Nat.le_refl _) F V1 hno hhad (fun q => absurd q (by omega))
end REF4
/-- a thought's end -/
theorem r_lostNow {h : HP} {m : Nat} {w : Wd} (O : OkW w) (R : RR h m w) {s : Nat} (hs : s < sS (wX w)) : Ret (f_X6_lostNow m (nI s) h) (nI (loss (wX w) s)) (fun h' => ∃ k, RT h' m k w ∧ Su m h h' ∧ hR h' m 27 = some k ∧ (0 < loss (wX w) s → hI h' k 36 = nI (havN (yN (wX w) (loss (wX w) s - 1)) s))) := by
  obtain ⟨k, rt⟩ := r_thought O R
  unfold f_X6_lostNow
  refine Ret.icall R.md.1 rt fun h1 ⟨T1, V1, S1⟩ => ?_
  refine Ret.icall T1.k.2.1 (r_runs T1.k.2 O.1 V1 hs) fun h2 ⟨F2, p2⟩ => ?_
  obtain ⟨T2, S2⟩ := T1.fr F2
  refine Ret.mk ⟨k, T2, S1.tr S2, ?_, p2⟩
  obtain ⟨c, f, j, Q1, Q2, hj, rfl⟩ := T2
  have e27 := Q1.2.2.2.2.1 2 (by decide)
  rw [hj] at e27
  exact e27
