/-! THE REFERENCE: statements, the tape -/
def stP (m n : Nat) (T : Nat → Nat) (h h' : HP) (w : Nat ⊕ (St × Nat)) : Prop := Fz m h h' ∧ (∀ p, w = .inl p → hI h' m 32 = nI p) ∧ ∀ q, w = .inr q → RZ h' m T n q.2 ∧ VR h' m q.1
theorem stP_l {m n : Nat} {T : Nat → Nat} {h h' : HP} {p : Nat} (F : Fz m h h') (e : hI h' m 32 = nI p) : stP m n T h h' (.inl p) := ⟨F, fun p' h => by obtain rfl := Sum.inl.inj h; exact e, fun q h => absurd h Sum.inl_ne_inr⟩
theorem stP_r {m n : Nat} {T : Nat → Nat} {h h' : HP} {q : St × Nat} (F : Fz m h h') (e : RZ h' m T n q.2) (V : VR h' m q.1) : stP m n T h h' (.inr q) := ⟨F, fun p h => absurd h Sum.inr_ne_inl, fun q' h => by obtain rfl := Sum.inr.inj h; exact ⟨e, V⟩⟩
theorem stB_rz {w : Nat ⊕ (St × Nat)} {h : HP} {Q : HP → Prop} (q : Q h) : Ret (rZ (stB w) h) (stB w) Q := by
  cases w with
  | inl p => exact Ret.rz0 q
  | inr p => exact Ret.rz1 q
theorem lit_ne : ∀ f, f < 10 → ∀ g, g < 10 → f ≠ g → litL f = litL g → ∃ i, i < litL f ∧ litC f i ≠ litC g i := by decide
theorem spl_one {T : Nat → Nat} {n e f g : Nat} (hf : f < 10) (hg : g < 10) (h1 : splB T n e f = true) (h2 : splB T n e g = true) : f = g := by
  have a := of_decide_eq_true h1
  have b := of_decide_eq_true h2
  apply Classical.byContradiction
  intro ne
  obtain ⟨i, hi, hne⟩ := lit_ne f hf g hg ne (a.2.1.symm.trans b.2.1)
  exact hne ((a.2.2 i hi).symm.trans (b.2.2 i (by have := a.2.1; have := b.2.1; omega)))
theorem hum1 : ∀ k, k < 8 → ∀ m, m < 256 → (nI m &&& (((1 : Int32) <<< (nI k &&& 31)) ^^^ (-1))) ||| ((1 : Int32) <<< (nI k &&& 31)) = nI (setb m k) := by decide +kernel
theorem hum0 : ∀ k, k < 8 → ∀ m, m < 256 → (nI m &&& (((1 : Int32) <<< (nI k &&& 31)) ^^^ (-1))) ||| ((0 : Int32) <<< (nI k &&& 31)) = nI (clrb m k) := by decide +kernel
def NS (m n e : Nat) (T : Nat → Nat) (x : St) (h h' : HP) (k : Nat) : Prop := Fz m h h' ∧ RZ h' m T n (psN T n e k) ∧ VR h' m x ∧ ∀ j, j < k → hI h' (m + 27) j = nI (gvN T n e j)
section REF7
variable {h : HP} {m n e : Nat} {T : Nat → Nat} {x : St}
theorem n_step {α : Type} {G : Int32 → HP → Option (α × HP)} {v : α} {Q : HP → Prop} {h1 : HP} {k : Nat} (N : NS m n e T x h h1 k) (he : e ≤ n) (hk : k < 4) {w : Int32} (hw : w = nI k) {L : Nat} {u : Int32} (hu : u.toInt = (L : Int) - 1)
    (yes : tK T n (psN T n e k) = 2 → gvN T n e k < L → ∀ h2, NS m n e T x h h2 (k + 1) → Ret (G 1 h2) v Q)
    (no : ¬ (tK T n (psN T n e k) = 2 ∧ gvN T n e k < L) → ∀ h2, Fz m h h2 → hI h2 m 32 = nI (tS T n (psN T n e k)) → Ret (G 0 h2) v Q) : Ret (ob (inv 6 m h1 (f_X6_number m w 0 u h1)) G) v Q := by
  obtain ⟨F, R, V, hg⟩ := N
  have hp := psN_le T he k
  by_cases g : tK T n (psN T n e k) = 2 ∧ gvN T n e k < L
  · refine Ret.icall R.1.1 (r_numY R V hp.1 hk hu g.1 g.2 hw) fun h2 ⟨F2, R2, V2, e2, e3⟩ => yes g.1 g.2 h2 ⟨F.tr F2, R2, V2, fun j hj => ?_⟩
    by_cases ee : j = k
    · rw [ee]; exact e2
    · rw [e3 j ee]; exact hg j (by omega)
  · exact Ret.icall R.1.1 (r_numN R hu g) fun h2 ⟨F2, e2⟩ => no g h2 (F.tr F2) e2
theorem t_step {α : Type} {G : Int32 → HP → Option (α × HP)} {v : α} {Q : HP → Prop} (R : RZ h m T n e) (V : VR h m x) (he : e ≤ n) {L : Nat} {u : Int32} (hu : u.toInt = (L : Int) - 1)
    (yes : tK T n (psN T n e 0) = 2 → gvN T n e 0 < L → ∀ h2, NS m n e T x h h2 1 → Ret (G 1 h2) v Q)
    (no : ¬ (tK T n (psN T n e 0) = 2 ∧ gvN T n e 0 < L) → ∀ h2, Fz m h h2 → hI h2 m 32 = nI (tS T n (psN T n e 0)) → Ret (G 0 h2) v Q) : Ret (ob (inv 6 m h (f_X6_tells m 0 u h)) G) v Q := by
  have L1 := r_look2 R V he
  obtain ⟨h1, e1, F1, R1, V1, -⟩ := L1
  have N : NS m n e T x h h1 0 := ⟨F1, R1, V1, fun j hj => absurd hj (by omega)⟩
  have e2 : f_X6_tells m 0 u h = ob (inv 6 m h1 (f_X6_number m 0 0 u h1)) fun x8 h8 => rZ x8 h8 := by
    unfold f_X6_tells
    rw [inv_ok R.1.1, e1, ob_ok]
  rw [inv_ok R.1.1, e2]
  have asc : ∀ (o : Option (Int32 × HP)), ob (ob o fun x8 h8 => rZ x8 h8) G = ob o (fun x8 h8 => ob (rZ x8 h8) G) := fun o => by cases o <;> rfl
  rw [asc]
  refine n_step N he (by decide) rfl hu (fun g1 g2 h2 N2 => ?_) (fun g h2 F2 e2 => ?_)
  · rw [rZ1, ob_ok]
    exact yes g1 g2 h2 N2
  · rw [rZ0, ob_ok]
    exact no g h2 F2 e2
theorem NS.l {h1 : HP} {k : Nat} (N : NS m n e T x h h1 k) {j : Nat} (hj : j < k) (h4 : j < 4) : lI (m + 27) (nI j) h1 = some (nI (gvN T n e j)) := by
  rw [lI_ok (N.2.1.1.a 33 27 4 (by decide) rfl) h4 (by decide), N.2.2.2 j hj]
theorem ok_y {f k L : Nat} (hL : lmN x f k = L) (g1 : tK T n (psN T n e k) = 2) (g2 : gvN T n e k < L) (g3 : ¬ ((f = 4 ∨ f = 5) ∧ k = 1 ∧ gvN T n e 1 = gvN T n e 0)) : okN T n x f e k = true := by
  subst hL
  exact decide_eq_true ⟨g1, g2, g3⟩
theorem ok_n {f k L : Nat} (hL : lmN x f k = L) (g : ¬ (tK T n (psN T n e k) = 2 ∧ gvN T n e k < L)) : ¬ okN T n x f e k = true := by
  subst hL
  intro q
  exact g ⟨(of_decide_eq_true q).1, (of_decide_eq_true q).2.1⟩
theorem r_tNewP (R : RZ h m T n e) (he : e ≤ n) (O : Ok x) (V : VR h m x) (hf : frm T n e = 0) (hr : sP x < 8) : Ret (f_X6_tellsNew m 1 h) (stB (stR T n x e)) (fun h' => stP m n T h h' (stR T n x e)) := by
  have rm : rmB x 0 = true := by unfold rmB; simp [hr]
  have no4 : ∀ k, ¬ ((0 = 4 ∨ 0 = 5) ∧ k = 1 ∧ gvN T n e 1 = gvN T n e 0) := fun k q => by omega
  have A := fun k hk h1 h2 => stR_A (T := T) (n := n) (x := x) (e := e) hf (by decide) rm (k := k) hk h1 h2
  unfold f_X6_tellsNew
  rw [if_neg (by decide)]
  refine t_step R V he (L := 6) rfl (fun g1 g2 h1 N1 => ?_) (fun g h1 F1 e1 => ?_)
  rotate_left
  · rw [if_pos rfl, A 0 (by decide) (fun j hj => absurd hj (by omega)) (ok_n rfl g)]
    exact Ret.rz0 (stP_l F1 e1)
  have o0 := ok_y (T := T) (n := n) (x := x) (e := e) (f := 0) (k := 0) rfl g1 g2 (no4 0)
  rw [if_neg (by decide)]
  refine n_step N1 he (by decide) rfl (L := 10) rfl (fun g1 g2 h2 N2 => ?_) (fun g h2 F2 e2 => ?_)
  rotate_left
  · rw [if_pos rfl, A 1 (by decide) (fun j hj => by rw [show j = 0 by omega]; exact o0) (ok_n rfl g)]
    exact Ret.rz0 (stP_l F2 e2)
  have o1 := ok_y (T := T) (n := n) (x := x) (e := e) (f := 0) (k := 1) rfl g1 g2 (no4 1)
  rw [if_neg (by decide)]
  refine n_step N2 he (by decide) rfl (L := 10) rfl (fun g1 g2 h3 N3 => ?_) (fun g h3 F3 e3 => ?_)
  rotate_left
  · rw [if_pos rfl, A 2 (by decide) (fun j hj => by
      have : j = 0 ∨ j = 1 := by omega
      rcases this with rfl | rfl
      · exact o0
      · exact o1) (ok_n rfl g)]
    exact Ret.rz0 (stP_l F3 e3)
  have o2 := ok_y (T := T) (n := n) (x := x) (e := e) (f := 0) (k := 2) rfl g1 g2 (no4 2)
  rw [if_neg (by decide)]
  refine n_step N3 he (by decide) rfl (L := 10) rfl (fun g1 g2 h4 N4 => ?_) (fun g h4 F4 e4 => ?_)
  rotate_left
  · rw [if_pos rfl, A 3 (by decide) (fun j hj => by
      have : j = 0 ∨ j = 1 ∨ j = 2 := by omega
      rcases this with rfl | rfl | rfl
      · exact o0
      · exact o1
      · exact o2) (ok_n rfl g)]
    exact Ret.rz0 (stP_l F4 e4)
  have o3 := ok_y (T := T) (n := n) (x := x) (e := e) (f := 0) (k := 3) rfl g1 g2 (no4 3)
  rw [if_neg (by decide), stR_B hf (by decide) rm (fun j hj => by
    have hj4 : j < 4 := hj
    have : j = 0 ∨ j = 1 ∨ j = 2 ∨ j = 3 := by omega
    rcases this with rfl | rfl | rfl | rfl
    · exact o0
    · exact o1
    · exact o2
    · exact o3)]
  have H4 := N4.2.1.1
  have r33 : gR 6 33 m h4 = some (m + 27) := H4.r 33 27 4 (by decide) rfl
  have l0 : lI (m + 27) 0 h4 = some (nI (gvN T n e 0)) := N4.l (j := 0) (by decide) (by decide)
  have l1 : lI (m + 27) 1 h4 = some (nI (gvN T n e 1)) := N4.l (j := 1) (by decide) (by decide)
  have l2 : lI (m + 27) 2 h4 = some (nI (gvN T n e 2)) := N4.l (j := 2) (by decide) (by decide)
  have l3 : lI (m + 27) 3 h4 = some (nI (gvN T n e 3)) := N4.l (j := 3) (by decide) (by decide)
  simp only [r33, l0, l1, l2, l3, Option.bind_some]
  refine Ret.icall H4.1 (r_addP H4 O N4.2.2.1 hr) fun h5 ⟨F5, V5⟩ => ?_
  have R4 := N4.2.1
  refine Ret.rz1 (stP_r (N4.1.tr F5.z) ⟨F5.Md H4, F5.z.1.Tp R4.2.1, by rw [F5.z.1.2.2]; exact R4.2.2.1, ?_⟩ V5)
  have ef : ∀ j, 27 < j → hI h5 m j = hI h4 m j := fun j hj => F5.2.2 j (fun k hk => by have := (φR_lt k hk).1; omega)
  exact ⟨by rw [ef 29 (by decide)]; exact R4.2.2.2.1, by rw [ef 30 (by decide)]; exact R4.2.2.2.2.1, by rw [ef 28 (by decide)]; exact R4.2.2.2.2.2.1, fun q => by rw [ef 31 (by decide)]; exact R4.2.2.2.2.2.2 q⟩
/-- the token stays where the isle changes -/
theorem Fk.RZ {h' : HP} (F : Fk m h h') (R : RZ h m T n e) : RZ h' m T n e := by
  have ef : ∀ j, 27 < j → hI h' m j = hI h m j := fun j hj => F.2.2 j (fun k hk => by have := (φR_lt k hk).1; omega)
  exact ⟨F.Md R.1, F.z.1.Tp R.2.1, by rw [F.z.1.2.2]; exact R.2.2.1, by rw [ef 29 (by decide)]; exact R.2.2.2.1, by rw [ef 30 (by decide)]; exact R.2.2.2.2.1, by rw [ef 28 (by decide)]; exact R.2.2.2.2.2.1, fun q => by rw [ef 31 (by decide)]; exact R.2.2.2.2.2.2 q⟩
theorem r_tNewS (R : RZ h m T n e) (he : e ≤ n) (O : Ok x) (V : VR h m x) (hf : frm T n e = 1) (hr : sS x < 6) : Ret (f_X6_tellsNew m 0 h) (stB (stR T n x e)) (fun h' => stP m n T h h' (stR T n x e)) := by
  have rm : rmB x 1 = true := by unfold rmB; simp [hr]
  have no4 : ∀ k, ¬ ((1 = 4 ∨ 1 = 5) ∧ k = 1 ∧ gvN T n e 1 = gvN T n e 0) := fun k q => by omega
  have A := fun k hk h1 h2 => stR_A (T := T) (n := n) (x := x) (e := e) hf (by decide) rm (k := k) hk h1 h2
  unfold f_X6_tellsNew
  rw [if_pos rfl]
  refine t_step R V he (L := 10) rfl (fun g1 g2 h1 N1 => ?_) (fun g h1 F1 e1 => ?_)
  rotate_left
  · rw [if_pos rfl, A 0 (by decide) (fun j hj => absurd hj (by omega)) (ok_n rfl g)]
    exact Ret.rz0 (stP_l F1 e1)
  have o0 := ok_y (T := T) (n := n) (x := x) (e := e) (f := 1) (k := 0) rfl g1 g2 (no4 0)
  rw [if_neg (by decide)]
  refine n_step N1 he (by decide) rfl (L := 5) rfl (fun g1 g2 h2 N2 => ?_) (fun g h2 F2 e2 => ?_)
  rotate_left
  · rw [if_pos rfl, A 1 (by decide) (fun j hj => by rw [show j = 0 by omega]; exact o0) (ok_n rfl g)]
    exact Ret.rz0 (stP_l F2 e2)
  have o1 := ok_y (T := T) (n := n) (x := x) (e := e) (f := 1) (k := 1) rfl g1 g2 (no4 1)
  rw [if_neg (by decide), stR_B hf (by decide) rm (fun j hj => by
    have hj4 : j < 2 := hj
    have : j = 0 ∨ j = 1 := by omega
    rcases this with rfl | rfl
    · exact o0
    · exact o1)]
  have H2 := N2.2.1.1
  have r33 : gR 6 33 m h2 = some (m + 27) := H2.r 33 27 4 (by decide) rfl
  have l0 : lI (m + 27) 0 h2 = some (nI (gvN T n e 0)) := N2.l (j := 0) (by decide) (by decide)
  have l1 : lI (m + 27) 1 h2 = some (nI (gvN T n e 1)) := N2.l (j := 1) (by decide) (by decide)
  simp only [r33, l0, l1, Option.bind_some]
  exact Ret.icall H2.1 (r_addS H2 O N2.2.2.1 hr) fun h5 ⟨F5, V5⟩ => Ret.rz1 (stP_r (N2.1.tr F5.z) (F5.RZ N2.2.1) V5)
theorem r_tHas {f c : Nat} (hfc : (f = 2 ∧ c = 1) ∨ (f = 3 ∧ c = 0)) (R : RZ h m T n e) (he : e ≤ n) (O : Ok x) (V : VR h m x) (hf : frm T n e = f) {u : Int32} (hu : u = hv c) : Ret (f_X6_tellsHas m u h) (stB (stR T n x e)) (fun h' => stP m n T h h' (stR T n x e)) := by
  have hP := O.1
  have hS := O.2.1
  have rm : rmB x f = true := by unfold rmB; rcases hfc with ⟨rfl, -⟩ | ⟨rfl, -⟩ <;> simp
  have no4 : ∀ k, ¬ ((f = 4 ∨ f = 5) ∧ k = 1 ∧ gvN T n e 1 = gvN T n e 0) := fun k q => by omega
  have A := fun k hk h1 h2 => stR_A (T := T) (n := n) (x := x) (e := e) hf (by omega) rm (k := k) hk h1 h2
  have w2 : wnt f = 2 := by rcases hfc with ⟨rfl, -⟩ | ⟨rfl, -⟩ <;> rfl
  have m0 : lmN x f 0 = sP x := by rcases hfc with ⟨rfl, -⟩ | ⟨rfl, -⟩ <;> rfl
  have m1 : lmN x f 1 = sS x := by rcases hfc with ⟨rfl, -⟩ | ⟨rfl, -⟩ <;> rfl
  have ap : apS x f (gvN T n e) = uA x 9 (gvN T n e 0 * 6 + gvN T n e 1) c := by rcases hfc with ⟨rfl, rfl⟩ | ⟨rfl, rfl⟩ <;> rfl
  unfold f_X6_tellsHas
  rw [V.gp R.1, bd_ok]
  refine t_step R V he (m1_toInt (by omega)) (fun g1 g2 h1 N1 => ?_) (fun g h1 F1 e1 => ?_)
  rotate_left
  · rw [if_pos rfl, A 0 (by omega) (fun j hj => absurd hj (by omega)) (ok_n m0 g)]
    exact Ret.rz0 (stP_l F1 e1)
  have o0 := ok_y (T := T) (n := n) (x := x) (e := e) m0 g1 g2 (no4 0)
  have gp := g2
  rw [if_neg (by decide), N1.2.2.1.gs N1.2.1.1, bd_ok]
  refine n_step N1 he (by decide) rfl (m1_toInt (by omega)) (fun g1 g2 h2 N2 => ?_) (fun g h2 F2 e2 => ?_)
  rotate_left
  · rw [if_pos rfl, A 1 (by omega) (fun j hj => by rw [show j = 0 by omega]; exact o0) (ok_n m1 g)]
    exact Ret.rz0 (stP_l F2 e2)
  have o1 := ok_y (T := T) (n := n) (x := x) (e := e) m1 g1 g2 (no4 1)
  rw [if_neg (by decide), stR_B hf (by omega) rm (fun j hj => by
    have : j = 0 ∨ j = 1 := by omega
    rcases this with rfl | rfl
    · exact o0
    · exact o1), ap, w2]
  have H2 := N2.2.1.1
  have r33 : gR 6 33 m h2 = some (m + 27) := H2.r 33 27 4 (by decide) rfl
  have r23 : gR 6 23 m h2 = some (m + 26) := H2.rk 9 (by decide) rfl rfl
  have l0 : lI (m + 27) 0 h2 = some (nI (gvN T n e 0)) := N2.l (j := 0) (by decide) (by decide)
  have l1 : lI (m + 27) 1 h2 = some (nI (gvN T n e 1)) := N2.l (j := 1) (by decide) (by decide)
  obtain ⟨h3, e3, H3, V3, F3⟩ := W_has H2 O N2.2.2.1 gp g2 hu
  simp only [r33, r23, l0, l1, e3, Option.bind_some]
  exact Ret.rz1 (stP_r (N2.1.tr F3.w33.z) (F3.w33.RZ N2.2.1) V3)
theorem r_tSeat {f : Nat} {is : Bool} (hfc : f = if is = true then 4 else 5) (R : RZ h m T n e) (he : e ≤ n) (O : Ok x) (V : VR h m x) (hf : frm T n e = f) : Ret (f_X6_tellsSeat m (if is = true then 1 else 0) h) (stB (stR T n x e)) (fun h' => stP m n T h h' (stR T n x e)) := by
  have hP := O.1
  have f45 : f = 4 ∨ f = 5 := by cases is <;> simp at hfc <;> omega
  have rm : rmB x f = true := by unfold rmB; rcases f45 with rfl | rfl <;> simp
  have A := fun k hk h1 h2 => stR_A (T := T) (n := n) (x := x) (e := e) hf (by omega) rm (k := k) hk h1 h2
  have w2 : wnt f = 2 := by rcases f45 with rfl | rfl <;> rfl
  have m0 : lmN x f 0 = sP x := by rcases f45 with rfl | rfl <;> rfl
  have m1 : lmN x f 1 = sP x := by rcases f45 with rfl | rfl <;> rfl
  have ap : apS x f (gvN T n e) = besS x (gvN T n e 0) (gvN T n e 1) is := by cases is <;> subst hfc <;> rfl
  unfold f_X6_tellsSeat
  rw [V.gp R.1, bd_ok]
  refine t_step R V he (m1_toInt (by omega)) (fun g1 g2 h1 N1 => ?_) (fun g h1 F1 e1 => ?_)
  rotate_left
  · rw [if_pos rfl, A 0 (by omega) (fun j hj => absurd hj (by omega)) (ok_n m0 g)]
    exact Ret.rz0 (stP_l F1 e1)
  have o0 := ok_y (T := T) (n := n) (x := x) (e := e) m0 g1 g2 (fun q => by omega)
  have gp := g2
  have H1 := N1.2.1.1
  have hK := tK_le T n (psN T n e 1)
  have hT := N1.2.1.2.1.2.1
  have hgv : gvN T n e 1 ≤ 30000 := tN_le hT _ _
  have hgv0 : gvN T n e 0 ≤ 30000 := tN_le hT _ _
  have a29 : gI 6 29 m h1 = some (nI (tK T n (psN T n e 1))) := by rw [gI_ok H1.1, N1.2.1.2.2.2.1]
  have r33 : gR 6 33 m h1 = some (m + 27) := H1.r 33 27 4 (by decide) rfl
  have l0 : lI (m + 27) 0 h1 = some (nI (gvN T n e 0)) := N1.l (j := 0) (by decide) (by decide)
  have go : ¬ (tK T n (psN T n e 1) = 2 ∧ gvN T n e 1 = gvN T n e 0) → Ret (ob (inv 6 m h1 (f_X6_number m 1 0 (nI (sP x) - 1) h1)) fun x51 h51 =>
      if x51 = 0 then
        rZ x51 h51
      else
        (gR 6 33 m h51).bind fun x61 =>
        (lI x61 0 h51).bind fun x65 =>
        (gR 6 33 m h51).bind fun x67 =>
        (lI x67 1 h51).bind fun x71 =>
        ob (inv 6 m h51 (f_X6_seats m x65 x71 (if is = true then 1 else 0) h51)) fun _ h73 =>
        rZ x51 h73) (stB (stR T n x e)) (fun h' => stP m n T h h' (stR T n x e)) := by
    intro ne
    refine n_step N1 he (by decide) rfl (m1_toInt (by omega)) (fun g1 g2 h2 N2 => ?_) (fun g h2 F2 e2 => ?_)
    rotate_left
    · rw [if_pos rfl, A 1 (by omega) (fun j hj => by rw [show j = 0 by omega]; exact o0) (ok_n m1 g)]
      exact Ret.rz0 (stP_l F2 e2)
    have o1 := ok_y (T := T) (n := n) (x := x) (e := e) m1 g1 g2 (fun q => ne ⟨g1, q.2.2⟩)
    rw [if_neg (by decide), stR_B hf (by omega) rm (fun j hj => by
      have : j = 0 ∨ j = 1 := by omega
      rcases this with rfl | rfl
      · exact o0
      · exact o1), ap, w2]
    have H2 := N2.2.1.1
    have r33 : gR 6 33 m h2 = some (m + 27) := H2.r 33 27 4 (by decide) rfl
    have l0 : lI (m + 27) 0 h2 = some (nI (gvN T n e 0)) := N2.l (j := 0) (by decide) (by decide)
    have l1 : lI (m + 27) 1 h2 = some (nI (gvN T n e 1)) := N2.l (j := 1) (by decide) (by decide)
    simp only [r33, l0, l1, Option.bind_some]
    exact Ret.icall H2.1 (r_seats H2 O N2.2.2.1 (Nat.lt_of_lt_of_le gp hP) (Nat.lt_of_lt_of_le g2 hP) is) fun h3 ⟨F3, V3⟩ => Ret.rz1 (stP_r (N2.1.tr F3.z) (F3.RZ N2.2.1) V3)
  rw [if_neg (by decide), a29, bd_ok, N1.2.2.1.gp H1, bd_ok]
  by_cases q1 : tK T n (psN T n e 1) = 2
  · have a31 : gI 6 31 m h1 = some (nI (gvN T n e 1)) := by rw [gI_ok H1.1, N1.2.1.2.2.2.2.2.2 q1]; rfl
    rw [if_pos (show nI (tK T n (psN T n e 1)) = 2 by rw [q1]; rfl), a31, bd_ok, r33, bd_ok, l0, bd_ok]
    by_cases q2 : gvN T n e 1 = gvN T n e 0
    · rw [if_pos (congrArg nI q2), A 1 (by omega) (fun j hj => by rw [show j = 0 by omega]; exact o0) (fun q => (of_decide_eq_true q).2.2 ⟨f45, rfl, q2⟩)]
      exact Ret.icall H1.1 (r_wrong N1.2.1) fun h2 ⟨F2, e2⟩ => Ret.rz0 (stP_l (N1.1.tr F2) e2)
    · rw [if_neg (by rw [nIe (by omega) (by omega)]; exact q2)]
      exact go (fun q => q2 q.2)
  · rw [if_neg (show ¬ nI (tK T n (psN T n e 1)) = 2 from eqN (m := 2) q1 (by decide) (by omega))]
    exact go (fun q => q1 q.1)
theorem r_tHum {f : Nat} {is : Bool} (hfc : f = if is = true then 6 else 7) (R : RZ h m T n e) (he : e ≤ n) (O : Ok x) (V : VR h m x) (hf : frm T n e = f) : Ret (f_X6_tellsHum m (if is = true then 1 else 0) h) (stB (stR T n x e)) (fun h' => stP m n T h h' (stR T n x e)) := by
  have hP := O.1
  have f45 : f = 6 ∨ f = 7 := by cases is <;> simp at hfc <;> omega
  have rm : rmB x f = true := by unfold rmB; rcases f45 with rfl | rfl <;> simp
  have w2 : wnt f = 1 := by rcases f45 with rfl | rfl <;> rfl
  have m0 : lmN x f 0 = sP x := by rcases f45 with rfl | rfl <;> rfl
  have ap : apS x f (gvN T n e) = uV x 5 (wb (sV x 5) (gvN T n e 0) is) := by cases is <;> subst hfc <;> rfl
  unfold f_X6_tellsHum
  rw [V.gp R.1, bd_ok]
  refine t_step R V he (m1_toInt (by omega)) (fun g1 g2 h1 N1 => ?_) (fun g h1 F1 e1 => ?_)
  rotate_left
  · rw [if_pos rfl, stR_A hf (by omega) rm (k := 0) (by omega) (fun j hj => absurd hj (by omega)) (ok_n m0 g), gI_ok (F1.1.1.Md R.1).1, bd_ok, pI_pw (F1.1.1.Md R.1).1, bd_ok]
    exact Ret.rz0 (stP_l (F1.tr (Fz.num (by decide) (by decide))) (by rw [pw_n _ _ _ (by decide)]; exact e1))
  have o0 := ok_y (T := T) (n := n) (x := x) (e := e) m0 g1 g2 (fun q => by omega)
  have H1 := N1.2.1.1
  have r33 : gR 6 33 m h1 = some (m + 27) := H1.r 33 27 4 (by decide) rfl
  have l0 : lI (m + 27) 0 h1 = some (nI (gvN T n e 0)) := N1.l (j := 0) (by decide) (by decide)
  have g8 : gvN T n e 0 < 8 := Nat.lt_of_lt_of_le g2 hP
  rw [if_neg (by decide), stR_B hf (by omega) rm (fun j hj => by rw [show j = 0 by omega]; exact o0), ap, w2]
  simp only [N1.2.2.1.gh H1, r33, l0, Option.bind_some]
  obtain ⟨h3, e3, H3, V3, F3⟩ := W_num H1 N1.2.2.1 (k := 5) (v := wb (sV x 5) (gvN T n e 0) is) (by omega) (q := 13) rfl (u := (nI (sV x 5) &&& (((1 : Int32) <<< (nI (gvN T n e 0) &&& 31)) ^^^ (-1))) ||| ((if is = true then (1 : Int32) else 0) <<< (nI (gvN T n e 0) &&& 31))) (by
    cases is with
    | true => exact hum1 _ g8 _ O.2.2.2.2.1
    | false => exact hum0 _ g8 _ O.2.2.2.2.1)
  rw [e3, bd_ok]
  exact Ret.rz1 (stP_r (N1.1.tr F3.z) (F3.RZ N1.2.1) V3)
theorem r_tNum {f k q L : Nat} (hfc : (f = 8 ∧ k = 2 ∧ L = 10 ∧ q = 9) ∨ (f = 9 ∧ k = 3 ∧ L = 1000 ∧ q = 10)) (R : RZ h m T n e) (he : e ≤ n) (O : Ok x) (V : VR h m x) (hf : frm T n e = f) {u : Int32} (hu : u.toInt = (L : Int) - 1) : Ret (ob (inv 6 m h (f_X6_tells m 0 u h)) fun x192 h192 =>
      if x192 = 0 then
        (gI 6 q m h192).bind fun x211 =>
        (pI 6 q m x211 h192).bind fun h214 =>
        rZ x192 h214
      else
        (gR 6 33 m h192).bind fun x202 =>
        (lI x202 0 h192).bind fun x206 =>
        (pI 6 q m x206 h192).bind fun h214 =>
        rZ x192 h214) (stB (stR T n x e)) (fun h' => stP m n T h h' (stR T n x e)) := by
  have rm : rmB x f = true := by unfold rmB; rcases hfc with ⟨rfl, -⟩ | ⟨rfl, -⟩ <;> simp
  have w2 : wnt f = 1 := by rcases hfc with ⟨rfl, -⟩ | ⟨rfl, -⟩ <;> rfl
  have m0 : lmN x f 0 = L := by rcases hfc with ⟨rfl, -, rfl, -⟩ | ⟨rfl, -, rfl, -⟩ <;> rfl
  have ap : apS x f (gvN T n e) = uV x k (gvN T n e 0) := by rcases hfc with ⟨rfl, rfl, -⟩ | ⟨rfl, rfl, -⟩ <;> rfl
  have hk : k = 2 ∨ k = 3 ∨ k = 5 := by omega
  have hq : φR k = q := by rcases hfc with ⟨-, rfl, -, rfl⟩ | ⟨-, rfl, -, rfl⟩ <;> rfl
  refine t_step R V he hu (fun g1 g2 h1 N1 => ?_) (fun g h1 F1 e1 => ?_)
  rotate_left
  · rw [if_pos rfl, stR_A hf (by omega) rm (k := 0) (by omega) (fun j hj => absurd hj (by omega)) (ok_n m0 g), gI_ok (F1.1.1.Md R.1).1, bd_ok, pI_pw (F1.1.1.Md R.1).1, bd_ok]
    exact Ret.rz0 (stP_l (F1.tr (Fz.num (by omega) (by omega))) (by rw [pw_n _ _ _ (by omega)]; exact e1))
  have o0 := ok_y (T := T) (n := n) (x := x) (e := e) m0 g1 g2 (fun q => by omega)
  have H1 := N1.2.1.1
  have r33 : gR 6 33 m h1 = some (m + 27) := H1.r 33 27 4 (by decide) rfl
  have l0 : lI (m + 27) 0 h1 = some (nI (gvN T n e 0)) := N1.l (j := 0) (by decide) (by decide)
  rw [if_neg (by decide), stR_B hf (by omega) rm (fun j hj => by rw [show j = 0 by omega]; exact o0), ap, w2, r33, bd_ok, l0, bd_ok]
  obtain ⟨h3, e3, H3, V3, F3⟩ := W_num H1 N1.2.2.1 (v := gvN T n e 0) hk hq rfl
  rw [e3, bd_ok]
  exact Ret.rz1 (stP_r (N1.1.tr F3.z) (F3.RZ N1.2.1) V3)
theorem r_stm (R : RZ h m T n e) (he : e ≤ n) (O : Ok x) (V : VR h m x) : Ret (f_X6_statement m h) (stB (stR T n x e)) (fun h' => stP m n T h h' (stR T n x e)) := by
  have hP := O.1
  have hS := O.2.1
  have sp := fstN_spec (splB T n e) 10
  have W := fun f (hf : f < 10) => r_isWord R he hf
  have c10 : ((1 : Int32) = 0) = False := by decide
  have gp := V.gp R.1
  have gs := V.gs R.1
  have iv : ∀ (o : Option (Int32 × HP)), inv 6 m h o = o := fun o => inv_ok R.1.1
  have tail : ∀ {o : Option (Int32 × HP)}, Ret o (stB (stR T n x e)) (fun h' => stP m n T h h' (stR T n x e)) → Ret (ob o fun x20 h20 => rZ x20 h20) (stB (stR T n x e)) (fun h' => stP m n T h h' (stR T n x e)) := fun r => r.call fun h' q => stB_rz q
  have wr : stR T n x e = .inl (tS T n e) → Ret (ob (f_X6_wrong m h) fun x20 h20 => rZ x20 h20) (stB (stR T n x e)) (fun h' => stP m n T h h' (stR T n x e)) := fun ee => tail (by
    rw [ee]
    exact (r_wrong R).mono fun h' ⟨F, e1⟩ => stP_l F e1)
  by_cases g : frm T n e < 10
  · have gs' := frm_spec g
    have Wf : ∀ i, i < 10 → f_X6_isWord m i h = some (if i = frm T n e then 1 else 0, h) := fun i hi => by
      rw [W i hi]
      by_cases ee : i = frm T n e
      · rw [if_pos ee, if_pos (by rw [ee]; exact gs'.1)]
      · rw [if_neg ee, if_neg (fun q => ee (spl_one hi g q gs'.1))]
    generalize hfe : frm T n e = f at g Wf
    have w0 := Wf 0 (by decide)
    have w1 := Wf 1 (by decide)
    have w2 := Wf 2 (by decide)
    have w3 := Wf 3 (by decide)
    have w4 := Wf 4 (by decide)
    have w5 := Wf 5 (by decide)
    have w6 := Wf 6 (by decide)
    have w7 := Wf 7 (by decide)
    have w8 := Wf 8 (by decide)
    have w9 := Wf 9 (by decide)
    have hc : f = 0 ∨ f = 1 ∨ f = 2 ∨ f = 3 ∨ f = 4 ∨ f = 5 ∨ f = 6 ∨ f = 7 ∨ f = 8 ∨ f = 9 := by omega
    unfold f_X6_statement
    rcases hc with rfl | rfl | rfl | rfl | rfl | rfl | rfl | rfl | rfl | rfl
    · by_cases hr : sP x < 8
      · have q : ¬ (8 : Int32) ≤ nI (sP x) := leN (m := 8) hr (by decide)
        rw [iv, w0, if_pos rfl, ob_ok, if_neg (by decide), gp, bd_ok, if_neg q, iv]
        exact tail (r_tNewP R he O V hfe hr)
      · have q : (8 : Int32) ≤ nI (sP x) := leY (m := 8) (by omega) (by omega)
        rw [iv, w0, if_pos rfl, ob_ok, if_neg (by decide), gp, bd_ok, if_pos q, iv, w1, if_neg (by decide), ob_ok, if_pos rfl, iv, w2, if_neg (by decide), ob_ok, if_pos rfl, iv, w3, if_neg (by decide), ob_ok, if_pos rfl, iv, w4, if_neg (by decide), ob_ok, if_pos rfl, iv, w5, if_neg (by decide), ob_ok, if_pos rfl, iv, w6, if_neg (by decide), ob_ok, if_pos rfl, iv, w7, if_neg (by decide), ob_ok, if_pos rfl, iv, w8, if_neg (by decide), ob_ok, if_pos rfl, iv, w9, if_neg (by decide), ob_ok, if_pos rfl, iv]
        exact wr (stR_C (by rw [hfe]; unfold rmB; simp [hr]))
    · by_cases hr : sS x < 6
      · have q : ¬ (6 : Int32) ≤ nI (sS x) := leN (m := 6) hr (by decide)
        rw [iv, w0, if_neg (by decide), ob_ok, if_pos rfl, iv, w1, if_pos rfl, ob_ok, if_neg (by decide), gs, bd_ok, if_neg q, iv]
        exact tail (r_tNewS R he O V hfe hr)
      · have q : (6 : Int32) ≤ nI (sS x) := leY (m := 6) (by omega) (by omega)
        rw [iv, w0, if_neg (by decide), ob_ok, if_pos rfl, iv, w1, if_pos rfl, ob_ok, if_neg (by decide), gs, bd_ok, if_pos q, iv, w2, if_neg (by decide), ob_ok, if_pos rfl, iv, w3, if_neg (by decide), ob_ok, if_pos rfl, iv, w4, if_neg (by decide), ob_ok, if_pos rfl, iv, w5, if_neg (by decide), ob_ok, if_pos rfl, iv, w6, if_neg (by decide), ob_ok, if_pos rfl, iv, w7, if_neg (by decide), ob_ok, if_pos rfl, iv, w8, if_neg (by decide), ob_ok, if_pos rfl, iv, w9, if_neg (by decide), ob_ok, if_pos rfl, iv]
        exact wr (stR_C (by rw [hfe]; unfold rmB; simp [hr]))
    · rw [iv, w0, if_neg (by decide), ob_ok, if_pos rfl, iv, w1, if_neg (by decide), ob_ok, if_pos rfl, iv, w2, if_pos rfl, ob_ok, if_neg (by decide), iv]
      exact tail (r_tHas (c := 1) (Or.inl ⟨rfl, rfl⟩) R he O V hfe rfl)
    · rw [iv, w0, if_neg (by decide), ob_ok, if_pos rfl, iv, w1, if_neg (by decide), ob_ok, if_pos rfl, iv, w2, if_neg (by decide), ob_ok, if_pos rfl, iv, w3, if_pos rfl, ob_ok, if_neg (by decide), iv]
      exact tail (r_tHas (c := 0) (Or.inr ⟨rfl, rfl⟩) R he O V hfe rfl)
    · rw [iv, w0, if_neg (by decide), ob_ok, if_pos rfl, iv, w1, if_neg (by decide), ob_ok, if_pos rfl, iv, w2, if_neg (by decide), ob_ok, if_pos rfl, iv, w3, if_neg (by decide), ob_ok, if_pos rfl, iv, w4, if_pos rfl, ob_ok, if_neg (by decide), iv]
      exact tail (r_tSeat (is := true) rfl R he O V hfe)
    · rw [iv, w0, if_neg (by decide), ob_ok, if_pos rfl, iv, w1, if_neg (by decide), ob_ok, if_pos rfl, iv, w2, if_neg (by decide), ob_ok, if_pos rfl, iv, w3, if_neg (by decide), ob_ok, if_pos rfl, iv, w4, if_neg (by decide), ob_ok, if_pos rfl, iv, w5, if_pos rfl, ob_ok, if_neg (by decide), iv]
      exact tail (r_tSeat (is := false) rfl R he O V hfe)
    · rw [iv, w0, if_neg (by decide), ob_ok, if_pos rfl, iv, w1, if_neg (by decide), ob_ok, if_pos rfl, iv, w2, if_neg (by decide), ob_ok, if_pos rfl, iv, w3, if_neg (by decide), ob_ok, if_pos rfl, iv, w4, if_neg (by decide), ob_ok, if_pos rfl, iv, w5, if_neg (by decide), ob_ok, if_pos rfl, iv, w6, if_pos rfl, ob_ok, if_neg (by decide), iv]
      exact tail (r_tHum (is := true) rfl R he O V hfe)
    · rw [iv, w0, if_neg (by decide), ob_ok, if_pos rfl, iv, w1, if_neg (by decide), ob_ok, if_pos rfl, iv, w2, if_neg (by decide), ob_ok, if_pos rfl, iv, w3, if_neg (by decide), ob_ok, if_pos rfl, iv, w4, if_neg (by decide), ob_ok, if_pos rfl, iv, w5, if_neg (by decide), ob_ok, if_pos rfl, iv, w6, if_neg (by decide), ob_ok, if_pos rfl, iv, w7, if_pos rfl, ob_ok, if_neg (by decide), iv]
      exact tail (r_tHum (is := false) rfl R he O V hfe)
    · rw [iv, w0, if_neg (by decide), ob_ok, if_pos rfl, iv, w1, if_neg (by decide), ob_ok, if_pos rfl, iv, w2, if_neg (by decide), ob_ok, if_pos rfl, iv, w3, if_neg (by decide), ob_ok, if_pos rfl, iv, w4, if_neg (by decide), ob_ok, if_pos rfl, iv, w5, if_neg (by decide), ob_ok, if_pos rfl, iv, w6, if_neg (by decide), ob_ok, if_pos rfl, iv, w7, if_neg (by decide), ob_ok, if_pos rfl, iv, w8, if_pos rfl, ob_ok, if_neg (by decide)]
      exact r_tNum (Or.inl ⟨rfl, rfl, rfl, rfl⟩) R he O V hfe rfl
    · rw [iv, w0, if_neg (by decide), ob_ok, if_pos rfl, iv, w1, if_neg (by decide), ob_ok, if_pos rfl, iv, w2, if_neg (by decide), ob_ok, if_pos rfl, iv, w3, if_neg (by decide), ob_ok, if_pos rfl, iv, w4, if_neg (by decide), ob_ok, if_pos rfl, iv, w5, if_neg (by decide), ob_ok, if_pos rfl, iv, w6, if_neg (by decide), ob_ok, if_pos rfl, iv, w7, if_neg (by decide), ob_ok, if_pos rfl, iv, w8, if_neg (by decide), ob_ok, if_pos rfl, iv, w9, if_pos rfl, ob_ok, if_neg (by decide)]
      exact r_tNum (Or.inr ⟨rfl, rfl, rfl, rfl⟩) R he O V hfe rfl
  · have Wn : ∀ i, i < 10 → f_X6_isWord m i h = some (0, h) := fun i hi => by
      have : frm T n e = 10 := by
        have := sp.1
        unfold frm at g ⊢
        omega
      rw [W i hi, if_neg (sp.2.1 i (by unfold frm at this; omega))]
    unfold f_X6_statement
    rw [iv, Wn 0 (by decide), ob_ok, if_pos rfl, iv, Wn 1 (by decide), ob_ok, if_pos rfl, iv, Wn 2 (by decide), ob_ok, if_pos rfl, iv, Wn 3 (by decide), ob_ok, if_pos rfl, iv, Wn 4 (by decide), ob_ok, if_pos rfl, iv, Wn 5 (by decide), ob_ok, if_pos rfl, iv, Wn 6 (by decide), ob_ok, if_pos rfl, iv, Wn 7 (by decide), ob_ok, if_pos rfl, iv, Wn 8 (by decide), ob_ok, if_pos rfl, iv, Wn 9 (by decide), ob_ok, if_pos rfl, iv]
    exact wr (stR_C (fun q => g q.1))
/-- what came of the tape -/
def rdP (m : Nat) (h h' : HP) (w : Nat ⊕ (St × Nat)) : Prop := Fy m h h' ∧ (∀ p, w = .inl p → hI h' m 32 = nI p) ∧ ∀ q, w = .inr q → VR h' m q.1 ∧ hI h' m 34 = nI q.2
theorem rdP_l {h' : HP} {p : Nat} (F : Fy m h h') (e : hI h' m 32 = nI p) : rdP m h h' (.inl p) := ⟨F, fun p' h => by obtain rfl := Sum.inl.inj h; exact e, fun q h => absurd h Sum.inl_ne_inr⟩
theorem rdP_r {h' : HP} {q : St × Nat} (F : Fy m h h') (V : VR h' m q.1) (e : hI h' m 34 = nI q.2) : rdP m h h' (.inr q) := ⟨F, fun p h => absurd h Sum.inr_ne_inl, fun q' h => by obtain rfl := Sum.inr.inj h; exact ⟨V, e⟩⟩
theorem Fy.RZ34 {h1 : HP} {v : Int32} (R : RZ h1 m T n e) : RZ (pw h1 m 34 v) m T n e := by
  have F : Fr m 1 h1 (pw h1 m 34 v) := Fr.pw (by omega) (by omega)
  have F2 : Fy m h1 (pw h1 m 34 v) := Fy.num (by decide)
  exact ⟨F.Md R.1, F2.Tp R.2.1, by rw [F2.2.2]; exact R.2.2.1, by rw [pw_n _ _ _ (by decide)]; exact R.2.2.2.1, by rw [pw_n _ _ _ (by decide)]; exact R.2.2.2.2.1, by rw [pw_n _ _ _ (by decide)]; exact R.2.2.2.2.2.1, fun q => by rw [pw_n _ _ _ (by decide)]; exact R.2.2.2.2.2.2 q⟩
theorem r_readAll (H : MdI h m) (HT : TpI h (m + 15) T n) (h7 : hI h m 7 = nI n) (O : Ok x) (V : VR h m x) {w : Nat ⊕ (St × Nat)} {K : Nat} (hK : K = 250) (hw : rdA T n K x 0 1 = some w) : Ret (f_X6_readAll m h) (stB w) (fun h' => rdP m h h' w) := by
  have hn := HT.1
  have hTT := HT.2.1
  unfold f_X6_readAll
  rw [pI_pw H.1, bd_ok]
  have G1 : Fr m 33 h (pw h m 34 1) := Fr.pw (by omega) (by omega)
  rw [pI_pw (G1.OA H.1), bd_ok]
  have F0 : Fy m h (pw (pw h m 34 1) m 28 0) := (Fy.num (by decide)).tr (Fy.num (by decide))
  have V0 : VR (pw (pw h m 34 1) m 28 0) m x := VR_fld (VR_fld V (by decide)) (by decide)
  have z34 : hI (pw (pw h m 34 1) m 28 0) m 34 = nI 1 := by rw [pw_n _ _ _ (by decide), pw_s]; rfl
  have z28 : hI (pw (pw h m 34 1) m 28 0) m 28 = nI 0 := by rw [pw_s]; rfl
  generalize pw (pw h m 34 1) m 28 0 = h1 at F0 V0 z34 z28 ⊢
  have H1 := F0.1.Md H
  refine Ret.icall H1.1 (r_look H1 (F0.Tp HT) (by rw [F0.2.2]; exact h7) z28 (Nat.zero_le _)) fun h2 ⟨F2, L2⟩ => ?_
  have R2 : RZ h2 m T n 0 := ⟨F2.1.Md H1, F2.z.1.Tp (F0.Tp HT), by rw [F2.2 7 (by omega), F0.2.2]; exact h7, L2⟩
  have z34' : hI h2 m 34 = nI 1 := by rw [F2.2 34 (by omega)]; exact z34
  have F02 := F0.tr F2.z.1
  obtain ⟨k0, hk0⟩ : ∃ k, K = k + 1 := ⟨249, by omega⟩
  rw [hk0, rdA_1] at hw
  refine Ret.icall R2.1.1 (r_stm R2 (Nat.zero_le _) O (F2.V V0)) fun h3 ⟨F3, A3, B3⟩ => ?_
  have F03 := F02.tr F3.1
  cases hs : stR T n x 0 with
  | inl p =>
    rw [hs, rdS_l] at hw
    obtain rfl := Option.some.inj hw
    rw [show stB (.inl p) = 0 from rfl, if_pos rfl]
    exact Ret.rz0 (rdP_l F03 (A3 p hs))
  | inr z =>
    obtain ⟨Oz, hz, hez⟩ := stR_ok hTT O (Nat.zero_le _) hs
    obtain ⟨R3, V3⟩ := B3 z hs
    rw [hs] at hw
    rw [show stB (.inr z) = 1 from rfl, if_neg (by decide)]
    refine Ret.gen (run := fun k q => lp_X6_readAll_23 m _ k q) (fun i q => Fy m h q ∧ ∃ (y : St × Nat) (c k : Nat), k + i = 249 ∧ RZ q m T n y.2 ∧ y.2 ≤ n ∧ VR q m y.1 ∧ Ok y.1 ∧ hI q m 34 = nI c ∧ rdS T n (rdA T n k) c (.inr y) = some w) 250 ?_ ?_ 250 0 1000 h3 (by omega) (by omega) ⟨F03, z, 1, k0, by omega, R3, hz, V3, Oz, by rw [F3.2]; exact z34', hw⟩
    · rintro t i q hi ⟨F, y, c, k, hk, R, hy, Vq, Oy, zc, hr⟩ kk
      rw [rdS_r] at hr
      have hKK := tK_le T n y.2
      have a29 : gI 6 29 m q = some (nI (tK T n y.2)) := by rw [gI_ok R.1.1, R.2.2.2.1]
      show Ret (lb_X6_readAll_23 m _ _ q) _ _
      unfold lb_X6_readAll_23
      rw [a29, bd_ok, bd_ok]
      by_cases g0 : tK T n y.2 = 0
      · rw [if_pos g0] at hr
        obtain rfl := Option.some.inj hr
        rw [if_pos (show nI (tK T n y.2) = 0 by rw [g0]; rfl)]
        exact Ret.rz1 (rdP_r F Vq zc)
      · rw [if_neg g0] at hr
        rw [if_neg (show ¬ nI (tK T n y.2) = 0 from eqN (m := 0) g0 (by decide) (by omega))]
        by_cases g3 : tK T n y.2 = 3
        · rw [if_pos g3] at hr
          rw [if_pos (show nI (tK T n y.2) = 3 by rw [g3]; rfl)]
          refine Ret.icall R.1.1 (r_look2 R Vq hy) fun h4 ⟨F4, R4, V4, _⟩ => ?_
          cases k with
          | zero => exact absurd (show (none : Option (Nat ⊕ (St × Nat))) = some w from hr) (by simp)
          | succ k' =>
            rw [rdA_1] at hr
            have he4 := (tE_spec T hy).2.1
            refine Ret.icall R4.1.1 (r_stm R4 he4 Oy V4) fun h5 ⟨F5, A5, B5⟩ => ?_
            have FF := (F.tr F4.1).tr F5.1
            cases hs : stR T n y.1 (tE T n y.2) with
            | inl p =>
              rw [hs, rdS_l] at hr
              obtain rfl := Option.some.inj hr
              rw [show stB (.inl p) = 0 from rfl, if_pos rfl]
              exact Ret.rz0 (rdP_l FF (A5 p hs))
            | inr z =>
              obtain ⟨Oz, hz, hez⟩ := stR_ok hTT Oy he4 hs
              obtain ⟨R5, V5⟩ := B5 z hs
              rw [hs] at hr
              have zc5 : hI h5 m 34 = nI c := by rw [F5.2, F4.2]; exact zc
              rw [show stB (.inr z) = 1 from rfl, if_neg (by decide), gI_ok R5.1.1, bd_ok, zc5, nI1, pI_pw R5.1.1, bd_ok]
              exact kk _ ⟨FF.tr (Fy.num (by decide)), z, c + 1, k', by omega, Fy.RZ34 R5, hz, VR_fld V5 (by decide), Oz, pw_s _ _ _ _, hr⟩
        · rw [if_neg g3] at hr
          obtain rfl := Option.some.inj hr
          rw [if_neg (show ¬ nI (tK T n y.2) = 3 from eqN (m := 3) g3 (by decide) (by omega))]
          exact Ret.icall R.1.1 (r_wrong R) fun h4 ⟨F4, e4⟩ => Ret.rz0 (rdP_l (F.tr F4.1) e4)
    · rintro t q ⟨F, y, c, k, hk, _⟩
      omega
end REF7
