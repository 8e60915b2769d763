/-! THE REFERENCE: a model's cells; what its small questions answer -/
abbrev inR (v : Int32) (n : Nat) : Prop := 0 ≤ v.toInt ∧ v.toInt < (n : Int)
theorem inR_is {v : Int32} {n : Nat} (g : inR v n) : ∃ k, k < n ∧ v = nI k := by
  obtain ⟨g1, g2⟩ := g
  refine ⟨v.toInt.toNat, by omega, ?_⟩
  rw [zI_n]
  unfold zI
  rw [show ((v.toInt.toNat : Nat) : Int) = v.toInt by omega, Int32.ofInt_toInt]
theorem inR_n {k n : Nat} (h : k ≤ 100000) : inR (nI k) n ↔ k < n := by
  unfold inR
  rw [nI_toInt (by omega)]
  omega
theorem r_in {v : Int32} {n : Nat} {b : Int64} (hb : b.toInt = (n : Int) - 1) (h : HP) : f_X6_in v.toInt64 0 b h = some (if inR v n then 1 else 0, h) := by
  unfold f_X6_in
  have e0 : (0 : Int64).toInt = 0 := rfl
  have ev : v.toInt64.toInt = v.toInt := Int32.toInt_toInt64 v
  by_cases g1 : v.toInt < 0
  · rw [if_pos (cmp_lt.mpr (by rw [ev, e0]; exact g1)), rZ0, if_neg (fun q => by have := q.1; omega)]
  · rw [if_neg (fun q => g1 (by have := cmp_lt.mp q; rw [ev, e0] at this; exact this))]
    by_cases g2 : v.toInt < n
    · rw [if_neg (fun q => by have := cmp_gt.mp q; rw [ev, hb] at this; omega), rZ1, if_pos ⟨by omega, g2⟩]
    · rw [if_pos (cmp_gt.mpr (by rw [ev, hb]; omega)), rZ0, if_neg (fun q => g2 q.2)]
theorem l_m1 {n : Nat} (hn : n ≤ 1000) : ((nI n - 1).toInt64).toInt = (n : Int) - 1 := by
  rw [Int32.toInt_toInt64, show (1 : Int32) = zI 1 from rfl, zI_n, zI_sub, zI_toInt (by omega) (by omega)]
theorem hv_neg {c : Nat} (hc : c ≤ 100000) : hv c < 0 ↔ c = 0 := by
  cases c with
  | zero => exact ⟨fun _ => rfl, fun _ => by decide⟩
  | succ k =>
    rw [hvS]
    exact ⟨fun q => absurd q (ltN (b := 0) (m := k) (by omega) (by omega)), fun q => by omega⟩
theorem or_z (a : Int32) : a ||| 0 = a := Int32.or_zero
/-- int arrays: field, place, length -/
def mdF : List (Nat × Nat × Nat) := [(0, 1, 8), (1, 2, 8), (2, 3, 8), (5, 14, 8), (6, 15, 250), (8, 16, 8), (14, 17, 8), (15, 18, 8), (16, 19, 8), (17, 20, 8), (18, 21, 8), (19, 22, 6), (20, 23, 6), (21, 24, 6), (22, 25, 48), (23, 26, 48), (33, 27, 4), (35, 28, 8), (37, 29, 6), (38, 30, 8), (39, 31, 9), (40, 32, 9)]
theorem mdF_k : ∀ k, k < 10 → (14 + k, 17 + k, ln k) ∈ mdF := by decide
theorem mdF_b : ∀ q, q ∈ mdF → q.2.1 < 33 ∧ (q.1 < 25 ∨ 27 < q.1) ∧ q.2.1 ≠ 0 := by decide
def MdI (h : HP) (m : Nat) : Prop := OA 6 h m ∧ (∀ q, q ∈ mdF → IA h (m + q.2.1) q.2.2 ∧ hR h m q.1 = some (m + q.2.1)) ∧ hR h m 3 = some (m + 4) ∧ m + 4 < hN h ∧ hS h (m + 4) = (10, 8) ∧ (∀ i, i < 8 → hR h (m + 4) i = some (m + 5 + i) ∧ LA h (m + 5 + i) 40) ∧ hR h m 4 = some (m + 13) ∧ LA h (m + 13) 40
theorem MdI.r {h : HP} {m : Nat} (H : MdI h m) (f o n : Nat) (hq : (f, o, n) ∈ mdF) {b : Nat} (hb : m + o = b) : gR 6 f m h = some b := by
  subst hb
  exact gR_ok H.1 (H.2.1 _ hq).2
theorem MdI.a {h : HP} {m : Nat} (H : MdI h m) (f o n : Nat) (hq : (f, o, n) ∈ mdF) {b : Nat} (hb : m + o = b) : IA h b n := by
  subst hb
  exact (H.2.1 _ hq).1
theorem MdI.rk {h : HP} {m : Nat} (H : MdI h m) (k : Nat) (hk : k < 10) {j : Nat} (hj : 14 + k = j) {b : Nat} (hb : m + 17 + k = b) : gR 6 j m h = some b := by
  subst hj
  exact H.r _ _ _ (mdF_k k hk) (by omega)
theorem MdI.ak {h : HP} {m : Nat} (H : MdI h m) (k : Nat) (hk : k < 10) {b : Nat} (hb : m + 17 + k = b) {n : Nat} (hn : ln k = n) : IA h b n := by
  subst hn
  exact H.a _ _ _ (mdF_k k hk) (by omega)
theorem MdI.keep {h h' : HP} {m : Nat} (H : MdI h m) (hn : hN h ≤ hN h') (hs : ∀ q, m ≤ q → q < m + 33 → hS h' q = hS h q) (hr : hR h' (m + 4) = hR h (m + 4)) (h0 : ∀ j, j < 25 ∨ 27 < j → hR h' m j = hR h m j) : MdI h' m := by
  obtain ⟨a1, a2, a3, a4, a5, a6, a7, a8⟩ := H
  have la : ∀ {b n : Nat}, m ≤ b → b < m + 33 → LA h b n → LA h' b n := fun h1 h2 l => ⟨Nat.lt_of_lt_of_le l.1 hn, by rw [hs _ h1 h2]; exact l.2⟩
  refine ⟨⟨Nat.lt_of_lt_of_le a1.1 hn, by rw [hs _ (Nat.le_refl _) (by omega)]; exact a1.2⟩, fun q hq => ?_, by rw [h0 3 (by omega)]; exact a3, Nat.lt_of_lt_of_le a4 hn, by rw [hs _ (by omega) (by omega)]; exact a5, fun i hi => ⟨by rw [hr]; exact (a6 i hi).1, la (by omega) (by omega) (a6 i hi).2⟩, by rw [h0 4 (by omega)]; exact a7, la (by omega) (by omega) a8⟩
  have hb := mdF_b q hq
  obtain ⟨b1, b2⟩ := a2 q hq
  exact ⟨⟨Nat.lt_of_lt_of_le b1.1 hn, by rw [hs _ (by omega) (by omega)]; exact b1.2⟩, by rw [h0 _ hb.2.1]; exact b2⟩
theorem Fr.Md {a n m : Nat} {h h' : HP} (f : Fr a n h h') (H : MdI h m) : MdI h' m :=
  H.keep (by rw [f.1]; exact Nat.le_refl _) (fun q _ _ => by rw [f.2.2.1]) (by rw [f.2.2.2.1]) (fun j _ => by rw [f.2.2.2.1])
def φR : Nat → Nat := fun k => [11, 12, 9, 10, 24, 13].getD k 0
theorem φR_ap : Apart φR := by
  unfold Apart
  decide
def VR (h : HP) (m : Nat) (x : St) : Prop := VG φR m (m + 17) h x
theorem VR.fr {a n b : Nat} {h h' : HP} {x : St} (f : Fr a n h h') (hd : b + 27 ≤ a ∨ a + n ≤ b) (V : VR h b x) : VR h' b x := VG.fr f (by omega) (by omega) V
theorem VR.fr2 {a n b : Nat} {h h' : HP} {x : St} (f : Fr a n h h') (h1 : b < a) (hd : a + n ≤ b + 17) (V : VR h b x) : VR h' b x := VG.fr f (by omega) (by omega) V
theorem VR.ext {h : HP} {m : Nat} {x y : St} (V : VR h m x) (E : EqA x y) : VR h m y := VG.ext V E
theorem VG.fld {φ : Nat → Nat} {o b : Nat} {h : HP} {x : St} (V : VG φ o b h x) (hob : o < b ∨ b + 10 ≤ o) {q : Nat} {v : Int32} (hq : ∀ k, k < 6 → φ k ≠ q) : VG φ o b (wI h o (upd (hI h o) q v)) x := by
  obtain ⟨v1, v2, v3, v4, v5, v6, v7, v8⟩ := V
  have er : ∀ q', q' ≠ o → hI (wI h o (upd (hI h o) q v)) q' = hI h q' := fun q' hq' => hI_wn h _ hq'
  have e0 : ∀ k, k < 6 → hI (wI h o (upd (hI h o) q v)) o (φ k) = hI h o (φ k) := fun k hk => by rw [hI_w, upd_n _ _ (hq k hk)]
  refine ⟨(e0 0 (by omega)).trans v1, (e0 1 (by omega)).trans v2, (e0 2 (by omega)).trans v3, (e0 3 (by omega)).trans v4, (e0 4 (by omega)).trans v5, (e0 5 (by omega)).trans v6, fun k hk i hi => by rw [er _ (by omega)]; exact v7 k hk i hi, fun p hp s hs => by rw [er _ (by omega)]; exact v8 p hp s hs⟩
theorem VR_fld {h : HP} {m : Nat} {x : St} (V : VR h m x) {q : Nat} {v : Int32} (hq : ∀ k, k < 6 → φR k ≠ q) : VR (pw h m q v) m x := VG.fld V (by omega) hq
/-- the isle's cells at m and what is written on beside them may change, no shelf, no tape, no other number -/
def Fk (m : Nat) (h h' : HP) : Prop := Fr m 33 h h' ∧ (∀ q, m < q → q < m + 17 → hI h' q = hI h q) ∧ ∀ j, (∀ k, k < 6 → φR k ≠ j) → hI h' m j = hI h m j
theorem Fk.rf (m : Nat) (h : HP) : Fk m h h := ⟨Fr.rf _ _ _, fun _ _ _ => rfl, fun _ _ => rfl⟩
theorem Fk.tr {m : Nat} {h h1 h2 : HP} (f : Fk m h h1) (g : Fk m h1 h2) : Fk m h h2 :=
  ⟨f.1.tr g.1, fun q h1 h2 => (g.2.1 q h1 h2).trans (f.2.1 q h1 h2), fun j hj => (g.2.2 j hj).trans (f.2.2 j hj)⟩
theorem Fk.Md {m b : Nat} {h h' : HP} (f : Fk m h h') (H : MdI h b) : MdI h' b := f.1.Md H
theorem Fk.of {m b n : Nat} {h h' : HP} (f : Fr b n h h') (h1 : m + 17 ≤ b) (h2 : b + n ≤ m + 33) : Fk m h h' :=
  ⟨f.wide (by omega) (by omega), fun q _ _ => f.2.2.2.2.2 q (by omega), fun j _ => by rw [f.2.2.2.2.2 m (by omega)]⟩
theorem Fr.w33 {m : Nat} {h h' : HP} (f : Fr (m + 17) 10 h h') : Fk m h h' := Fk.of f (by omega) (by omega)
section REF0
variable {h : HP} {m : Nat} {x : St}
theorem VR.gp (V : VR h m x) (H : MdI h m) : gI 6 11 m h = some (nI (sP x)) := by rw [gI_ok H.1]; exact congrArg some V.1
theorem VR.gs (V : VR h m x) (H : MdI h m) : gI 6 12 m h = some (nI (sS x)) := by rw [gI_ok H.1]; exact congrArg some V.2.1
theorem VR.gw (V : VR h m x) (H : MdI h m) : gI 6 9 m h = some (nI (sV x 2)) := by rw [gI_ok H.1]; exact congrArg some V.2.2.1
theorem VR.gy (V : VR h m x) (H : MdI h m) : gI 6 10 m h = some (nI (sV x 3)) := by rw [gI_ok H.1]; exact congrArg some V.2.2.2.1
theorem VR.gd (V : VR h m x) (H : MdI h m) : gI 6 24 m h = some (sD x) := by rw [gI_ok H.1]; exact congrArg some V.2.2.2.2.1
theorem VR.gh (V : VR h m x) (H : MdI h m) : gI 6 13 m h = some (nI (sV x 5)) := by rw [gI_ok H.1]; exact congrArg some V.2.2.2.2.2.1
theorem R_ld (H : MdI h m) (V : VR h m x) (k : Nat) (hk : k < 9) {i : Nat} (hi : i < ln k) {b : Nat} (hb : m + 17 + k = b) : lI b (nI i) h = some (nI (sA x k i)) := by
  have hl := ln_le k (by omega)
  subst hb
  rw [lI_ok (H.ak k (by omega) rfl rfl) hi (by omega)]
  exact congrArg some (V.2.2.2.2.2.2.1 k hk i hi)
theorem R_has (H : MdI h m) (O : Ok x) (V : VR h m x) {p s : Nat} (hp : p < sP x) (hs : s < sS x) : lI (m + 26) (nI p * 6 + nI s) h = some (hv (sA x 9 (p * 6 + s))) := by
  rw [idx6, lI_ok (H.ak 9 (by decide) (b := m + 26) rfl rfl) (O.i hp hs) (by decide)]
  exact congrArg some (V.2.2.2.2.2.2.2 p hp s hs)
/-- what is put -/
theorem W_row (H : MdI h m) (V : VR h m x) (k : Nat) (hk : k < 9) {i v : Nat} (hi : i < ln k) {u : Int32} (hu : u = nI v) {b : Nat} (hb : m + 17 + k = b) : ∃ h', sI b (nI i) u h = some h' ∧ MdI h' m ∧ VR h' m (uA x k i v) ∧ Fr (m + 17) 10 h h' := by
  have hl := ln_le k (by omega)
  subst hu; subst hb
  have F : Fr (m + 17) 10 h (wI h (m + 17 + k) (upd (hI h (m + 17 + k)) i (nI v))) := Fr.w (by omega) (by omega)
  exact ⟨_, sI_ok (H.ak k (by omega) rfl rfl) hi (by omega), F.Md H, VG.row V (by omega) hk rfl, F⟩
theorem W_has (H : MdI h m) (O : Ok x) (V : VR h m x) {p s c : Nat} (hp : p < sP x) (hs : s < sS x) {u : Int32} (hu : u = hv c) : ∃ h', sI (m + 26) (nI p * 6 + nI s) u h = some h' ∧ MdI h' m ∧ VR h' m (uA x 9 (p * 6 + s) c) ∧ Fr (m + 17) 10 h h' := by
  subst hu
  have F : Fr (m + 17) 10 h (wI h (m + 26) (upd (hI h (m + 26)) (p * 6 + s) (hv c))) := Fr.w (by omega) (by omega)
  refine ⟨_, ?_, F.Md H, VG.held V (by omega) (by omega), F⟩
  rw [idx6, sI_ok (H.ak 9 (by decide) (b := m + 26) rfl rfl) (O.i hp hs) (by decide)]
theorem W_num (H : MdI h m) (V : VR h m x) {k v q : Nat} (hk : k = 2 ∨ k = 3 ∨ k = 5) (hq : φR k = q) {u : Int32} (hu : u = nI v) : ∃ h', pI 6 q m u h = some h' ∧ MdI h' m ∧ VR h' m (uV x k v) ∧ Fk m h h' := by
  subst hu
  have F : Fr m 33 h (wI h m (upd (hI h m) q (nI v))) := Fr.w (by omega) (by omega)
  exact ⟨_, pI_ok H.1, F.Md H, VG.num V φR_ap (by omega) hk hq, F, fun q' h1 _ => hI_wn h _ (by omega), fun j hj => by rw [hI_w, upd_n _ _ (fun e => hj k (by omega) (hq.trans e.symm))]⟩
theorem W_seed (H : MdI h m) (V : VR h m x) (d : Int32) : ∃ h', pI 6 24 m d h = some h' ∧ MdI h' m ∧ VR h' m (uD x d) ∧ Fk m h h' := by
  have F : Fr m 33 h (wI h m (upd (hI h m) 24 d)) := Fr.w (by omega) (by omega)
  exact ⟨_, pI_ok H.1, F.Md H, VG.seed V φR_ap (by omega) rfl, F, fun q' h1 _ => hI_wn h _ (by omega), fun j hj => by rw [hI_w, upd_n _ _ (fun e : j = 24 => hj 4 (by omega) e.symm)]⟩
theorem r_isP (H : MdI h m) (O : Ok x) (V : VR h m x) (v : Int32) : f_X6_isPerson m v h = some (if inR v (sP x) then 1 else 0, h) := by
  have hP := O.1
  unfold f_X6_isPerson
  rw [V.gp H, bd_ok, r_in (l_m1 (by omega)), ob_ok]
  split
  · exact rZ1
  · exact rZ0
theorem r_isS (H : MdI h m) (O : Ok x) (V : VR h m x) (v : Int32) : f_X6_isSong m v h = some (if inR v (sS x) then 1 else 0, h) := by
  have hS := O.2.1
  unfold f_X6_isSong
  rw [V.gs H, bd_ok, r_in (l_m1 (by omega)), ob_ok]
  split
  · exact rZ1
  · exact rZ0
theorem r_knows (H : MdI h m) (O : Ok x) (V : VR h m x) {p s : Nat} (hp : p < sP x) (hs : s < sS x) : f_X6_knowsIt m (nI p) (nI s) h = some (if has x p s = true then 1 else 0, h) := by
  have b := O.h hp hs
  unfold f_X6_knowsIt
  rw [H.rk 9 (by decide) rfl rfl, bd_ok, R_has H O V hp hs, bd_ok]
  unfold has
  by_cases q : sA x 9 (p * 6 + s) = 0
  · rw [if_pos ((hv_neg (by omega)).mpr q), rZ0, if_neg (by simp [q])]
  · rw [if_neg (fun e => q ((hv_neg (by omega)).mp e)), rZ1, if_pos (by simp [q])]
theorem r_bits (h : HP) : ∀ n, n < 256 → f_X6_bits (nI n) h = some (nI (pop n), h) := by
  have h0 : ∀ (g : HP) k a b, lp_X6_bits_4 (fun b1_4 h4_ => some (b1_4, h4_)) k a b g = (lp_X6_bits_4 (fun b1_4 h4_ => some (b1_4, h4_)) k a b (0, 0, fun _ => (0, 0), fun _ _ => none, fun _ _ => 0, fun _ _ => 0)).map (fun q => (q.1, g)) := by
    intro g k
    induction k with
    | zero => intro a b; rfl
    | succ k ih =>
      intro a b
      show lb_X6_bits_4 _ _ _ _ g = (lb_X6_bits_4 _ _ _ _ _).map _
      unfold lb_X6_bits_4
      split
      · rfl
      · exact ih _ _
  have key : ∀ n, n < 256 → (f_X6_bits (nI n) (0, 0, fun _ => (0, 0), fun _ _ => none, fun _ _ => 0, fun _ _ => 0)).map (·.1) = some (nI (pop n)) := by decide +kernel
  intro n hn
  have k := key n hn
  unfold f_X6_bits at k ⊢
  rw [h0]
  generalize lp_X6_bits_4 (fun b1_4 h4_ => some (b1_4, h4_)) 1000 0 (nI n) (0, 0, fun _ => (0, 0), fun _ _ => none, fun _ _ => 0, fun _ _ => 0) = o at k ⊢
  cases o with
  | none => cases k
  | some q =>
    have : q.1 = nI (pop n) := Option.some.inj k
    show some (q.1, h) = _
    rw [this]
theorem r_held {a b : Nat} (ha : a ≤ 10000) (hb : b ≤ 10000) : f_X6_held (nI a - nI b) h = some (nI (a - b), h) := by
  unfold f_X6_held
  rw [zI_n, zI_n, zI_sub, show (0 : Int32) = zI 0 from rfl]
  by_cases q : b ≤ a
  · rw [if_pos (by rw [zI_le (by omega) (by omega) (by omega) (by omega)]; omega), zI_n, show ((a - b : Nat) : Int) = (a : Int) - b by omega]
  · rw [if_neg (by rw [zI_le (by omega) (by omega) (by omega) (by omega)]; omega), show a - b = 0 by omega]
    rfl
theorem r_holdBy (H : MdI h m) (O : Ok x) (V : VR h m x) {p hd : Nat} (hp : p < sP x) (hh : hd < 10) : f_X6_holdBy m (nI p) (nI hd) h = some (nI (holdN x p hd), h) := by
  have h8 := O.1
  have hp8 : p < 8 := by omega
  have b0 : sA x 0 p < 6 := O.b 0 p (by decide) hp8
  have b1 : sA x 1 p < 10 := O.b 1 p (by decide) hp8
  have b2 : sA x 2 p < 10 := O.b 2 p (by decide) hp8
  have b3 : sA x 3 p < 10 := O.b 3 p (by decide) hp8
  have bw : sV x 2 < 10 := O.2.2.1
  have c1 : (nI (sA x 0 p) = 1) ↔ sA x 0 p = 1 := nIe (b := 1) (by omega) (by decide)
  have c2 : (nI (sA x 0 p) = 2) ↔ sA x 0 p = 2 := nIe (b := 2) (by omega) (by decide)
  have c3 : (nI (sA x 0 p) = 3) ↔ sA x 0 p = 3 := nIe (b := 3) (by omega) (by decide)
  have c4 : (nI (sA x 0 p) = 4) ↔ sA x 0 p = 4 := nIe (b := 4) (by omega) (by decide)
  have c5 : (nI (sA x 0 p) = 5) ↔ sA x 0 p = 5 := nIe (b := 5) (by omega) (by decide)
  unfold f_X6_holdBy
  rw [H.rk 2 (by decide) rfl rfl, bd_ok, R_ld H V 2 (by decide) hp8 rfl, bd_ok, H.rk 3 (by decide) rfl rfl, bd_ok, R_ld H V 3 (by decide) hp8 rfl, bd_ok, nI_add, r_held (by omega) (by omega), ob_ok, H.rk 0 (by decide) rfl rfl, bd_ok, R_ld H V 0 (by decide) hp8 rfl, bd_ok]
  simp only [c1, c2, c3, c4, c5, dz2, Option.bind_some, H.rk 1 (by decide) rfl rfl, R_ld H V 1 (by decide) hp8 rfl, V.gw H, r_held (h := h) (show sA x 2 p + hd - sA x 3 p ≤ 10000 by omega) (show sA x 1 p ≤ 10000 by omega), r_held (h := h) (show sA x 2 p + hd - sA x 3 p ≤ 10000 by omega) (show sV x 2 ≤ 10000 by omega), ob_ok]
  unfold holdN
  dsimp only
  by_cases q1 : sA x 0 p = 1
  · rw [if_pos q1, if_pos q1]
  rw [if_neg q1, if_neg q1]
  by_cases q2 : sA x 0 p = 2
  · rw [if_pos q2, if_neg (by omega), if_pos q2]
  rw [if_neg q2]
  by_cases q3 : sA x 0 p = 3
  · rw [if_pos q3, if_pos q3, nI_1, half _ (by omega)]
  rw [if_neg q3, if_neg q3, if_neg q2]
  by_cases q4 : sA x 0 p = 4
  · rw [if_pos q4, if_pos q4, show (5 : Int32) = nI 5 from rfl, nI_add]
  rw [if_neg q4, if_neg q4]
  by_cases q5 : sA x 0 p = 5
  · rw [if_pos q5, if_pos q5, show (2 : Int32) = nI 2 from rfl, pk_mul]
  rw [if_neg q5, if_neg q5]
theorem r_holdOf (H : MdI h m) (O : Ok x) (V : VR h m x) {p s : Nat} (hp : p < sP x) (hs : s < sS x) : f_X6_holdOf m (nI p) (nI s) h = some (nI (holdN x p (sA x 5 s)), h) := by
  have hS := O.2.1
  have hs6 : s < ln 5 := by show s < 6; omega
  unfold f_X6_holdOf
  rw [H.rk 5 (by decide) rfl rfl, bd_ok, R_ld H V 5 (by decide) hs6 rfl, bd_ok, inv_ok H.1, r_holdBy H O V hp (O.b 5 s (by decide) hs6), ob_ok]
theorem r_songsOf (H : MdI h m) (O : Ok x) (V : VR h m x) {p : Nat} (hp : p < sP x) : f_X6_songsOf m (nI p) h = some (nI (repN x p), h) := by
  have hS := O.2.1
  refine loop_acc (lp := lp_X6_songsOf_4 m (nI p) _) (sS x) (by omega) (fun i => nI (bsN (fun s => has x p s) i)) h (K := fun v h => some (v, h)) (fun k => ?_) (fun k i hi => ?_)
  · show lb_X6_songsOf_4 m (nI p) _ _ _ _ h = _
    unfold lb_X6_songsOf_4
    rw [V.gs H, bd_ok, iY (by omega)]
  · show lb_X6_songsOf_4 m (nI p) _ _ _ _ h = _
    unfold lb_X6_songsOf_4
    rw [V.gs H, bd_ok, iN hi (by omega), inv_ok H.1, r_knows H O V hp hi, ob_ok, nI1, or_z]
    by_cases q : has x p i = true
    · rw [if_pos q, if_neg (by decide), bs_or (f := fun s => has x p s) (by omega) q]
    · rw [if_neg q, if_pos rfl, bs_no (f := fun s => has x p s) q]
theorem r_holdersOf (H : MdI h m) (O : Ok x) (V : VR h m x) {s : Nat} (hs : s < sS x) : f_X6_holdersOf m (nI s) h = some (nI (havN x s), h) := by
  have hP := O.1
  refine loop_acc (lp := lp_X6_holdersOf_4 m (nI s) _) (sP x) (by omega) (fun i => nI (bsN (fun p => has x p s) i)) h (K := fun v h => some (v, h)) (fun k => ?_) (fun k i hi => ?_)
  · show lb_X6_holdersOf_4 m (nI s) _ _ _ _ h = _
    unfold lb_X6_holdersOf_4
    rw [V.gp H, bd_ok, iY (by omega)]
  · show lb_X6_holdersOf_4 m (nI s) _ _ _ _ h = _
    unfold lb_X6_holdersOf_4
    rw [V.gp H, bd_ok, iN hi (by omega), inv_ok H.1, r_knows H O V hi hs, ob_ok, nI1, or_z]
    by_cases q : has x i s = true
    · rw [if_pos q, if_neg (by decide), bs_or (f := fun p => has x p s) (by omega) q]
    · rw [if_neg q, if_pos rfl, bs_no (f := fun p => has x p s) q]
theorem r_known (H : MdI h m) (O : Ok x) (V : VR h m x) : f_X6_known m h = some (nI (knoN x), h) := by
  have hP := O.1
  refine loop_acc (lp := lp_X6_known_4 m _) (sP x) (by omega) (fun i => nI (kacc x i)) h (K := fun v h => some (v, h)) (fun k => ?_) (fun k i hi => ?_)
  · show lb_X6_known_4 m _ _ _ _ h = _
    unfold lb_X6_known_4
    rw [V.gp H, bd_ok, iY (by omega)]
  · show lb_X6_known_4 m _ _ _ _ h = _
    unfold lb_X6_known_4
    rw [V.gp H, bd_ok, iN hi (by omega), inv_ok H.1, r_songsOf H O V hi, ob_ok, nI1, nI_or]
    rfl
theorem r_finds (H : MdI h m) (O : Ok x) (V : VR h m x) : f_X6_findsAll m h = some (hv (besN x), h) := by
  have hP := O.1
  refine loop_acc (lp := lp_X6_findsAll_4 m _) (sP x) (by omega) (fun i => hv (besF x i)) h (K := fun v h => some (v, h)) (fun k => ?_) (fun k i hi => ?_)
  · show lb_X6_findsAll_4 m _ _ _ _ h = _
    unfold lb_X6_findsAll_4
    rw [V.gp H, bd_ok, iY (by omega)]
  · show lb_X6_findsAll_4 m _ _ _ _ h = _
    have hl := besF_le x i
    unfold lb_X6_findsAll_4
    rw [V.gp H, bd_ok, iN hi (by omega), nI1]
    show _ = lp_X6_findsAll_4 m _ k (hv (if besF x i = 0 ∨ sA x 2 (besF x i - 1) < sA x 2 i then i + 1 else besF x i)) _ h
    by_cases q : besF x i = 0
    · rw [if_pos ((hv_m1 (by omega)).mpr q), if_pos (Or.inl q), hvS]
    · rw [if_neg (by rw [hv_m1 (by omega)]; exact q)]
      have hi8 : i < ln 2 := by show i < 8; omega
      have hj8 : besF x i - 1 < ln 2 := by show besF x i - 1 < 8; omega
      have b1 : sA x 2 i < 10 := O.b 2 i (by decide) hi8
      have b2 : sA x 2 (besF x i - 1) < 10 := O.b 2 _ (by decide) hj8
      have e : hv (besF x i) = nI (besF x i - 1) := by unfold hv; rw [if_neg q]
      rw [H.rk 2 (by decide) rfl rfl, bd_ok, R_ld H V 2 (by decide) hi8 rfl, bd_ok, bd_ok, e, R_ld H V 2 (by decide) hj8 rfl, bd_ok]
      by_cases q2 : sA x 2 (besF x i - 1) < sA x 2 i
      · rw [if_neg (by rw [nIl (by omega) (by omega)]; omega), if_pos (Or.inr q2), hvS]
      · rw [if_pos (by rw [nIl (by omega) (by omega)]; omega), if_neg (by omega), e]
theorem r_tuneOf (H : MdI h m) (O : Ok x) (V : VR h m x) {s : Nat} (hs : s < sS x) : f_X6_tuneOf m (nI s) h = some (nI (dgN (tuF x s) 8), h) := by
  have hS := O.2.1
  refine loop_acc (lp := lp_X6_tuneOf_4 m (nI s) _) 8 (by omega) (fun i => nI (dgN (tuF x s) i)) h (K := fun v h => some (v, h)) (fun k => ?_) (fun k i hi => ?_)
  · show lb_X6_tuneOf_4 m (nI s) _ _ _ _ h = _
    unfold lb_X6_tuneOf_4
    rw [if_pos (show (8 : Int32) ≤ nI 8 by decide)]
  · show lb_X6_tuneOf_4 m (nI s) _ _ _ _ h = _
    unfold lb_X6_tuneOf_4
    rw [if_neg (show ¬ ((8 : Int32) ≤ nI i) from leN hi (by decide)), H.rk 8 (by decide) rfl rfl, bd_ok, idx8, R_ld H V 8 (by decide) (show s * 8 + i < 48 by omega) rfl, bd_ok, nI1, show (10 : Int32) = nI 10 from rfl, pk_mul, nI_add, Nat.mul_comm]
    rfl
end REF0
