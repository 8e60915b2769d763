/-! THE CLASS'S ISLE: what is changed by hand -/
theorem ln_le : ∀ k, k < 10 → ln k ≤ 48 := by decide
section ISLE3
variable {h : HP} {a : Nat} {x : St}
theorem r_setHeld (H : IsI h a) {p s : Nat} {v : Int32} (hi : p * 6 + s < 48) : f_X0_setHeld a (nI p) (nI s) v h = some ((), wI h (a + 10) (upd (hI h (a + 10)) (p * 6 + s) v)) := by
  unfold f_X0_setHeld
  rw [H.r 9 (by decide) rfl rfl, bd_ok, idx6, sI_ok (H.a 9 (by decide) rfl rfl) hi (by decide), bd_ok]
theorem s_setHeld (H : IsI h a) (O : Ok x) (V : VC h a x) {p s c : Nat} (hp : p < sP x) (hs : s < sS x) : ∃ h', f_X0_setHeld a (nI p) (nI s) (hv c) h = some ((), h') ∧ Fr a 11 h h' ∧ VC h' a (uA x 9 (p * 6 + s) c) :=
  ⟨_, r_setHeld H (O.i hp hs), Fr.w (by omega) (by omega), VC_held V⟩
/-- a bit set, or not -/
def wb (m k : Nat) (is : Bool) : Nat := if is = true then setb m k else clrb m k
theorem wb_lt {m k : Nat} (hm : m < 256) (hk : k < 8) (is : Bool) : wb m k is < 256 := by
  unfold wb
  split
  · exact (bit_or k hk m hm).2
  · exact (bit_clr k hk m hm).2
theorem s_withBit {m k : Nat} (hm : m < 256) (hk : k < 8) (is : Bool) : f_X0_withBit (nI m) (nI k) (if is = true then 1 else 0) h = some (nI (wb m k is), h) := by
  unfold f_X0_withBit wb
  cases is with
  | true =>
    rw [if_pos (show (true = true) from rfl), if_neg (show ¬ ((1 : Int32) = 0) by decide), (bit_or k hk m hm).1, if_pos (show (true = true) from rfl)]
  | false =>
    rw [if_neg (show ¬ (false = true) by decide), if_pos (show ((0 : Int32) = 0) from rfl), (bit_clr k hk m hm).1, if_neg (show ¬ (false = true) by decide)]
theorem s_setHums (H : IsI h a) (O : Ok x) (V : VC h a x) {p : Nat} (hp : p < 8) (is : Bool) : ∃ h', f_X0_setHums a (nI p) (if is = true then 1 else 0) h = some ((), h') ∧ Fr a 11 h h' ∧ VC h' a (uV x 5 (wb (sV x 5) p is)) := by
  refine ⟨_, ?_, Fr.w (b := a) (g := upd (hI h a) 5 (nI (wb (sV x 5) p is))) (by omega) (by omega), VC_num V (by omega)⟩
  unfold f_X0_setHums
  rw [gI_ok H.1, bd_ok, V.hm, s_withBit O.2.2.2.2.1 hp is, ob_ok, pI_ok H.1, bd_ok]
/-- two sit beside each other, or not -/
def besS (x : St) (p o : Nat) (is : Bool) : St := uA (uA x 4 p (wb (sA x 4 p) o is)) 4 o (wb (sA (uA x 4 p (wb (sA x 4 p) o is)) 4 o) p is)
theorem Ok_uA {x : St} (O : Ok x) {k i v : Nat} (hk : k < 9) (hv : i < ln k → v < bnd k) : Ok (uA x k i v) := by
  obtain ⟨o1, o2, o3, o4, o5, o6, o7⟩ := O
  refine ⟨o1, o2, o3, o4, o5, fun k' hk' i' hi' => ?_, fun p hp s hs => ?_⟩
  · rw [sA_uA]
    split
    · rename_i q
      obtain ⟨rfl, rfl⟩ := q
      exact hv hi'
    · exact o6 k' hk' i' hi'
  · rw [sA_uA, if_neg (by omega)]
    exact o7 p hp s hs
theorem Ok_held {x : St} (O : Ok x) {i c : Nat} (hc : c ≤ 100) : Ok (uA x 9 i c) := by
  obtain ⟨o1, o2, o3, o4, o5, o6, o7⟩ := O
  refine ⟨o1, o2, o3, o4, o5, fun k' hk' i' hi' => ?_, fun p hp s hs => ?_⟩
  · rw [sA_uA, if_neg (by omega)]
    exact o6 k' hk' i' hi'
  · rw [sA_uA]
    split
    · exact hc
    · exact o7 p hp s hs
theorem Ok_uV {x : St} (O : Ok x) {k v : Nat} (h2 : k = 2 → v < 10) (h3 : k = 3 → v < 1000) (h5 : k = 5 → v < 256) : Ok (uV x k v) := by
  obtain ⟨o1, o2, o3, o4, o5, o6, o7⟩ := O
  refine ⟨o1, o2, ?_, ?_, ?_, o6, o7⟩
  · rw [sV_uV]
    split
    · exact h2 (by omega)
    · exact o3
  · rw [sV_uV]
    split
    · exact h3 (by omega)
    · exact o4
  · rw [sV_uV]
    split
    · exact h5 (by omega)
    · exact o5
theorem Ok_besS {x : St} (O : Ok x) {p o : Nat} (hp : p < 8) (ho : o < 8) (is : Bool) : Ok (besS x p o is) := by
  have O1 : Ok (uA x 4 p (wb (sA x 4 p) o is)) := Ok_uA O (by decide) (fun hi => wb_lt (O.b 4 p (by decide) hi) ho is)
  exact Ok_uA O1 (by decide) (fun hi => wb_lt (O1.b 4 o (by decide) hi) hp is)
theorem s_setBeside (H : IsI h a) (O : Ok x) (V : VC h a x) {p o : Nat} (hp : p < 8) (ho : o < 8) (is : Bool) : ∃ h', f_X0_setBeside a (nI p) (nI o) (if is = true then 1 else 0) h = some ((), h') ∧ Fr a 11 h h' ∧ VC h' a (besS x p o is) := by
  have O1 : Ok (uA x 4 p (wb (sA x 4 p) o is)) := Ok_uA O (by decide) (fun hi => wb_lt (O.b 4 p (by decide) hi) ho is)
  have V1 := VC_row V (k := 4) (i := p) (v := wb (sA x 4 p) o is) (by decide) (b := a + 5) rfl
  have F1 : Fr a 11 h (wI h (a + 5) (upd (hI h (a + 5)) p (nI (wb (sA x 4 p) o is)))) := Fr.w (by omega) (by omega)
  have H1 := F1.I H
  unfold f_X0_setBeside
  rw [H.r 4 (by decide) rfl rfl, bd_ok, bd_ok, I_ld H V 4 (by decide) hp rfl, bd_ok, s_withBit (O.b 4 p (by decide) hp) ho is, ob_ok, sI_ok (H.a 4 (by decide) rfl rfl) hp (by decide), bd_ok]
  generalize wI h (a + 5) (upd (hI h (a + 5)) p (nI (wb (sA x 4 p) o is))) = h1 at V1 F1 H1 ⊢
  rw [H1.r 4 (by decide) rfl rfl, bd_ok, bd_ok, I_ld H1 V1 4 (by decide) ho rfl, bd_ok, s_withBit (O1.b 4 o (by decide) ho) hp is, ob_ok, sI_ok (H1.a 4 (by decide) rfl rfl) ho (by decide), bd_ok]
  exact ⟨_, rfl, F1.tr (Fr.w (by omega) (by omega)), VC_row V1 (by decide) rfl⟩
/-- one leaves the table: with each of n -/
def lvF (x : St) (p : Nat) : Nat → St
  | 0 => x
  | o + 1 => besS (lvF x p o) p o false
theorem lvF_P (x : St) (p : Nat) : ∀ n, sP (lvF x p n) = sP x ∧ sS (lvF x p n) = sS x
  | 0 => ⟨rfl, rfl⟩
  | n + 1 => lvF_P x p n
theorem Ok_lvF {x : St} (O : Ok x) {p : Nat} (hp : p < 8) : ∀ n, n ≤ 8 → Ok (lvF x p n)
  | 0, _ => O
  | n + 1, hn => Ok_besS (Ok_lvF O hp n (by omega)) hp (by omega) false
theorem s_leave (H : IsI h a) (O : Ok x) (V : VC h a x) {p : Nat} (hp : p < sP x) : ∃ h', f_X0_leaveTable a (nI p) h = some ((), h') ∧ Fr a 11 h h' ∧ VC h' a (lvF x p (sP x)) := by
  have hP := O.1
  have L := loop_hp (lp := lp_X0_leaveTable_2 a (nI p) (fun h => some ((), h))) (fun i q => Fr a 11 h q ∧ VC q a (lvF x p i)) (sP x) (by omega) (h := h) ⟨Fr.rf _ _ _, V⟩ (K := fun h => some ((), h)) ?_ ?_
  · obtain ⟨h', e, F, V'⟩ := L
    exact ⟨_, e, F, V'⟩
  · rintro k h1 ⟨F, V1⟩
    have H1 := F.I H
    show lb_X0_leaveTable_2 a _ _ _ _ h1 = _
    unfold lb_X0_leaveTable_2
    rw [gI_ok H1.1, bd_ok, V1.p, (lvF_P x p _).1, iY (by omega)]
  · rintro k i h1 hi ⟨F, V1⟩
    have H1 := F.I H
    obtain ⟨h2, e2, F2, V2⟩ := s_setBeside H1 (Ok_lvF O (by omega) i (by omega)) V1 (p := p) (o := i) (by omega) (by omega) false
    refine ⟨h2, ?_, F.tr F2, V2⟩
    show lb_X0_leaveTable_2 a _ _ _ _ h1 = _
    unfold lb_X0_leaveTable_2
    rw [gI_ok H1.1, bd_ok, V1.p, (lvF_P x p _).1, iN hi (by omega), inv_ok H1.1]
    rw [show ((if false = true then 1 else 0 : Int32)) = 0 from rfl] at e2
    rw [e2, ob_ok, nI_1]
/-- one more -/
def addP (x : St) (k b m g : Nat) : St := newP (uV (uA (uA (uA (uA (uA x 0 (sP x) k) 1 (sP x) b) 2 (sP x) m) 3 (sP x) g) 4 (sP x) 0) 5 (clrb (sV x 5) (sP x)))
def tunZ (x : St) (s : Nat) : Nat → St
  | 0 => x
  | i + 1 => uA (tunZ x s i) 8 (s * 8 + i) 0
def addS (x : St) (hd so : Nat) : St := newS (tunZ (uA (uA (uA x 5 (sS x) hd) 6 (sS x) so) 7 (sS x) 0) (sS x) 8)
theorem tunZ_P (x : St) (s : Nat) : ∀ n, sP (tunZ x s n) = sP x ∧ sS (tunZ x s n) = sS x
  | 0 => ⟨rfl, rfl⟩
  | n + 1 => tunZ_P x s n
theorem Ok_newP {x : St} (O : Ok x) (h : sP x < 8) : Ok (newP x) := by
  obtain ⟨o1, o2, o3, o4, o5, o6, o7⟩ := O
  refine ⟨h, o2, o3, o4, o5, fun r hr i hi => ?_, fun p hp s hs => ?_⟩
  · show (if r = 9 ∧ i / 6 = sP x then 0 else sA x r i) < _
    rw [if_neg (by omega)]
    exact o6 r hr i hi
  · show (if 9 = 9 ∧ (p * 6 + s) / 6 = sP x then 0 else sA x 9 (p * 6 + s)) ≤ 100
    have hp' : p < sP x + 1 := hp
    have hs' : s < sS x := hs
    split
    · omega
    · rename_i q
      exact o7 p (by omega) s hs
theorem Ok_newS {x : St} (O : Ok x) (h : sS x < 6) : Ok (newS x) := by
  obtain ⟨o1, o2, o3, o4, o5, o6, o7⟩ := O
  refine ⟨o1, h, o3, o4, o5, fun r hr i hi => ?_, fun p hp s hs => ?_⟩
  · show (if r = 9 ∧ i % 6 = sS x then 0 else sA x r i) < _
    rw [if_neg (by omega)]
    exact o6 r hr i hi
  · show (if 9 = 9 ∧ (p * 6 + s) % 6 = sS x then 0 else sA x 9 (p * 6 + s)) ≤ 100
    have hs' : s < sS x + 1 := hs
    split
    · omega
    · rename_i q
      exact o7 p hp s (by omega)
theorem Ok_addP {x : St} (O : Ok x) (hP : sP x < 8) {k b m g : Nat} (hk : k < 6) (hb : b < 10) (hm : m < 10) (hg : g < 10) : Ok (addP x k b m g) := by
  refine Ok_newP (Ok_uV (Ok_uA (Ok_uA (Ok_uA (Ok_uA (Ok_uA O (by decide) (fun _ => hk)) (by decide) (fun _ => hb)) (by decide) (fun _ => hm)) (by decide) (fun _ => hg)) (by decide) (fun _ => by decide)) (fun q => by cases q) (fun q => by cases q) (fun _ => (bit_clr _ hP _ O.2.2.2.2.1).2)) hP
theorem Ok_tunZ {x : St} (O : Ok x) (s : Nat) : ∀ n, Ok (tunZ x s n)
  | 0 => O
  | n + 1 => Ok_uA (Ok_tunZ O s n) (by decide) (fun _ => by decide)
theorem Ok_addS {x : St} (O : Ok x) (hS : sS x < 6) {hd so : Nat} (hh : hd < 10) (hso : so < 5) : Ok (addS x hd so) :=
  Ok_newS (Ok_tunZ (Ok_uA (Ok_uA (Ok_uA O (by decide) (fun _ => hh)) (by decide) (fun _ => hso)) (by decide) (fun _ => by decide)) _ 8) (by rw [(tunZ_P _ _ _).2]; exact hS)
theorem s_addP (H : IsI h a) (O : Ok x) (V : VC h a x) (hP : sP x < 8) {k b m g : Nat} : ∃ h', f_X0_addPerson a (nI k) (nI b) (nI m) (nI g) h = some (nI (sP x), h') ∧ Fr a 11 h h' ∧ VC h' a (addP x k b m g) := by
  unfold f_X0_addPerson
  rw [gI_ok H.1, bd_ok, V.p]
  have V1 := VC_row V (k := 0) (i := sP x) (v := k) (by decide) (b := a + 1) rfl
  have F1 : Fr a 11 h (wI h (a + 1) (upd (hI h (a + 1)) (sP x) (nI k))) := Fr.w (by omega) (by omega)
  rw [H.r 0 (by decide) rfl rfl, bd_ok, sI_ok (H.a 0 (by decide) rfl rfl) hP (by decide), bd_ok]
  generalize wI h (a + 1) (upd (hI h (a + 1)) (sP x) (nI k)) = h1 at V1 F1 ⊢
  have H1 := F1.I H
  have V2 := VC_row V1 (k := 1) (i := sP x) (v := b) (by decide) (b := a + 2) rfl
  have F2 : Fr a 11 h (wI h1 (a + 2) (upd (hI h1 (a + 2)) (sP x) (nI b))) := F1.tr (Fr.w (by omega) (by omega))
  rw [H1.r 1 (by decide) rfl rfl, bd_ok, sI_ok (H1.a 1 (by decide) rfl rfl) hP (by decide), bd_ok]
  generalize wI h1 (a + 2) (upd (hI h1 (a + 2)) (sP x) (nI b)) = h2 at V2 F2 ⊢
  have H2 := F2.I H
  have V3 := VC_row V2 (k := 2) (i := sP x) (v := m) (by decide) (b := a + 3) rfl
  have F3 : Fr a 11 h (wI h2 (a + 3) (upd (hI h2 (a + 3)) (sP x) (nI m))) := F2.tr (Fr.w (by omega) (by omega))
  rw [H2.r 2 (by decide) rfl rfl, bd_ok, sI_ok (H2.a 2 (by decide) rfl rfl) hP (by decide), bd_ok]
  generalize wI h2 (a + 3) (upd (hI h2 (a + 3)) (sP x) (nI m)) = h3 at V3 F3 ⊢
  have H3 := F3.I H
  have V4 := VC_row V3 (k := 3) (i := sP x) (v := g) (by decide) (b := a + 4) rfl
  have F4 : Fr a 11 h (wI h3 (a + 4) (upd (hI h3 (a + 4)) (sP x) (nI g))) := F3.tr (Fr.w (by omega) (by omega))
  rw [H3.r 3 (by decide) rfl rfl, bd_ok, sI_ok (H3.a 3 (by decide) rfl rfl) hP (by decide), bd_ok]
  generalize wI h3 (a + 4) (upd (hI h3 (a + 4)) (sP x) (nI g)) = h4 at V4 F4 ⊢
  have H4 := F4.I H
  have V5 := VC_row V4 (k := 4) (i := sP x) (v := 0) (by decide) (b := a + 5) rfl
  have F5 : Fr a 11 h (wI h4 (a + 5) (upd (hI h4 (a + 5)) (sP x) (nI 0))) := F4.tr (Fr.w (by omega) (by omega))
  rw [H4.r 4 (by decide) rfl rfl, bd_ok, show (0 : Int32) = nI 0 from rfl, sI_ok (H4.a 4 (by decide) rfl rfl) hP (by decide), bd_ok]
  generalize wI h4 (a + 5) (upd (hI h4 (a + 5)) (sP x) (nI 0)) = h5 at V5 F5 ⊢
  have H5 := F5.I H
  have hV5 : sV (uA (uA (uA (uA (uA x 0 (sP x) k) 1 (sP x) b) 2 (sP x) m) 3 (sP x) g) 4 (sP x) 0) 5 = sV x 5 := rfl
  have V6 := VC_num V5 (k := 5) (v := clrb (sV x 5) (sP x)) (by omega)
  have F6 : Fr a 11 h (wI h5 a (upd (hI h5 a) 5 (nI (clrb (sV x 5) (sP x))))) := F5.tr (Fr.w (by omega) (by omega))
  have e6 : f_X0_setHums a (nI (sP x)) (nI 0) h5 = some ((), wI h5 a (upd (hI h5 a) 5 (nI (clrb (sV x 5) (sP x))))) := by
    have := s_withBit (h := h5) O.2.2.2.2.1 hP false
    rw [show ((if false = true then 1 else 0 : Int32)) = nI 0 from rfl] at this
    unfold f_X0_setHums
    rw [gI_ok H5.1, bd_ok, V5.hm, hV5, this, ob_ok, pI_ok H5.1, bd_ok]
    rfl
  rw [inv_ok H5.1, e6, ob_ok]
  generalize wI h5 a (upd (hI h5 a) 5 (nI (clrb (sV x 5) (sP x)))) = h6 at V6 F6 ⊢
  have H6 := F6.I H
  unfold addP
  generalize hy : uV (uA (uA (uA (uA (uA x 0 (sP x) k) 1 (sP x) b) 2 (sP x) m) 3 (sP x) g) 4 (sP x) 0) 5 (clrb (sV x 5) (sP x)) = y at V6 ⊢
  have hyP : sP y = sP x := by rw [← hy]; rfl
  have hyS : sS y = sS x := by rw [← hy]; rfl
  have hS := O.2.1
  have L := loop_hp (lp := lp_X0_addPerson_57 a (nI (sP x)) (fun h57_ => (pI 0 0 a (nI (sP x) + 1) h57_).bind fun h84 => some (nI (sP x), h84))) (fun i q => Fr a 11 h q ∧ VC q a y ∧ ∀ s, s < i → hI q (a + 10) (sP x * 6 + s) = -1) 6 (by omega) (h := h6) ⟨F6, V6, fun s hs => absurd hs (by omega)⟩ (K := fun h57_ => (pI 0 0 a (nI (sP x) + 1) h57_).bind fun h84 => some (nI (sP x), h84)) ?_ ?_
  · obtain ⟨h7, e, F, V', hrow⟩ := L
    have H7 := F.I H
    refine ⟨wI h7 a (upd (hI h7 a) 0 (nI (sP x + 1))), ?_, F.tr (Fr.w (by omega) (by omega)), ?_⟩
    · refine e.trans ?_
      rw [pI_ok H7.1, bd_ok, nI_1]
    · rw [← hyP]
      exact VG.newP V' φC_ap (by omega) (by omega) (by rw [hyP]; exact hrow) rfl
  · rintro k h7 ⟨F, V1, hr⟩
    show lb_X0_addPerson_57 a _ _ _ _ h7 = _
    unfold lb_X0_addPerson_57
    exact if_pos (by decide)
  · rintro k i h7 hi ⟨F, V1, hr⟩
    have H7 := F.I H
    refine ⟨wI h7 (a + 10) (upd (hI h7 (a + 10)) (sP x * 6 + i) (-1)), ?_, F.tr (Fr.w (by omega) (by omega)), VG.free V1 (by omega) (by omega) (fun p hp s hs => by omega), fun s hs => ?_⟩
    · show lb_X0_addPerson_57 a _ _ _ _ h7 = _
      unfold lb_X0_addPerson_57
      rw [if_neg (show ¬ ((6 : Int32) ≤ nI i) from leN hi (by decide)), inv_ok H7.1, r_setHeld H7 (by omega), ob_ok, nI1 i]
    · rw [hI_w]
      by_cases e9 : s = i
      · rw [e9, upd_s]
      · rw [upd_n _ _ (by omega)]
        exact hr s (by omega)
end ISLE3
