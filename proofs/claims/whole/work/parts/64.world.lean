/-! THE CLASS'S CELLS; BOTH SIDES; what is refused -/
def CI (h : HP) : Prop := OA 5 h 0 ∧ (hR h 0 0 = some 1 ∧ hR h 0 1 = some 12 ∧ hR h 0 2 = some 23 ∧ hR h 0 3 = some 34 ∧ hR h 0 4 = some 47 ∧ hR h 0 5 = some 50 ∧ hR h 0 6 = some 53 ∧ hR h 0 7 = some 54) ∧
  IsI h 1 ∧ IsI h 12 ∧ IsI h 23 ∧ OutI h 34 ∧ TunI h 47 ∧ RdI h 50 ∧ (53 < hN h ∧ hS h 53 = (9, 8)) ∧ (∀ s, s < 8 → hR h 53 s = some (55 + 2 * s) ∧ ShI h (55 + 2 * s)) ∧ IA h 54 5
def CV (h : HP) (w : Wd) : Prop := VC h 1 (wX w) ∧ (∀ y, wK w = some y → VC h 12 y) ∧ hI h 0 8 = (if (wK w).isSome = true then 1 else 0) ∧ TpI h 51 (wT w) (wZ w) ∧ hI h 50 2 = nI (wZ w) ∧ (∀ s, s < 8 → ShV h (55 + 2 * s) (wS w s)) ∧ ∀ i, i < 5 → hI h 54 i = wC w i
/-- only the class's cells' numbers changed -/
def FC (h h' : HP) : Prop := hN h' = hN h ∧ hL h' = hL h ∧ hS h' = hS h ∧ hR h' = hR h ∧ ∀ q, 71 ≤ q → hI h' q = hI h q ∧ hJ h' q = hJ h q
theorem FC.rf (h : HP) : FC h h := ⟨rfl, rfl, rfl, rfl, fun _ _ => ⟨rfl, rfl⟩⟩
theorem FC.tr {h h1 h2 : HP} (f : FC h h1) (g : FC h1 h2) : FC h h2 := ⟨g.1.trans f.1, g.2.1.trans f.2.1, g.2.2.1.trans f.2.2.1, g.2.2.2.1.trans f.2.2.2.1, fun q hq => ⟨(g.2.2.2.2 q hq).1.trans (f.2.2.2.2 q hq).1, (g.2.2.2.2 q hq).2.trans (f.2.2.2.2 q hq).2⟩⟩
theorem Fr.C {a n : Nat} {h h' : HP} (f : Fr a n h h') (hd : a + n ≤ 71) : FC h h' := ⟨f.1, f.2.1, f.2.2.1, f.2.2.2.1, fun q hq => ⟨f.2.2.2.2.2 q (by omega), by rw [f.2.2.2.2.1]⟩⟩
theorem FrS.C {b : Nat} {h h' : HP} (f : FrS b h h') (hd : b + 1 < 71) : FC h h' := ⟨f.1, f.2.1, f.2.2.1, f.2.2.2.1, fun q hq => ⟨f.2.2.2.2.2 q (by omega), f.2.2.2.2.1 q (by omega)⟩⟩
/-- shapes alone -/
theorem CI.of {h h' : HP} (C : CI h) (hn : 71 ≤ hN h') (hs : ∀ q, q < 71 → hS h' q = hS h q ∧ hR h' q = hR h q) : CI h' := by
  obtain ⟨c1, c2, c3, c4, c5, c6, c7, c8, c9, c10, c11⟩ := C
  have oa : ∀ {c b : Nat}, b < 71 → OA c h b → OA c h' b := fun hb o => ⟨by omega, by rw [(hs _ hb).1]; exact o.2⟩
  have ia : ∀ {b n : Nat}, b < 71 → IA h b n → IA h' b n := fun hb o => ⟨by omega, by rw [(hs _ hb).1]; exact o.2⟩
  have la : ∀ {b n : Nat}, b < 71 → LA h b n → LA h' b n := fun hb o => ⟨by omega, by rw [(hs _ hb).1]; exact o.2⟩
  have is : ∀ {b : Nat}, b + 11 ≤ 71 → IsI h b → IsI h' b := fun hb o => ⟨oa (by omega) o.1, fun k hk => ia (by omega) (o.2.1 k hk), fun k hk => by rw [(hs _ (by omega)).2]; exact o.2.2 k hk⟩
  refine ⟨oa (by decide) c1, by rw [(hs 0 (by decide)).2]; exact c2, is (by decide) c3, is (by decide) c4, is (by decide) c5, ?_, ?_, ?_, ⟨by omega, by rw [(hs 53 (by decide)).1]; exact c9.2⟩, fun s h8 => ⟨by rw [(hs 53 (by decide)).2]; exact (c10 s h8).1, ?_⟩, ia (by decide) c11⟩
  · obtain ⟨o1, o2, o3, o4, o5⟩ := c6
    exact ⟨oa (by decide) o1, by rw [(hs 34 (by decide)).2]; exact o2, by rw [(hs 34 (by decide)).2]; exact o3, is (by decide) o4, ia (by decide) o5⟩
  · obtain ⟨o1, o2, o3, o4, o5⟩ := c7
    exact ⟨oa (by decide) o1, by rw [(hs 47 (by decide)).2]; exact o2, by rw [(hs 47 (by decide)).2]; exact o3, ia (by decide) o4, ia (by decide) o5⟩
  · obtain ⟨o1, o2, o3, o4, o5⟩ := c8
    exact ⟨oa (by decide) o1, by rw [(hs 50 (by decide)).2]; exact o2, by rw [(hs 50 (by decide)).2]; exact o3, ia (by decide) o4, ia (by decide) o5⟩
  · obtain ⟨o1, o2, o3⟩ := (c10 s h8).2
    exact ⟨oa (by omega) o1, by rw [(hs _ (by omega)).2]; exact o2, la (by omega) o3⟩
theorem CI.n {h : HP} (C : CI h) : 71 ≤ hN h := by
  have := (C.2.2.2.2.2.2.2.2.2.1 7 (by decide)).2.2.2.1
  omega
theorem FC.I {h h' : HP} (f : FC h h') (C : CI h) : CI h' := C.of (by rw [f.1]; exact C.n) (fun q _ => ⟨by rw [f.2.2.1], by rw [f.2.2.2.1]⟩)
theorem VC.keep {h h' : HP} {b : Nat} {x : St} (e : ∀ q, b ≤ q → q < b + 11 → hI h' q = hI h q) (V : VC h b x) : VC h' b x := by
  obtain ⟨g1, g2, g3, g4, g5, g6, g7, g8⟩ := V
  have eb := e b (by omega) (by omega)
  exact ⟨by rw [eb]; exact g1, by rw [eb]; exact g2, by rw [eb]; exact g3, by rw [eb]; exact g4, by rw [eb]; exact g5, by rw [eb]; exact g6, fun k hk i hi => by rw [e _ (by omega) (by omega)]; exact g7 k hk i hi, fun p hp s hs => by rw [e _ (by omega) (by omega)]; exact g8 p hp s hs⟩
theorem ShV.keep {h h' : HP} {b : Nat} {q : Sh} (e : hI h' b = hI h b) (ej : hJ h' (b + 1) = hJ h (b + 1)) (V : ShV h b q) : ShV h' b q := by
  obtain ⟨v1, v2⟩ := V
  exact ⟨by rw [e]; exact v1, fun g => by rw [e, ej]; exact v2 g⟩
theorem TpI.keep {h h' : HP} {t n : Nat} {T : Nat → Nat} (e : hI h' t = hI h t) (V : TpI h t T n) : TpI h' t T n := ⟨V.1, V.2.1, fun i hi => by rw [e]; exact V.2.2 i hi⟩
theorem Sm.CI {h h' : HP} (S : Sm 71 h h') (hn : 71 ≤ hN h') (C : CI h) : CI h' := C.of hn (fun q hq => ⟨(S q hq).1, (S q hq).2.1⟩)
theorem Sm.CV {h h' : HP} {w : Wd} (S : Sm 71 h h') (V : CV h w) : CV h' w := by
  obtain ⟨v1, v2, v3, v4, v5, v6, v7⟩ := V
  have e : ∀ q, q < 71 → hI h' q = hI h q := fun q hq => (S q hq).2.2.1
  exact ⟨v1.keep (fun q _ hq => e q (by omega)), fun y hy => (v2 y hy).keep (fun q _ hq => e q (by omega)), by rw [e 0 (by decide)]; exact v3, v4.keep (e 51 (by decide)), by rw [e 50 (by decide)]; exact v5, fun s hs => (v6 s hs).keep (e _ (by omega)) (S _ (by omega)).2.2.2, fun i hi => by rw [e 54 (by decide)]; exact v7 i hi⟩
/-- the class's work leaves the reference as it was -/
theorem FC.R {h h' : HP} {w : Wd} (f : FC h h') (R : RR h 71 w) : RR h' 71 w := by
  obtain ⟨c, g, R1, R2⟩ := R
  refine ⟨c, g, ?_, R2.keep R1 rfl (fun q hq => f.2.2.2.2 q ?_)⟩
  · obtain ⟨r1, r2, r3, r4, r5, r6, r7, r8⟩ := R1
    have md : ∀ {b : Nat}, MdI h b → MdI h' b := fun M => M.keep (by rw [f.1]; exact Nat.le_refl _) (fun q _ _ => by rw [f.2.2.1]) (by rw [f.2.2.2.1]) (fun j _ => by rw [f.2.2.2.1])
    exact ⟨by rw [f.1]; exact r1, by rw [f.2.1]; exact r2, md r3, fun j h1 h2 => md (r4 j h1 h2), fun k hk => by rw [f.2.2.2.1]; exact r5 k hk, r6, r7, r8⟩
  · rcases hq with hq | ⟨j, h0, h1, h2⟩ <;> omega
def WI (h : HP) (w : Wd) : Prop := OkW w ∧ CI h ∧ CV h w ∧ RR h 71 w
theorem RR.n {h : HP} {w : Wd} (R : RR h 71 w) : 71 ≤ hN h := by
  obtain ⟨c, f, R1, -⟩ := R
  have := R1.1
  omega
/-- the same answer, and both hold the same world again -/
def Alk {α : Type} (f g : HP → Option (α × HP)) (h : HP) : Prop := ∃ v h1 h2 w', f h = some (v, h1) ∧ g h1 = some (v, h2) ∧ WI h2 w' ∧ OA 6 h1 71
theorem both {α : Type} {f g : HP → Option (α × HP)} {h : HP} {w : Wd} (W : WI h w) (v : α) (w' : Wd) (O' : OkW w') (ha : Ret (f h) v (fun h1 => FC h h1 ∧ CV h1 w')) (hb : ∀ h1, RR h1 71 w → Ret (g h1) v (fun h2 => RR h2 71 w' ∧ Sm 71 h1 h2)) : Alk f g h := by
  obtain ⟨h1, e1, F, V⟩ := ha
  obtain ⟨h2, e2, R2, S⟩ := hb h1 (F.R W.2.2.2)
  exact ⟨v, h1, h2, w', e1, e2, ⟨O', S.CI R2.n (F.I W.2.1), S.CV V, R2⟩, (F.R W.2.2.2).md.1⟩
/-- one refused -/
def rfW (w : Wd) (i : Nat) : Wd := (w.1, w.2.1, w.2.2.1, w.2.2.2.1, upd (wC w) i (wC w i + 1))
theorem OkW_rf {w : Wd} (O : OkW w) (i : Nat) : OkW (rfW w i) := O
section CHECKS
variable {h : HP} {w : Wd} {m : Nat}
theorem out_if {v u : Int32} {n : Nat} (hu : u = nI n) (hn : n ≤ 100000) : f_X5_outside v u h = some (if inR v n then 0 else 1, h) := by
  subst hu
  have z0 : (0 : Int32).toInt = 0 := rfl
  unfold f_X5_outside
  rw [rZ0, rZ1]
  by_cases g1 : v < 0
  · rw [if_pos g1]
    rw [Int32.lt_iff_toInt_lt, z0] at g1
    rw [if_neg (show ¬ inR v n from fun q => by have := q.1; omega)]
  · rw [if_neg g1]
    rw [Int32.lt_iff_toInt_lt, z0] at g1
    by_cases g2 : v < nI n
    · rw [if_pos g2]
      rw [Int32.lt_iff_toInt_lt, nI_toInt (by omega)] at g2
      rw [if_pos (show inR v n from ⟨by omega, g2⟩)]
    · rw [if_neg g2]
      rw [Int32.lt_iff_toInt_lt, nI_toInt (by omega)] at g2
      rw [if_neg (show ¬ inR v n from fun q => g2 q.2)]
theorem cY {τ : Type} (u : Int32) {v : Int32} {n : Nat} (g : inR v n) (hn : n ≤ 100000) {A B : Int32 → HP → Option τ} (hu : u = nI n := by rfl) : (ob (f_X5_outside v u h) fun x h => if x = 0 then A x h else B x h) = A 0 h := by
  rw [out_if hu hn, if_pos g]
  rfl
theorem cN {τ : Type} (u : Int32) {v : Int32} {n : Nat} (g : ¬ inR v n) (hn : n ≤ 100000) {A B : Int32 → HP → Option τ} (hu : u = nI n := by rfl) : (ob (f_X5_outside v u h) fun x h => if x = 0 then A x h else B x h) = B 1 h := by
  rw [out_if hu hn, if_neg g]
  rfl
theorem cP_if (C : CI h) (V : CV h w) (O : OkW w) {v : Int32} : inv 5 0 h (f_X5_noPerson 0 v h) = some (if inR v (sP (wX w)) then 0 else 1, h) := by
  have := O.1.1
  rw [inv_ok C.1]
  unfold f_X5_noPerson
  rw [gR_ok C.1 C.2.1.1, bd_ok, gI_ok C.2.2.1.1, bd_ok, V.1.p, out_if rfl (by omega), ob_ok]
  split
  · exact rZ0
  · exact rZ1
theorem cS_if (C : CI h) (V : CV h w) (O : OkW w) {v : Int32} : inv 5 0 h (f_X5_noSong 0 v h) = some (if inR v (sS (wX w)) then 0 else 1, h) := by
  have := O.1.2.1
  rw [inv_ok C.1]
  unfold f_X5_noSong
  rw [gR_ok C.1 C.2.1.1, bd_ok, gI_ok C.2.2.1.1, bd_ok, V.1.s, out_if rfl (by omega), ob_ok]
  split
  · exact rZ0
  · exact rZ1
theorem cPY {τ : Type} (C : CI h) (V : CV h w) (O : OkW w) {v : Int32} (g : inR v (sP (wX w))) {A B : Int32 → HP → Option τ} : (ob (inv 5 0 h (f_X5_noPerson 0 v h)) fun x h => if x = 0 then A x h else B x h) = A 0 h := by
  rw [cP_if C V O, if_pos g]
  rfl
theorem cPN {τ : Type} (C : CI h) (V : CV h w) (O : OkW w) {v : Int32} (g : ¬ inR v (sP (wX w))) {A B : Int32 → HP → Option τ} : (ob (inv 5 0 h (f_X5_noPerson 0 v h)) fun x h => if x = 0 then A x h else B x h) = B 1 h := by
  rw [cP_if C V O, if_neg g]
  rfl
theorem cSY {τ : Type} (C : CI h) (V : CV h w) (O : OkW w) {v : Int32} (g : inR v (sS (wX w))) {A B : Int32 → HP → Option τ} : (ob (inv 5 0 h (f_X5_noSong 0 v h)) fun x h => if x = 0 then A x h else B x h) = A 0 h := by
  rw [cS_if C V O, if_pos g]
  rfl
theorem cSN {τ : Type} (C : CI h) (V : CV h w) (O : OkW w) {v : Int32} (g : ¬ inR v (sS (wX w))) {A B : Int32 → HP → Option τ} : (ob (inv 5 0 h (f_X5_noSong 0 v h)) fun x h => if x = 0 then A x h else B x h) = B 1 h := by
  rw [cS_if C V O, if_neg g]
  rfl
theorem rY {τ : Type} (b : Int64) {v : Int32} {n : Nat} (g : inR v n) {A B : Int32 → HP → Option τ} (hb : b.toInt = (n : Int) - 1 := by rfl) : (ob (f_X6_in v.toInt64 0 b h) fun x h => if x = 0 then A x h else B x h) = B 1 h := by
  rw [r_in hb, if_pos g]
  rfl
theorem rN {τ : Type} (b : Int64) {v : Int32} {n : Nat} (g : ¬ inR v n) {A B : Int32 → HP → Option τ} (hb : b.toInt = (n : Int) - 1 := by rfl) : (ob (f_X6_in v.toInt64 0 b h) fun x h => if x = 0 then A x h else B x h) = A 0 h := by
  rw [r_in hb, if_neg g]
  rfl
theorem rPY {τ : Type} (R : RR h m w) (O : OkW w) {v : Int32} (g : inR v (sP (wX w))) {A B : Int32 → HP → Option τ} : (ob (inv 6 m h (f_X6_isPerson m v h)) fun x h => if x = 0 then A x h else B x h) = B 1 h := by
  rw [inv_ok R.md.1, r_isP R.md O.1 R.v, if_pos g]
  rfl
theorem rPN {τ : Type} (R : RR h m w) (O : OkW w) {v : Int32} (g : ¬ inR v (sP (wX w))) {A B : Int32 → HP → Option τ} : (ob (inv 6 m h (f_X6_isPerson m v h)) fun x h => if x = 0 then A x h else B x h) = A 0 h := by
  rw [inv_ok R.md.1, r_isP R.md O.1 R.v, if_neg g]
  rfl
theorem rSY {τ : Type} (R : RR h m w) (O : OkW w) {v : Int32} (g : inR v (sS (wX w))) {A B : Int32 → HP → Option τ} : (ob (inv 6 m h (f_X6_isSong m v h)) fun x h => if x = 0 then A x h else B x h) = B 1 h := by
  rw [inv_ok R.md.1, r_isS R.md O.1 R.v, if_pos g]
  rfl
theorem rSN {τ : Type} (R : RR h m w) (O : OkW w) {v : Int32} (g : ¬ inR v (sS (wX w))) {A B : Int32 → HP → Option τ} : (ob (inv 6 m h (f_X6_isSong m v h)) fun x h => if x = 0 then A x h else B x h) = A 0 h := by
  rw [inv_ok R.md.1, r_isS R.md O.1 R.v, if_neg g]
  rfl
/-- refused, by the class -/
theorem c_refuse (C : CI h) (V : CV h w) {v : Int32} {i : Nat} (hi : i < 5) (e : (-2) - v = nI i) : Ret (f_X5_refuse 0 v h) v (fun h1 => FC h h1 ∧ CV h1 (rfW w i)) := by
  unfold f_X5_refuse
  rw [out_if (u := 5) (n := 5) rfl (by decide), ob_ok, e, if_pos ((inR_n (by omega)).mpr hi), if_pos rfl, gR_ok C.1 C.2.1.2.2.2.2.2.2.2, bd_ok, lI_ok C.2.2.2.2.2.2.2.2.2.2 hi (by decide), bd_ok, sI_ok C.2.2.2.2.2.2.2.2.2.2 hi (by decide), bd_ok]
  obtain ⟨v1, v2, v3, v4, v5, v6, v7⟩ := V
  have ek : ∀ q, q ≠ 54 → hI (wI h 54 (upd (hI h 54) i (hI h 54 i + 1))) q = hI h q := fun q hq => hI_wn h _ hq
  refine Ret.mk ⟨(Fr.w (a := 54) (n := 1) (by omega) (by omega)).C (by decide), v1.keep (fun q _ hq => ek q (by omega)), fun y hy => (v2 y hy).keep (fun q _ hq => ek q (by omega)), v3, v4.keep (ek 51 (by decide)), v5, fun s hs => (v6 s hs).keep (ek _ (by omega)) rfl, fun j hj => ?_⟩
  rw [hI_w]
  show (if j = i then hI h 54 i + 1 else hI h 54 j) = (if j = i then wC w i + 1 else wC w j)
  rw [v7 i hi, v7 j hj]
theorem RW.ref {c : Nat} {f : Nat → Option Nat} (R1 : RI h m c f) (R2 : RW h m f w) {i : Nat} (hi : i < 5) {h' : HP} (F : Fr (m + 16) 1 h h') (e : hI h' (m + 16) = upd (hI h (m + 16)) (2 + i) (hI h (m + 16) (2 + i) + 1)) : RW h' m f (rfW w i) := by
  obtain ⟨v1, v2, v3, v4, v5, v6, v7⟩ := R2
  have r6 := R1.2.2.2.2.2.1
  refine ⟨VG.fr F (by omega) (by omega) v1, v2, fun y hy => ?_, ⟨v4.1, v4.2.1, fun i hh => by rw [F.2.2.2.2.2 (m + 15) (by omega)]; exact v4.2.2 i hh⟩, by rw [F.2.2.2.2.2 m (by omega)]; exact v5, fun s hs => ?_, fun j hj => ?_⟩
  · obtain ⟨j, hj, hv⟩ := v3 y hy
    have := r6 0 (by decide) j hj
    exact ⟨j, hj, VG.fr F (by omega) (by omega) hv⟩
  · obtain ⟨s1, s2, s3⟩ := v6 s hs
    refine ⟨by rw [F.2.2.2.2.2 (m + 1) (by omega)]; exact s1, fun e => ?_, fun e => by rw [F.2.2.2.2.2 (m + 14) (by omega)]; exact s3 e⟩
    obtain ⟨t1, t2, t3⟩ := s2 e
    exact ⟨by rw [F.2.2.2.2.2 (m + 2) (by omega)]; exact t1, by rw [F.2.2.2.2.2 (m + 3) (by omega)]; exact t2, fun i hh => by rw [F.2.2.2.2.1]; exact t3 i hh⟩
  · rw [e]
    show (if 2 + j = 2 + i then hI h (m + 16) (2 + i) + 1 else hI h (m + 16) (2 + j)) = (if j = i then wC w i + 1 else wC w j)
    rw [v7 i hi, v7 j hj]
    by_cases g : j = i
    · rw [if_pos (by omega), if_pos g]
    · rw [if_neg (by omega), if_neg g]
theorem r_refuse (R : RR h m w) {v : Int32} {i : Nat} (hi : i < 5) (e : -v = nI (2 + i)) : Ret (f_X6_refuse m v h) v (fun h1 => RR h1 m (rfW w i) ∧ Sm m h h1) := by
  have M := R.md
  obtain ⟨c, f, R1, R2⟩ := R
  unfold f_X6_refuse
  rw [M.r 8 16 8 (by decide) rfl, bd_ok, e, lI_ok (M.a 8 16 8 (by decide) rfl) (by omega) (by decide), bd_ok, sI_ok (M.a 8 16 8 (by decide) rfl) (by omega) (by decide), bd_ok]
  have F : Fr (m + 16) 1 h (wI h (m + 16) (upd (hI h (m + 16)) (2 + i) (hI h (m + 16) (2 + i) + 1))) := Fr.w (by omega) (by omega)
  exact Ret.mk ⟨⟨c, f, R1.fr F, R2.ref R1 hi F (hI_w _ _ _)⟩, fun q hq => ⟨rfl, rfl, F.2.2.2.2.2 q (by omega), rfl⟩⟩
/-- both refuse -/
theorem no_both {f g : HP → Option (Int32 × HP)} (W : WI h w) {i : Nat} (hi : i < 5) {v : Int32} (e1 : (-2) - v = nI i) (e2 : -v = nI (2 + i)) (ha : f h = ob (inv 5 0 h (f_X5_refuse 0 v h)) fun x h => some (x, h)) (hb : ∀ h1, RR h1 71 w → g h1 = ob (inv 6 71 h1 (f_X6_refuse 71 v h1)) fun x h => some (x, h)) : Alk f g h := by
  refine both W v (rfW w i) (OkW_rf W.1 i) ?_ (fun h1 R => ?_)
  · rw [ha]
    exact Ret.icall W.2.1.1 (c_refuse W.2.1 W.2.2.1 hi e1) fun h2 q => Ret.mk q
  · rw [hb h1 R]
    exact Ret.icall R.md.1 (r_refuse R hi e2) fun h2 q => Ret.mk q
theorem bad {f g : HP → Option (Int32 × HP)} (W : WI h w) (ha : f h = ob (inv 5 0 h (f_X5_refuse 0 (-2) h)) fun x h => some (x, h)) (hb : ∀ h1, RR h1 71 w → g h1 = ob (inv 6 71 h1 (f_X6_refuse 71 (-2) h1)) fun x h => some (x, h)) : Alk f g h := no_both (i := 0) W (by decide) (by decide) (by decide) ha hb
end CHECKS
