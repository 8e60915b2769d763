/-! THE CLASS'S ISLE: one like another; years drawn; a new one -/
theorem cpI_ok {h : HP} {b a n : Nat} {u : Int32} (hu : u = nI n) (H0 : IA h b n) (H1 : IA h a n) (hn : n ≤ 1000) : cpI b 0 a 0 u h = some (wI h a (va_cpy (hI h b) (hI h a) 0 0 n)) := by
  subst hu
  have e0 : (0 : Int32).toNatClampNeg = 0 := rfl
  have e : (nI n).toNatClampNeg = n := tcN (by omega)
  have ok : cpOK n n 0 0 (nI n) = true := by
    unfold cpOK
    refine decide_eq_true ⟨by decide, by decide, ?_, by rw [e, e0]; omega, by rw [e, e0]; omega⟩
    rw [Int32.lt_iff_toInt_lt, nI_toInt (by omega), show (0 : Int32).toInt = 0 from rfl]
    omega
  unfold cpI
  rw [if_pos ⟨H0.o, H1.o, by rw [H0.l, H1.l]; exact ok⟩, e0, e]
section ISLE5
variable {h : HP} {a : Nat} {x : St}
/-- the numbers below j are the other's -/
def BecN (h : HP) (a b j : Nat) (h' : HP) : Prop := Fr a 11 h h' ∧ ∀ k, k < j → hI h' a k = hI h b k
/-- and the rows below j -/
def BecA (h : HP) (a b j : Nat) (h' : HP) : Prop := Fr a 11 h h' ∧ (∀ k, k < 6 → hI h' a k = hI h b k) ∧ ∀ k, k < j → ∀ i, i < ln k → hI h' (a + 1 + k) i = hI h (b + 1 + k) i
theorem b_num {ρ : Type} {b : Nat} {G : HP → Option (ρ × HP)} {w : ρ} {Q : HP → Prop} (H : IsI h a) (Hb : IsI h b) (hd : b + 11 ≤ a ∨ a + 11 ≤ b) (k : Nat) {h1 : HP} (B : BecN h a b k h1) (kk : ∀ h', BecN h a b (k + 1) h' → Ret (G h') w Q) : Ret ((gI 0 k b h1).bind fun v => (pI 0 k a v h1).bind G) w Q := by
  obtain ⟨F, B⟩ := B
  rw [gI_ok (F.OA Hb.1), bd_ok, pI_ok (F.OA H.1), bd_ok]
  refine kk _ ⟨F.tr (Fr.w (by omega) (by omega)), fun j hj => ?_⟩
  rw [hI_w, F.2.2.2.2.2 b (by omega)]
  by_cases e : j = k
  · rw [e, upd_s]
  · rw [upd_n _ _ e]
    exact B j (by omega)
theorem b_arr {ρ : Type} {b : Nat} {G : HP → Option (ρ × HP)} {w : ρ} {Q : HP → Prop} (H : IsI h a) (Hb : IsI h b) (hd : b + 11 ≤ a ∨ a + 11 ≤ b) (k : Nat) (hk : k < 10) {j : Nat} (hj : 6 + k = j) {u : Int32} (hu : u = nI (ln k)) {h1 : HP} (B : BecA h a b k h1) (kk : ∀ h', BecA h a b (k + 1) h' → Ret (G h') w Q) : Ret ((gR 0 j b h1).bind fun q => (gR 0 j a h1).bind fun r => (cpI q 0 r 0 u h1).bind G) w Q := by
  obtain ⟨F, B1, B⟩ := B
  have hl := ln_le k hk
  rw [(F.I Hb).r k hk hj rfl, bd_ok, (F.I H).r k hk hj rfl, bd_ok, cpI_ok hu ((F.I Hb).a k hk rfl rfl) ((F.I H).a k hk rfl rfl) (by omega), bd_ok]
  refine kk _ ⟨F.tr (Fr.w (by omega) (by omega)), fun k' hk' => ?_, fun k' hk' i hi => ?_⟩
  · rw [hI_wn _ _ (by omega)]
    exact B1 k' hk'
  · by_cases e : k' = k
    · rw [e, hI_w, va_cpy, if_pos ⟨by omega, by rw [← e]; omega⟩, F.2.2.2.2.2 (b + 1 + k) (by omega)]
      congr 1
      omega
    · rw [hI_wn _ _ (by omega)]
      exact B k' (by omega) i hi
theorem s_become {b : Nat} (H : IsI h a) (Hb : IsI h b) (O : Ok x) (V : VC h b x) (hd : b + 11 ≤ a ∨ a + 11 ≤ b) : Ret (f_X0_become a b h) () (fun h' => Fr a 11 h h' ∧ VC h' a x) := by
  have hP := O.1
  have hS := O.2.1
  unfold f_X0_become
  refine b_num H Hb hd 0 ⟨Fr.rf _ _ _, fun k hk => absurd hk (by omega)⟩ fun h1 B1 => ?_
  refine b_num H Hb hd 1 B1 fun h2 B2 => ?_
  refine b_num H Hb hd 2 B2 fun h3 B3 => ?_
  refine b_num H Hb hd 3 B3 fun h4 B4 => ?_
  refine b_num H Hb hd 4 B4 fun h5 B5 => ?_
  refine b_num H Hb hd 5 B5 fun h6 B6 => ?_
  refine b_arr H Hb hd 0 (by decide) rfl rfl ⟨B6.1, B6.2, fun k hk => absurd hk (by omega)⟩ fun g1 C1 => ?_
  refine b_arr H Hb hd 1 (by decide) rfl rfl C1 fun g2 C2 => ?_
  refine b_arr H Hb hd 2 (by decide) rfl rfl C2 fun g3 C3 => ?_
  refine b_arr H Hb hd 3 (by decide) rfl rfl C3 fun g4 C4 => ?_
  refine b_arr H Hb hd 4 (by decide) rfl rfl C4 fun g5 C5 => ?_
  refine b_arr H Hb hd 5 (by decide) rfl rfl C5 fun g6 C6 => ?_
  refine b_arr H Hb hd 6 (by decide) rfl rfl C6 fun g7 C7 => ?_
  refine b_arr H Hb hd 7 (by decide) rfl rfl C7 fun g8 C8 => ?_
  refine b_arr H Hb hd 8 (by decide) rfl rfl C8 fun g9 C9 => ?_
  refine b_arr H Hb hd 9 (by decide) rfl rfl C9 fun g C => ?_
  obtain ⟨F, C1, C2⟩ := C
  refine Ret.mk ⟨F, ?_⟩
  obtain ⟨v1, v2, v3, v4, v5, v6, v7, v8⟩ := V
  refine ⟨(C1 0 (by decide)).trans v1, (C1 1 (by decide)).trans v2, (C1 2 (by decide)).trans v3, (C1 3 (by decide)).trans v4, (C1 4 (by decide)).trans v5, (C1 5 (by decide)).trans v6, fun k hk i hi => (C2 k (by omega) i hi).trans (v7 k hk i hi), fun p hp s hs => (C2 9 (by decide) _ (show p * 6 + s < 48 by omega)).trans (v8 p hp s hs)⟩
/-- what is drawn -/
def drw (d : Int32) : Int32 := d * 1103515245 + 12345
def drN (d : Int32) (m : Nat) : Nat := ((drw d).toUInt32 >>> 16).toNat % m
theorem dr16 (u : UInt32) : (u >>> 16).toNat < 65536 := by
  rw [UInt32.toNat_shiftRight]
  show u.toNat >>> 16 < 65536
  rw [Nat.shiftRight_eq_div_pow]
  have := u.toNat_lt
  omega
theorem drnI (u : UInt32) : ((u >>> ((16 : Int32).toUInt32 &&& Int32.toUInt32 31)).toInt32) = nI (u >>> 16).toNat := by
  have e : ((16 : Int32).toUInt32 &&& Int32.toUInt32 31) = 16 := by decide
  rw [e]
  apply Int32.toBitVec_inj.mp
  apply BitVec.eq_of_toNat_eq
  have := dr16 u
  show (u >>> 16).toNat = (BitVec.ofNat 32 (u >>> 16).toNat).toNat
  rw [BitVec.toNat_ofNat, Nat.mod_eq_of_lt (by omega)]
theorem drem {d : Int32} {m : Nat} (hm : 0 < m) (hm2 : m < 100) : ((((drw d).toUInt32 >>> ((16 : Int32).toUInt32 &&& Int32.toUInt32 31)).toInt32) - ((((drw d).toUInt32 >>> ((16 : Int32).toUInt32 &&& Int32.toUInt32 31)).toInt32) / nI m) * nI m) = nI (drN d m) := by
  have := dr16 (drw d).toUInt32
  rw [drnI, pk_rem (by omega) hm (by omega)]
  rfl
theorem drN_lt {d : Int32} {m : Nat} (hm : 0 < m) : drN d m < m := Nat.mod_lt _ hm
theorem dzN {m : Nat} (hm : 0 < m) (hm2 : m < 100) : dz (nI m) = some () := by
  unfold dz
  rw [if_neg (by rw [nI0 (by omega)]; omega)]
theorem s_draw (H : IsI h a) (V : VC h a x) {m : Nat} (hm : 0 < m) (hm2 : m < 100) : Ret (f_X0_draw a (nI m) h) (nI (drN (sD x) m)) (fun h' => Fr a 11 h h' ∧ VC h' a (uD x (drw (sD x)))) := by
  have F : Fr a 11 h (wI h a (upd (hI h a) 4 (drw (sD x)))) := Fr.w (by omega) (by omega)
  have V1 : VC (wI h a (upd (hI h a) 4 (drw (sD x)))) a (uD x (drw (sD x))) := VC_seed V
  unfold f_X0_draw
  rw [gI_ok H.1, bd_ok, V.d, pI_ok H.1, bd_ok]
  show Ret (if 0 < nI m then _ else _) _ _
  rw [if_pos (show (0 : Int32) < nI m from ltY (m := 0) hm (by omega))]
  show Ret (Option.bind (gI 0 4 a (wI h a (upd (hI h a) 4 (drw (sD x))))) _) _ _
  rw [gI_ok (F.OA H.1), bd_ok, V1.d, dzN hm hm2, bd_ok]
  show Ret (some ((((drw (sD x)).toUInt32 >>> ((16 : Int32).toUInt32 &&& Int32.toUInt32 31)).toInt32) - ((((drw (sD x)).toUInt32 >>> ((16 : Int32).toUInt32 &&& Int32.toUInt32 31)).toInt32) / nI m) * nI m, _)) _ _
  rw [drem hm hm2]
  exact Ret.mk ⟨F, V1⟩
/-- a year drawn: the work, who grieves, how much -/
def drS (x : St) : St := uA (uD (uD (uV (uD x (drw (sD x))) 2 (drN (sD x) 10)) (drw (drw (sD x)))) (drw (drw (drw (sD x))))) 3 (drN (drw (sD x)) (sP x)) (drN (drw (drw (sD x))) 10)
theorem Ok_uD {x : St} (O : Ok x) (d : Int32) : Ok (uD x d) := O
theorem Ok_drS {x : St} (O : Ok x) : Ok (drS x) :=
  Ok_uA (Ok_uD (Ok_uD (Ok_uV (Ok_uD O _) (fun _ => drN_lt (by decide)) (fun q => by cases q) (fun q => by cases q)) _) _) (by decide) (fun _ => drN_lt (by decide))
theorem s_drawn (H : IsI h a) (O : Ok x) (V : VC h a x) (hp : 0 < sP x) : Ret (f_X0_passDrawnYear a h) (nI (fndN (yr1 (drS x)) (sS x))) (fun h' => Fr a 11 h h' ∧ VC h' a (yearS (drS x))) := by
  have hP := O.1
  unfold f_X0_passDrawnYear
  refine Ret.icall H.1 (s_draw (m := 10) H V (by decide) (by decide)) fun h1 ⟨F1, V1⟩ => ?_
  have H1 := F1.I H
  refine st_num H1 V1 2 (by decide) fun h2 H2 V2 F2 => ?_
  rw [gI_ok H2.1, bd_ok, V2.p, sP_uV, sP_uD]
  refine Ret.icall H2.1 (s_draw (m := sP x) H2 V2 hp (by omega)) fun h3 ⟨F3, V3⟩ => ?_
  rw [sD_uV, sD_uD] at V3
  rw [sD_uV, sD_uD]
  have H3 := F3.I H2
  rw [H3.r 3 (by decide) rfl rfl, bd_ok]
  refine Ret.icall H3.1 (s_draw (m := 10) H3 V3 (by decide) (by decide)) fun h4 ⟨F4, V4⟩ => ?_
  rw [sD_uD] at V4
  rw [sD_uD]
  have H4 := F4.I H3
  have hq : drN (drw (sD x)) (sP x) < 8 := by have := drN_lt (d := drw (sD x)) hp; omega
  have V5 := VC_row V4 (k := 3) (i := drN (drw (sD x)) (sP x)) (v := drN (drw (drw (sD x))) 10) (by decide) (b := a + 4) rfl
  have F5 : Fr a 11 h4 (wI h4 (a + 4) (upd (hI h4 (a + 4)) (drN (drw (sD x)) (sP x)) (nI (drN (drw (drw (sD x))) 10)))) := Fr.w (by omega) (by omega)
  have e5 := sI_ok (x := nI (drN (drw (drw (sD x))) 10)) (H4.a 3 (by decide) (b := a + 4) rfl (n := 8) rfl) (k := drN (drw (sD x)) (sP x)) hq (by decide)
  show Ret (Option.bind (sI (a + 4) (nI (drN (drw (sD x)) (sP x))) (nI (drN (drw (drw (sD x))) 10)) h4) _) _ _
  rw [e5, bd_ok]
  generalize wI h4 (a + 4) (upd (hI h4 (a + 4)) (drN (drw (sD x)) (sP x)) (nI (drN (drw (drw (sD x))) 10))) = h5 at V5 F5 ⊢
  have H5 := F5.I H4
  have r := s_passYear (x := drS x) H5 (Ok_drS O) V5
  have e : sS (drS x) = sS x := by unfold drS; rw [sS_uA, sS_uD, sS_uD, sS_uV, sS_uD]
  rw [e] at r
  refine Ret.icall H5.1 r fun h6 ⟨F6, V6⟩ => ?_
  exact Ret.mk ⟨((((F1.tr F2).tr F3).tr F4).tr F5).tr F6, V6⟩
end ISLE5
