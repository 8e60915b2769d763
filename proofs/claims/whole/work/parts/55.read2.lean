/-! THE READER: a statement, all of them -/
def stB : Nat ⊕ (St × Nat) → Int32
  | .inl _ => 0
  | .inr _ => 1
def stQ (h : HP) (r a : Nat) (T : Nat → Nat) (n : Nat) (w : Nat ⊕ (St × Nat)) : Prop := (∀ p, w = .inl p → hI h r 5 = nI p) ∧ ∀ q, w = .inr q → RS h r T n q.2 ∧ VC h a q.1
theorem stQ_l {h : HP} {r a : Nat} {T : Nat → Nat} {n p : Nat} (e : hI h r 5 = nI p) : stQ h r a T n (.inl p) := ⟨fun p' h => by obtain rfl := Sum.inl.inj h; exact e, fun q h => absurd h Sum.inl_ne_inr⟩
theorem stQ_r {h : HP} {r a : Nat} {T : Nat → Nat} {n : Nat} {q : St × Nat} (e : RS h r T n q.2 ∧ VC h a q.1) : stQ h r a T n (.inr q) := ⟨fun p h => absurd h Sum.inr_ne_inl, fun q' h => by obtain rfl := Sum.inr.inj h; exact e⟩
/-- all statements: none if there is no end of them -/
def rdS (T : Nat → Nat) (n : Nat) (go : St → Nat → Nat → Option (Nat ⊕ (St × Nat))) (c : Nat) : Nat ⊕ (St × Nat) → Option (Nat ⊕ (St × Nat))
  | .inl p => some (.inl p)
  | .inr q => if tK T n q.2 = 0 then some (.inr (q.1, c)) else if tK T n q.2 = 3 then go q.1 (tE T n q.2) (c + 1) else some (.inl (tS T n q.2))
def rdA (T : Nat → Nat) (n : Nat) : Nat → St → Nat → Nat → Option (Nat ⊕ (St × Nat))
  | 0 => fun _ _ _ => none
  | k + 1 => fun x e c => rdS T n (rdA T n k) c (stR T n x e)
theorem rdA_1 (T : Nat → Nat) (n k : Nat) (x : St) (e c : Nat) : rdA T n (k + 1) x e c = rdS T n (rdA T n k) c (stR T n x e) := rfl
theorem rdS_l (T : Nat → Nat) (n : Nat) (go : St → Nat → Nat → Option (Nat ⊕ (St × Nat))) (c p : Nat) : rdS T n go c (.inl p) = some (.inl p) := rfl
theorem rdS_r (T : Nat → Nat) (n : Nat) (go : St → Nat → Nat → Option (Nat ⊕ (St × Nat))) (c : Nat) (q : St × Nat) : rdS T n go c (.inr q) = if tK T n q.2 = 0 then some (.inr (q.1, c)) else if tK T n q.2 = 3 then go q.1 (tE T n q.2) (c + 1) else some (.inl (tS T n q.2)) := rfl
theorem frm_spec {T : Nat → Nat} {n e : Nat} (h : frm T n e < 10) : splB T n e (frm T n e) = true ∧ tK T n e = 1 := by
  have g := (fstN_spec (splB T n e) 10).2.2 h
  exact ⟨g, (of_decide_eq_true g).1⟩
theorem stR_A {T : Nat → Nat} {n : Nat} {x : St} {e f k : Nat} (hf : frm T n e = f) (g1 : f < 10) (g2 : rmB x f = true) (hk : k < wnt f) (h1 : ∀ j, j < k → okN T n x f e j = true) (h2 : ¬ okN T n x f e k = true) : stR T n x e = .inl (tS T n (psN T n e k)) := by
  subst hf
  have ek : fstN (fun k => !(okN T n x (frm T n e) e k)) (wnt (frm T n e)) = k := fstN_is (by omega) (fun j hj => by simp [h1 j hj]) (fun _ => by simp [h2])
  unfold stR
  rw [if_pos ⟨g1, g2⟩, ek, if_pos hk]
theorem stR_B {T : Nat → Nat} {n : Nat} {x : St} {e f : Nat} (hf : frm T n e = f) (g1 : f < 10) (g2 : rmB x f = true) (h1 : ∀ j, j < wnt f → okN T n x f e j = true) : stR T n x e = .inr (apS x f (gvN T n e), psN T n e (wnt f)) := by
  subst hf
  have ek : fstN (fun k => !(okN T n x (frm T n e) e k)) (wnt (frm T n e)) = wnt (frm T n e) := fstN_is (Nat.le_refl _) (fun j hj => by simp [h1 j hj]) (fun h => absurd h (Nat.lt_irrefl _))
  unfold stR
  rw [if_pos ⟨g1, g2⟩, ek, if_neg (Nat.lt_irrefl _)]
theorem stR_C {T : Nat → Nat} {n : Nat} {x : St} {e : Nat} (g : ¬ (frm T n e < 10 ∧ rmB x (frm T n e) = true)) : stR T n x e = .inl (tS T n e) := by
  unfold stR
  rw [if_neg g]
theorem first_bad {P : Nat → Prop} : ∀ n, ¬ (∀ j, j < n → P j) → ∃ k, k < n ∧ (∀ j, j < k → P j) ∧ ¬ P k
  | 0, h => absurd (fun j hj => absurd hj (Nat.not_lt_zero _)) h
  | n + 1, h => by
    by_cases q : ∀ j, j < n → P j
    · exact ⟨n, by omega, q, fun e => h (fun j hj => by
        by_cases g : j = n
        · rw [g]; exact e
        · exact q j (by omega))⟩
    · obtain ⟨k, h1, h2⟩ := first_bad n q
      exact ⟨k, by omega, h2⟩
theorem stR_ok {T : Nat → Nat} (hT : ∀ i, T i < 256) {n : Nat} {x : St} {e : Nat} (O : Ok x) (he : e ≤ n) {q : St × Nat} (h : stR T n x e = .inr q) : Ok q.1 ∧ q.2 ≤ n ∧ e + 1 ≤ q.2 := by
  by_cases g : frm T n e < 10 ∧ rmB x (frm T n e) = true
  · have hs := frm_spec g.1
    generalize hfe : frm T n e = f at g hs
    by_cases ga : ∀ j, j < wnt f → okN T n x f e j = true
    · rw [stR_B hfe g.1 g.2 ga] at h
      have h := Sum.inr.inj h
      subst h
      have ht := tE_spec T he
      have hts := tS_spec T he
      have hp := psN_le T he (wnt f)
      have := ht.2.2 (by omega)
      exact ⟨Ok_apS O g.2 (fun k hk => (of_decide_eq_true (ga k hk)).2.1), hp.1, by show e + 1 ≤ psN T n e (wnt f); omega⟩
    · obtain ⟨k, h1, h2, h3⟩ := first_bad _ ga
      rw [stR_A hfe g.1 g.2 h1 h2 h3] at h
      exact absurd h Sum.inl_ne_inr
  · rw [stR_C g] at h
    exact absurd h Sum.inl_ne_inr
theorem rdA_some {T : Nat → Nat} (hT : ∀ i, T i < 256) {n : Nat} : ∀ k x e c, Ok x → e ≤ n → n < e + 2 * k → ∃ w, rdA T n k x e c = some w
  | 0, _, _, _, _, h1, h2 => absurd h2 (by omega)
  | k + 1, x, e, c, O, h1, h2 => by
    rw [rdA_1]
    cases hs : stR T n x e with
    | inl p => exact ⟨.inl p, rdS_l _ _ _ _ _⟩
    | inr q =>
      obtain ⟨Oq, hq, he⟩ := stR_ok hT O h1 hs
      rw [rdS_r]
      by_cases g0 : tK T n q.2 = 0
      · exact ⟨_, if_pos g0⟩
      · rw [if_neg g0]
        by_cases g3 : tK T n q.2 = 3
        · have ht := tE_spec T hq
          have hts := tS_spec T hq
          have := ht.2.2 g0
          rw [if_pos g3]
          exact rdA_some hT k q.1 (tE T n q.2) (c + 1) Oq ht.2.1 (by omega)
        · exact ⟨_, if_neg g3⟩
section READ3
variable {h : HP} {a r n e : Nat} {T : Nat → Nat} {x : St}
theorem s_stm (H : RS h r T n e) (he : e ≤ n) (HI : IsI h a) (O : Ok x) (V : VC h a x) (hd : a + 11 ≤ r) : Ret (f_X2_readStatement r a h) (stB (stR T n x e)) (fun h' => Fr a (r + 3 - a) h h' ∧ stQ h' r a T n (stR T n x e)) := by
  have hn := H.2.1.1
  have hT := H.2.1.2.1
  have hf := (fstN_spec (splB T n e) 10).1
  unfold f_X2_readStatement
  rw [inv_ok H.1.1, s_form H he, ob_ok]
  by_cases g1 : frm T n e < 10
  · have e1 : fstI (splB T n e) 10 = nI (frm T n e) := by unfold fstI; rw [if_pos (show fstN (splB T n e) 10 < 10 from g1)]; rfl
    rw [e1, if_neg (nI_nm1 (by omega)), f_room HI O V g1, ob_ok]
    by_cases g2 : rmB x (frm T n e) = true
    · have eR : stR T n x e = if fstN (fun k => !(okN T n x (frm T n e) e k)) (wnt (frm T n e)) < wnt (frm T n e) then .inl (tS T n (psN T n e (fstN (fun k => !(okN T n x (frm T n e) e k)) (wnt (frm T n e))))) else .inr (apS x (frm T n e) (gvN T n e), psN T n e (wnt (frm T n e))) := by unfold stR; rw [if_pos ⟨g1, g2⟩]
      rw [if_pos g2, if_neg (show ¬ (1 : Int32) = 0 by decide)]
      generalize frm T n e = f at g1 g2 eR ⊢
      have hw : wnt f ≤ 4 := by unfold wnt; split; omega; split <;> omega
      refine Ret.icall H.1.1 (s_adv2 H he) fun h1 ⟨F1, R1⟩ => ?_
      rw [f_wnt g1, ob_ok]
      refine Ret.loop (lp := lp_X2_readStatement_32 r a (nI f) (nI (wnt f)) _) (fun k q => Fr a (r + 3 - a) h q ∧ RS q r T n (psN T n e k) ∧ VC q a x ∧ (∀ j, j < k → hI q (r + 2) j = nI (gvN T n e j)) ∧ ∀ j, j < k → okN T n x f e j = true) (wnt f) (by omega) ⟨F1.wide (by omega) (by omega), R1, V.fr F1 (by omega), fun j hj => absurd hj (by omega), fun j hj => absurd hj (by omega)⟩ ?_ ?_
      · rintro t k q hk ⟨F, R, V1, hg, hok⟩ kk
        have HI1 := F.I HI
        have hp := psN_le T he k
        have hK := tK_le T n (psN T n e k)
        have hgv : gvN T n e k ≤ 30000 := tN_le hT _ _
        have hgv0 : gvN T n e 0 ≤ 30000 := tN_le hT _ _
        have hlm := lmN_le O f k
        have bad : ¬ okN T n x f e k = true → Ret (rZ 0 q) (stB (stR T n x e)) (fun h' => Fr a (r + 3 - a) h h' ∧ stQ h' r a T n (stR T n x e)) := fun hno => by
          have ek : fstN (fun k => !(okN T n x f e k)) (wnt f) = k := fstN_is (by omega) (fun j hj => by simp [hok j hj]) (fun _ => by simp [hno])
          rw [eR, ek, if_pos hk]
          exact Ret.rz0 ⟨F, stQ_l R.2.2.2.2.1⟩
        have good : okN T n x f e k = true → Ret ((gR 2 1 r q).bind fun x94 => (gI 2 4 r q).bind fun x100 => (sI x94 (nI k) x100 q).bind fun h103 => ob (inv 2 r h103 (f_X2_advance r h103)) fun _ h105 => lp_X2_readStatement_32 r a (nI f) (nI (wnt f)) (fun h32_ => ob (inv 2 r h32_ (f_X2_apply r a (nI f) h32_)) fun _ h117 => rZ 1 h117) t (nI k + 1) h105) (stB (stR T n x e)) (fun h' => Fr a (r + 3 - a) h h' ∧ stQ h' r a T n (stR T n x e)) := fun hyes => by
          have h2 := (of_decide_eq_true hyes).1
          have c4 : hI q r 4 = nI (gvN T n e k) := R.2.2.2.2.2.2 h2
          rw [R.1.g, bd_ok, gI_ok R.1.1, bd_ok, c4, sI_ok R.1.2.2.2.2 (by omega) (by decide), bd_ok, nI1 k]
          have Fw : Fr (r + 2) 1 q (wI q (r + 2) (upd (hI q (r + 2)) k (nI (gvN T n e k)))) := Fr.w (by omega) (by omega)
          have ew : ∀ j, j < k + 1 → hI (wI q (r + 2) (upd (hI q (r + 2)) k (nI (gvN T n e k)))) (r + 2) j = nI (gvN T n e j) := fun j hj => by
            rw [hI_w]
            by_cases ee : j = k
            · rw [ee, upd_s]
            · rw [upd_n _ _ ee]
              exact hg j (by omega)
          generalize wI q (r + 2) (upd (hI q (r + 2)) k (nI (gvN T n e k))) = q2 at Fw ew ⊢
          have R2 := Fw.RS (by omega) R
          refine Ret.icall R2.1.1 (s_adv2 R2 hp.1) fun h3 ⟨F3, R3⟩ => ?_
          refine kk h3 ⟨(F.tr (Fw.wide (by omega) (by omega))).tr (F3.wide (by omega) (by omega)), R3, (V1.fr Fw (by omega)).fr F3 (by omega), fun j hj => ?_, fun j hj => ?_⟩
          · rw [F3.2.2.2.2.2 (r + 2) (by omega)]
            exact ew j hj
          · by_cases ee : j = k
            · rw [ee]; exact hyes
            · exact hok j (by omega)
        have a3 : gI 2 3 r q = some (nI (tK T n (psN T n e k))) := by rw [gI_ok R.1.1, R.2.2.2.1]
        have cf : ∀ m, m < 10 → ((nI f = nI m) ↔ f = m) := fun m hm => nIe (by omega) (by omega)
        have cf4 : (nI f = 4) ↔ f = 4 := cf 4 (by decide)
        have cf5 : (nI f = 5) ↔ f = 5 := cf 5 (by decide)
        have ck1 : (nI k = 1) ↔ k = 1 := nIe (b := 1) (by omega) (by decide)
        show Ret (lb_X2_readStatement_32 r a _ _ _ _ _ q) _ _
        unfold lb_X2_readStatement_32
        rw [iN hk (by omega), a3, bd_ok]
        by_cases q1 : tK T n (psN T n e k) = 2
        · have c4 : hI q r 4 = nI (gvN T n e k) := R.2.2.2.2.2.2 q1
          have a4 : gI 2 4 r q = some (nI (gvN T n e k)) := by rw [gI_ok R.1.1, c4]
          rw [if_pos (show nI (tK T n (psN T n e k)) = 2 by rw [q1]; rfl), a4, bd_ok, f_lim HI1 V1 g1 (by omega), ob_ok]
          by_cases q2 : gvN T n e k < lmN x f k
          · rw [if_pos (ltY q2 (by omega))]
            by_cases q3 : (f = 4 ∨ f = 5) ∧ k = 1
            · have l0 : lI (r + 2) 0 q = some (nI (gvN T n e 0)) := by
                have := lI_ok R.1.2.2.2.2 (k := 0) (by decide) (by decide)
                rw [hg 0 (by omega)] at this
                exact this
              have both : Ret (if nI (gvN T n e k) = nI (gvN T n e 0) then rZ 0 q else ((gR 2 1 r q).bind fun x94 => (gI 2 4 r q).bind fun x100 => (sI x94 (nI k) x100 q).bind fun h103 => ob (inv 2 r h103 (f_X2_advance r h103)) fun _ h105 => lp_X2_readStatement_32 r a (nI f) (nI (wnt f)) (fun h32_ => ob (inv 2 r h32_ (f_X2_apply r a (nI f) h32_)) fun _ h117 => rZ 1 h117) t (nI k + 1) h105)) (stB (stR T n x e)) (fun h' => Fr a (r + 3 - a) h h' ∧ stQ h' r a T n (stR T n x e)) := by
                by_cases q4 : gvN T n e k = gvN T n e 0
                · rw [if_pos (congrArg nI q4)]
                  refine bad (fun hh => (of_decide_eq_true hh).2.2 ⟨q3.1, q3.2, ?_⟩)
                  rw [q3.2] at q4
                  exact q4
                · rw [if_neg (by rw [nIe (by omega) (by omega)]; exact q4)]
                  refine good (decide_eq_true ⟨q1, q2, fun hh => q4 ?_⟩)
                  rw [q3.2]
                  exact hh.2.2
              simp only [R.1.g, a4, l0, Option.bind_some] at both ⊢
              by_cases q5 : f = 4
              · rw [if_pos (cf4.mpr q5), if_pos (ck1.mpr q3.2)]
                exact both
              · rw [if_neg (fun hh => q5 (cf4.mp hh)), if_pos (cf5.mpr (by omega)), if_pos (ck1.mpr q3.2)]
                exact both
            · have gd := good (decide_eq_true ⟨q1, q2, fun hh => q3 ⟨hh.1, hh.2.1⟩⟩)
              by_cases q5 : f = 4
              · rw [if_pos (cf4.mpr q5), if_neg (fun hh => q3 ⟨Or.inl q5, ck1.mp hh⟩)]
                exact gd
              · rw [if_neg (fun hh => q5 (cf4.mp hh))]
                by_cases q6 : f = 5
                · rw [if_pos (cf5.mpr q6), if_neg (fun hh => q3 ⟨Or.inr q6, ck1.mp hh⟩)]
                  exact gd
                · rw [if_neg (fun hh => q6 (cf5.mp hh))]
                  exact gd
          · rw [if_neg (ltN (by omega) (by omega))]
            exact bad (fun hh => q2 (of_decide_eq_true hh).2.1)
        · rw [if_neg (show ¬ nI (tK T n (psN T n e k)) = 2 from eqN q1 (by decide) (by omega))]
          exact bad (fun hh => q1 (of_decide_eq_true hh).1)
      · rintro t q ⟨F, R, V1, hg, hok⟩
        have ek : fstN (fun k => !(okN T n x f e k)) (wnt f) = wnt f := fstN_is (by omega) (fun j hj => by simp [hok j hj]) (fun h => absurd h (by omega))
        show Ret (lb_X2_readStatement_32 r a _ _ _ _ _ q) _ _
        unfold lb_X2_readStatement_32
        rw [iY (by omega)]
        dsimp only
        refine Ret.icall R.1.1 (s_apply R.1 (F.I HI) O V1 g1 g2 (g := gvN T n e) (fun k hk => (of_decide_eq_true (hok k hk)).2.1) hg) fun h3 ⟨F3, V3⟩ => ?_
        rw [eR, ek, if_neg (by omega)]
        exact Ret.rz1 ⟨F.tr (F3.wide (by omega) (by omega)), stQ_r ⟨F3.RS (by omega) R, V3⟩⟩
    · have eR : stR T n x e = .inl (tS T n e) := by unfold stR; rw [if_neg (fun q => g2 q.2)]
      rw [if_neg g2, if_pos rfl, eR]
      exact Ret.rz0 ⟨Fr.rf _ _ _, stQ_l H.2.2.2.2.1⟩
  · have e1 : fstI (splB T n e) 10 = -1 := by unfold fstI; rw [if_neg (show ¬ fstN (splB T n e) 10 < 10 from g1)]
    have eR : stR T n x e = .inl (tS T n e) := by unfold stR; rw [if_neg (fun q => g1 q.1)]
    rw [e1, if_pos rfl, eR]
    exact Ret.rz0 ⟨Fr.rf _ _ _, stQ_l H.2.2.2.2.1⟩
/-- what came of the tape: -1 and where it fails; or how many statements, and the isle -/
def rdV : Nat ⊕ (St × Nat) → Int32
  | .inl _ => -1
  | .inr q => nI q.2
def rdQ (h : HP) (r a : Nat) (w : Nat ⊕ (St × Nat)) : Prop := (∀ p, w = .inl p → hI h r 5 = nI p) ∧ ∀ q, w = .inr q → VC h a q.1
theorem rdQ_l {h : HP} {r a p : Nat} (e : hI h r 5 = nI p) : rdQ h r a (.inl p) := ⟨fun p' h => by obtain rfl := Sum.inl.inj h; exact e, fun q h => absurd h Sum.inl_ne_inr⟩
theorem rdQ_r {h : HP} {r a : Nat} {q : St × Nat} (e : VC h a q.1) : rdQ h r a (.inr q) := ⟨fun p h => absurd h Sum.inr_ne_inl, fun q' h => by obtain rfl := Sum.inr.inj h; exact e⟩
theorem s_read (HR : RdI h r) (HT : TpI h (r + 1) T n) (h2 : hI h r 2 = nI n) (HI : IsI h a) (O : Ok x) (V : VC h a x) (hd : a + 11 ≤ r) {w : Nat ⊕ (St × Nat)} {K : Nat} (hK : K = 250) (hw : rdA T n K x 0 1 = some w) : Ret (f_X2_read r a h) (rdV w) (fun h' => Fr a (r + 3 - a) h h' ∧ rdQ h' r a w) := by
  have hn := HT.1
  have hTT := HT.2.1
  unfold f_X2_read
  rw [pI_pw HR.1, bd_ok]
  have F0 : Fr r 1 h (pw h r 6 0) := Fr.pw (by omega) (by omega)
  refine Ret.icall (F0.Rd HR).1 (s_adv (e := 0) (F0.Rd HR) (F0.Tp (by omega) HT) (by rw [pw_n _ _ _ (by decide)]; exact h2) (by rw [pw_s]; rfl) (Nat.zero_le _)) fun h1 ⟨F1, c2, L⟩ => ?_
  have F01 := F0.tr F1
  refine Ret.gen (run := fun k (q : Int32 × HP) => lp_X2_read_11 r a _ k q.1 q.2) (fun i q => q.1 = nI (i + 1) ∧ Fr a (r + 3 - a) h q.2 ∧ ∃ y e, RS q.2 r T n e ∧ e ≤ n ∧ VC q.2 a y ∧ Ok y ∧ rdA T n (K - i) y e (i + 1) = some w) 250 ?_ ?_ 250 0 1000 (1, h1) (by omega) (by omega) ⟨rfl, F01.wide (by omega) (by omega), x, 0, ⟨F01.Rd HR, F01.Tp (by omega) HT, c2, L⟩, Nat.zero_le _, V.fr F01 (by omega), O, hw⟩
  · rintro k i ⟨i', q⟩ hi ⟨rfl, F, y, e, R, he, V1, O1, hr⟩ kk
    dsimp only at F R V1 kk ⊢
    obtain ⟨m, hm⟩ : ∃ m, K - i = m + 1 := ⟨249 - i, by omega⟩
    have hm2 : K - (i + 1) = m := by omega
    rw [hm2] at kk
    rw [hm] at hr
    have hr' := hr
    rw [rdA_1] at hr'
    show Ret (lb_X2_read_11 r a _ _ _ q) _ _
    unfold lb_X2_read_11
    rw [if_neg (show ¬ (250 : Int32) < nI (i + 1) from ltN (m := 250) (by omega) (by decide))]
    refine Ret.icall R.1.1 (s_stm R he (F.I HI) O1 V1 hd) fun h3 ⟨F3, Q3⟩ => ?_
    have FF := F.tr F3
    cases hs : stR T n y e with
    | inl p =>
      rw [hs] at Q3 hr'
      rw [rdS_l] at hr'
      obtain rfl := Option.some.inj hr'
      rw [show stB (.inl p) = 0 from rfl, if_pos rfl]
      exact Ret.mk ⟨FF, rdQ_l (Q3.1 p rfl)⟩
    | inr z =>
      obtain ⟨Oz, hz, hez⟩ := stR_ok hTT O1 he hs
      rw [hs] at Q3 hr'
      rw [rdS_r] at hr'
      obtain ⟨R3, V3⟩ := Q3.2 z rfl
      have hK := tK_le T n z.2
      have a3 : gI 2 3 r h3 = some (nI (tK T n z.2)) := by rw [gI_ok R3.1.1, R3.2.2.2.1]
      rw [show stB (.inr z) = 1 from rfl, if_neg (show ¬ (1 : Int32) = 0 by decide), a3, bd_ok, bd_ok]
      by_cases g0 : tK T n z.2 = 0
      · rw [if_pos g0] at hr'
        obtain rfl := Option.some.inj hr'
        rw [if_pos (show nI (tK T n z.2) = 0 by rw [g0]; rfl)]
        exact Ret.mk ⟨FF, rdQ_r V3⟩
      · rw [if_neg g0] at hr'
        rw [if_neg (show ¬ nI (tK T n z.2) = 0 from eqN g0 (by decide) (by omega))]
        by_cases g3 : tK T n z.2 = 3
        · rw [if_pos g3] at hr'
          rw [if_pos (show nI (tK T n z.2) = 3 by rw [g3]; rfl)]
          refine Ret.icall R3.1.1 (s_adv2 R3 hz) fun h4 ⟨F4, R4⟩ => ?_
          rw [nI1 (i + 1)]
          exact kk (nI (i + 1 + 1), h4) ⟨rfl, FF.tr (F4.wide (by omega) (by omega)), z.1, tE T n z.2, R4, (tE_spec T hz).2.1, V3.fr F4 (by omega), Oz, hr'⟩
        · rw [if_neg g3] at hr'
          obtain rfl := Option.some.inj hr'
          rw [if_neg (show ¬ nI (tK T n z.2) = 3 from eqN g3 (by decide) (by omega))]
          exact Ret.mk ⟨FF, rdQ_l R3.2.2.2.2.1⟩
  · rintro k ⟨i', q⟩ ⟨rfl, F, y, e, R, he, V1, O1, hr⟩
    rw [show K - 250 = 0 by omega] at hr
    exact absurd (show (none : Option (Nat ⊕ (St × Nat))) = some w from hr) (by simp)
end READ3
