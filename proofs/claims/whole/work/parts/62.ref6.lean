/-! THE REFERENCE: a token, a number -/
theorem exit2 {α : Type} {c : Prop} [Decidable c] {A B : α} (h : ¬ c → B = A) : (if c then A else B) = A := by
  by_cases g : c
  · rw [if_pos g]
  · rw [if_neg g, h g]
/-- four numbers of the object may change -/
def Fo (m : Nat) (h h' : HP) : Prop := Fr m 1 h h' ∧ ∀ j, (j < 28 ∨ 31 < j) → hI h' m j = hI h m j
theorem Fo.rf (m : Nat) (h : HP) : Fo m h h := ⟨Fr.rf _ _ _, fun _ _ => rfl⟩
theorem Fo.tr {m : Nat} {h h1 h2 : HP} (f : Fo m h h1) (g : Fo m h1 h2) : Fo m h h2 := ⟨f.1.tr g.1, fun j hj => (g.2 j hj).trans (f.2 j hj)⟩
theorem Fo.pw {m k : Nat} {h : HP} {x : Int32} (h1 : 28 ≤ k) (h2 : k ≤ 31) : Fo m h (pw h m k x) := ⟨Fr.pw (Nat.le_refl _) (by omega), fun j hj => pw_n _ _ _ (by omega)⟩
theorem φR_lt : ∀ k, k < 6 → φR k < 28 ∧ φR k ≠ 7 := by decide
theorem Fo.V {m : Nat} {h h' : HP} {x : St} (f : Fo m h h') (V : VR h m x) : VR h' m x := by
  obtain ⟨v1, v2, v3, v4, v5, v6, v7, v8⟩ := V
  have e : ∀ k, k < 6 → hI h' m (φR k) = hI h m (φR k) := fun k hk => f.2 _ (Or.inl (φR_lt k hk).1)
  have er : ∀ q, m < q → hI h' q = hI h q := fun q hq => f.1.2.2.2.2.2 q (by omega)
  exact ⟨(e 0 (by decide)).trans v1, (e 1 (by decide)).trans v2, (e 2 (by decide)).trans v3, (e 3 (by decide)).trans v4, (e 4 (by decide)).trans v5, (e 5 (by decide)).trans v6, fun k hk i hi => by rw [er _ (by omega)]; exact v7 k hk i hi, fun p hp s hs => by rw [er _ (by omega)]; exact v8 p hp s hs⟩
/-- all but shelves, tape, refusals; the count of statements stays (Fz) -/
def Fy (m : Nat) (h h' : HP) : Prop := Fr m 33 h h' ∧ (∀ q, m < q → q < m + 17 → hI h' q = hI h q) ∧ hI h' m 7 = hI h m 7
def Fz (m : Nat) (h h' : HP) : Prop := Fy m h h' ∧ hI h' m 34 = hI h m 34
theorem Fy.rf (m : Nat) (h : HP) : Fy m h h := ⟨Fr.rf _ _ _, fun _ _ _ => rfl, rfl⟩
theorem Fy.tr {m : Nat} {h h1 h2 : HP} (f : Fy m h h1) (g : Fy m h1 h2) : Fy m h h2 := ⟨f.1.tr g.1, fun q a b => (g.2.1 q a b).trans (f.2.1 q a b), g.2.2.trans f.2.2⟩
theorem Fz.rf (m : Nat) (h : HP) : Fz m h h := ⟨Fy.rf _ _, rfl⟩
theorem Fz.tr {m : Nat} {h h1 h2 : HP} (f : Fz m h h1) (g : Fz m h1 h2) : Fz m h h2 := ⟨f.1.tr g.1, g.2.trans f.2⟩
theorem Fo.z {m : Nat} {h h' : HP} (f : Fo m h h') : Fz m h h' := ⟨⟨f.1.wide (by omega) (by omega), fun q a b => f.1.2.2.2.2.2 q (by omega), f.2 7 (by omega)⟩, f.2 34 (by omega)⟩
theorem Fk.z {m : Nat} {h h' : HP} (f : Fk m h h') : Fz m h h' := ⟨⟨f.1, f.2.1, f.2.2 7 (fun k hk => (φR_lt k hk).2)⟩, f.2.2 34 (fun k hk => by have := (φR_lt k hk).1; omega)⟩
theorem Fz.num {m k : Nat} {h : HP} {x : Int32} (h1 : k ≠ 7) (h2 : k ≠ 34) : Fz m h (pw h m k x) := ⟨⟨Fr.pw (by omega) (by omega), fun q a b => hI_wn h _ (by omega), pw_n _ _ _ (Ne.symm h1)⟩, pw_n _ _ _ (Ne.symm h2)⟩
theorem Fy.num {m k : Nat} {h : HP} {x : Int32} (h1 : k ≠ 7) : Fy m h (pw h m k x) := ⟨Fr.pw (by omega) (by omega), fun q a b => hI_wn h _ (by omega), pw_n _ _ _ (Ne.symm h1)⟩
/-- the token that was looked at from e on -/
def LkR (h : HP) (m : Nat) (T : Nat → Nat) (n e : Nat) : Prop := hI h m 29 = nI (tK T n e) ∧ hI h m 30 = nI (tS T n e) ∧ hI h m 28 = nI (tE T n e) ∧ (tK T n e = 2 → hI h m 31 = nI (tN T n e))
def RZ (h : HP) (m : Nat) (T : Nat → Nat) (n e : Nat) : Prop := MdI h m ∧ TpI h (m + 15) T n ∧ hI h m 7 = nI n ∧ LkR h m T n e
theorem Fy.Tp {m n : Nat} {T : Nat → Nat} {h h' : HP} (f : Fy m h h') (H : TpI h (m + 15) T n) : TpI h' (m + 15) T n := ⟨H.1, H.2.1, fun i hi => by rw [f.2.1 _ (by omega) (by omega)]; exact H.2.2 i hi⟩
theorem r_let (a : Int32) (h : HP) : f_X6_isLetter a h = f_X2_isLetter a h := rfl
theorem r_dig (a : Int32) (h : HP) : f_X6_isDigit a h = f_X2_isDigit a h := rfl
theorem m1_toInt {n : Nat} (hn : n ≤ 1000) : (nI n - 1).toInt = (n : Int) - 1 := by
  rw [show (1 : Int32) = zI 1 from rfl, zI_n, zI_sub, zI_toInt (by omega) (by omega)]
section REF6
variable {h : HP} {m n e : Nat} {T : Nat → Nat} {x : St}
theorem MdI.l (H : MdI h m) (HT : TpI h (m + 15) T n) {i : Nat} (hi : i < n) : lI (m + 15) (nI i) h = some (nI (T i)) := by
  have := HT.1
  rw [lI_ok (H.a 6 15 250 (by decide) rfl) (by omega) (by decide), HT.2.2 i hi]
theorem r_look (H : MdI h m) (HT : TpI h (m + 15) T n) (h7 : hI h m 7 = nI n) (h28 : hI h m 28 = nI e) (he : e ≤ n) : Ret (f_X6_look m h) () (fun h' => Fo m h h' ∧ LkR h' m T n e) := by
  have hn := HT.1
  have sp := rnE_spec (spcB T) he
  have htS := tS_spec T he
  unfold f_X6_look
  refine Ret.gen (run := fun k q => lp_X6_look_0 m _ k q) (fun i q => Fo m h q ∧ hI q m 28 = nI (e + i)) (tS T n e - e) ?_ ?_ (tS T n e - e) 0 1000 _ (by omega) (by omega) ⟨Fo.rf _ _, h28⟩
  · rintro k i q hi ⟨F, c28⟩ kk
    have H1 := F.1.Md H
    have T1 := F.z.1.Tp HT
    have hd : spcB T (e + i) = true := sp.2.2.1 (e + i) (by omega) (by unfold tS at hi; omega)
    have hd2 : T (e + i) = 32 := of_decide_eq_true hd
    have l1 := H1.l T1 (i := e + i) (by omega)
    have a28 : gI 6 28 m q = some (nI (e + i)) := by rw [gI_ok H1.1, c28]
    have a7 : gI 6 7 m q = some (nI n) := by rw [gI_ok H1.1, F.2 7 (by omega), h7]
    have r6 : gR 6 6 m q = some (m + 15) := H1.r 6 15 250 (by decide) rfl
    show Ret (lb_X6_look_0 m _ _ q) _ _
    unfold lb_X6_look_0
    simp only [a28, a7, r6, l1, Option.bind_some]
    rw [if_neg (leN (show e + i < n by omega) (by omega)), hd2, if_pos (show nI 32 = 32 from rfl), nI1, pI_pw H1.1, bd_ok]
    exact kk _ ⟨F.tr (Fo.pw (by omega) (by omega)), pw_s _ _ _ _⟩
  · rintro k q ⟨F, c28⟩
    have ee : e + (tS T n e - e) = tS T n e := by omega
    rw [ee] at c28
    have H1 := F.1.Md H
    have T1 := F.z.1.Tp HT
    have a28 : gI 6 28 m q = some (nI (tS T n e)) := by rw [gI_ok H1.1, c28]
    have a7 : gI 6 7 m q = some (nI n) := by rw [gI_ok H1.1, F.2 7 (by omega), h7]
    have r6 : gR 6 6 m q = some (m + 15) := H1.r 6 15 250 (by decide) rfl
    show Ret (lb_X6_look_0 m _ _ q) _ _
    unfold lb_X6_look_0
    rw [a28, bd_ok, a7, bd_ok, exit2]
    · dsimp only
      rw [a28, bd_ok, pI_pw H1.1, bd_ok, pI_pw ((Fo.pw (h := q) (x := nI (tS T n e)) (m := m) (k := 30) (by omega) (by omega)).1.OA H1.1), bd_ok]
      have F2 : Fo m h (pw (pw q m 30 (nI (tS T n e))) m 31 0) := (F.tr (Fo.pw (by omega) (by omega))).tr (Fo.pw (by omega) (by omega))
      have d28 : hI (pw (pw q m 30 (nI (tS T n e))) m 31 0) m 28 = nI (tS T n e) := by rw [pw_n _ _ _ (by decide), pw_n _ _ _ (by decide)]; exact c28
      have d30 : hI (pw (pw q m 30 (nI (tS T n e))) m 31 0) m 30 = nI (tS T n e) := by rw [pw_n _ _ _ (by decide), pw_s]
      have d31 : hI (pw (pw q m 30 (nI (tS T n e))) m 31 0) m 31 = 0 := pw_s _ _ _ _
      generalize pw (pw q m 30 (nI (tS T n e))) m 31 0 = g at F2 d28 d30 d31 ⊢
      have H2 := F2.1.Md H
      have T2 := F2.z.1.Tp HT
      have a28 : gI 6 28 m g = some (nI (tS T n e)) := by rw [gI_ok H2.1, d28]
      have a7 : gI 6 7 m g = some (nI n) := by rw [gI_ok H2.1, F2.2 7 (by omega), h7]
      have r6 : gR 6 6 m g = some (m + 15) := H2.r 6 15 250 (by decide) rfl
      rw [a28, bd_ok, a7, bd_ok]
      by_cases q0 : n ≤ tS T n e
      · rw [if_pos (show nI (tS T n e) = nI n by rw [show tS T n e = n by omega]), pI_pw H2.1, bd_ok]
        have k0 : tK T n e = 0 := by unfold tK; rw [if_pos q0]
        have e0 : tE T n e = tS T n e := by unfold tE; rw [if_pos q0]
        exact Ret.mk ⟨F2.tr (Fo.pw (by omega) (by omega)), by rw [pw_s, k0]; rfl, by rw [pw_n _ _ _ (by decide)]; exact d30, by rw [pw_n _ _ _ (by decide), e0]; exact d28, fun c => absurd c (by omega)⟩
      · have ht := HT.2.1 (tS T n e)
        have l1 := H2.l T2 (i := tS T n e) (by omega)
        rw [if_neg (by rw [nIe (by omega) (by omega)]; omega)]
        simp only [a28, r6, l1, r_let, r_dig, f_let ht, f_dig ht, ob_ok, Option.bind_some]
        by_cases q1 : lttB T (tS T n e) = true
        · have q1' := of_decide_eq_true q1
          have k1 : tK T n e = 1 := by unfold tK; rw [if_neg q0, if_pos q1]
          have e1 : tE T n e = rnE (lttB T) n (tS T n e) := by unfold tE; rw [if_neg q0, if_pos q1]
          rw [if_pos q1', if_neg (by decide), pI_pw H2.1, bd_ok]
          have sp1 := rnE_spec (lttB T) htS.2
          refine Ret.gen (run := fun k q => lp_X6_look_90 m _ k q) (fun i g => Fo m h g ∧ hI g m 29 = nI 1 ∧ hI g m 30 = nI (tS T n e) ∧ hI g m 28 = nI (tS T n e + i)) (rnE (lttB T) n (tS T n e) - tS T n e) ?_ ?_ (rnE (lttB T) n (tS T n e) - tS T n e) 0 1000 _ (by omega) (by omega) ⟨F2.tr (Fo.pw (by omega) (by omega)), by rw [pw_s]; rfl, by rw [pw_n _ _ _ (by decide)]; exact d30, by rw [pw_n _ _ _ (by decide)]; exact d28⟩
          · rintro k i g hi ⟨F3, c29, c30, c28⟩ kk
            have H3 := F3.1.Md H
            have T3 := F3.z.1.Tp HT
            have hd : lttB T (tS T n e + i) = true := sp1.2.2.1 (tS T n e + i) (by omega) (by omega)
            have hd2 := of_decide_eq_true hd
            have l1 := H3.l T3 (i := tS T n e + i) (by omega)
            have a28 : gI 6 28 m g = some (nI (tS T n e + i)) := by rw [gI_ok H3.1, c28]
            have a7 : gI 6 7 m g = some (nI n) := by rw [gI_ok H3.1, F3.2 7 (by omega), h7]
            have r6 : gR 6 6 m g = some (m + 15) := H3.r 6 15 250 (by decide) rfl
            show Ret (lb_X6_look_90 m _ _ g) _ _
            unfold lb_X6_look_90
            simp only [a28, a7, r6, l1, r_let, f_let (HT.2.1 (tS T n e + i)), Option.bind_some, ob_ok]
            rw [if_neg (leN (show tS T n e + i < n by omega) (by omega)), if_pos hd2, if_neg (show ¬ (1 : Int32) = 0 by decide), nI1, pI_pw H3.1, bd_ok]
            exact kk _ ⟨F3.tr (Fo.pw (by omega) (by omega)), by rw [pw_n _ _ _ (by decide)]; exact c29, by rw [pw_n _ _ _ (by decide)]; exact c30, by rw [pw_s]; rfl⟩
          · rintro k g ⟨F3, c29, c30, c28⟩
            have H3 := F3.1.Md H
            have T3 := F3.z.1.Tp HT
            have ee : tS T n e + (rnE (lttB T) n (tS T n e) - tS T n e) = rnE (lttB T) n (tS T n e) := by omega
            rw [ee] at c28
            have fin : Ret (some ((), g)) () (fun h' => Fo m h h' ∧ LkR h' m T n e) :=
              Ret.mk ⟨F3, by rw [k1]; exact c29, c30, by rw [e1]; exact c28, fun c => absurd c (by omega)⟩
            have a28 : gI 6 28 m g = some (nI (rnE (lttB T) n (tS T n e))) := by rw [gI_ok H3.1, c28]
            have a7 : gI 6 7 m g = some (nI n) := by rw [gI_ok H3.1, F3.2 7 (by omega), h7]
            have r6 : gR 6 6 m g = some (m + 15) := H3.r 6 15 250 (by decide) rfl
            show Ret (lb_X6_look_90 m _ _ g) _ _
            unfold lb_X6_look_90
            simp only [a28, a7, r6, Option.bind_some]
            by_cases w : n ≤ rnE (lttB T) n (tS T n e)
            · rw [if_pos (leY w (by omega))]
              exact fin
            · have hd : ¬ lttB T (rnE (lttB T) n (tS T n e)) = true := sp1.2.2.2 (by omega)
              have hd2 : ¬ (97 ≤ T (rnE (lttB T) n (tS T n e)) ∧ T (rnE (lttB T) n (tS T n e)) ≤ 122) := fun e => hd (decide_eq_true e)
              rw [if_neg (leN (by omega) (by omega)), H3.l T3 (by omega), bd_ok, r_let, f_let (HT.2.1 _), ob_ok, if_neg hd2, if_pos rfl]
              exact fin
        · have q1' : ¬ (97 ≤ T (tS T n e) ∧ T (tS T n e) ≤ 122) := fun e => q1 (decide_eq_true e)
          rw [if_neg q1', if_pos rfl]
          by_cases q2 : dgtB T (tS T n e) = true
          · have q2' := of_decide_eq_true q2
            have k1 : tK T n e = 2 := by unfold tK; rw [if_neg q0, if_neg q1, if_pos q2]
            have e1 : tE T n e = rnE (dgtB T) n (tS T n e) := by unfold tE; rw [if_neg q0, if_neg q1, if_pos q2]
            rw [if_pos q2', if_neg (by decide), pI_pw H2.1, bd_ok]
            have sp1 := rnE_spec (dgtB T) htS.2
            generalize hs : tS T n e = s at *
            refine Ret.gen (run := fun k q => lp_X6_look_149 m _ k q) (fun i g => Fo m h g ∧ hI g m 29 = nI 2 ∧ hI g m 30 = nI s ∧ hI g m 28 = nI (s + i) ∧ hI g m 31 = nI (nmN T s i)) (rnE (dgtB T) n s - s) ?_ ?_ (rnE (dgtB T) n s - s) 0 1000 _ (by omega) (by omega) ⟨F2.tr (Fo.pw (by omega) (by omega)), by rw [pw_s]; rfl, by rw [pw_n _ _ _ (by decide)]; exact d30, by rw [pw_n _ _ _ (by decide)]; exact d28, by rw [pw_n _ _ _ (by decide)]; exact d31⟩
            · rintro k i g hi ⟨F3, c29, c30, c28, c31⟩ kk
              have H3 := F3.1.Md H
              have T3 := F3.z.1.Tp HT
              have hd : dgtB T (s + i) = true := sp1.2.2.1 (s + i) (by omega) (by omega)
              have hd2 := of_decide_eq_true hd
              have l1 := H3.l T3 (i := s + i) (by omega)
              have a28 : gI 6 28 m g = some (nI (s + i)) := by rw [gI_ok H3.1, c28]
              have a30 : gI 6 30 m g = some (nI s) := by rw [gI_ok H3.1, c30]
              have a31 : gI 6 31 m g = some (nI (nmN T s i)) := by rw [gI_ok H3.1, c31]
              have a7 : gI 6 7 m g = some (nI n) := by rw [gI_ok H3.1, F3.2 7 (by omega), h7]
              have r6 : gR 6 6 m g = some (m + 15) := H3.r 6 15 250 (by decide) rfl
              have ob1 : ∀ {v : Int32}, OA 6 (pw g m 31 v) m := (Fr.pw (a := m) (n := 1) (Nat.le_refl _) (by omega)).OA H3.1
              show Ret (lb_X6_look_149 m _ _ g) _ _
              unfold lb_X6_look_149
              simp only [a28, a7, a30, a31, r6, l1, r_dig, f_dig (HT.2.1 (s + i)), Option.bind_some, ob_ok]
              rw [if_neg (leN (show s + i < n by omega) (by omega)), if_pos hd2, if_neg (show ¬ (1 : Int32) = 0 by decide), pk_sub (by omega), show s + i - s = i by omega]
              have em : nmN T s (i + 1) = if i < 3 then nmN T s i * 10 + T (s + i) - 48 else 1000 := rfl
              have tail : ∀ v : Int32, v = nI (nmN T s (i + 1)) → Ret ((pI 6 31 m v g).bind fun h215 => (gI 6 28 m h215).bind fun x220 => (pI 6 28 m (x220 + 1) h215).bind fun h225 => lp_X6_look_149 m (fun h149_ => some ((), h149_)) k h225) () (fun h' => Fo m h h' ∧ LkR h' m T n e) := by
                rintro v rfl
                rw [pI_pw H3.1, bd_ok, gI_ok ob1, bd_ok, pw_n _ _ _ (by decide), c28, nI1, pI_pw ob1, bd_ok]
                refine kk _ ⟨(F3.tr (Fo.pw (by omega) (by omega))).tr (Fo.pw (by omega) (by omega)), ?_, ?_, by rw [pw_s]; rfl, ?_⟩
                · rw [pw_n _ _ _ (by decide), pw_n _ _ _ (by decide)]; exact c29
                · rw [pw_n _ _ _ (by decide), pw_n _ _ _ (by decide)]; exact c30
                · rw [pw_n _ _ _ (by decide), pw_s]
              by_cases g3 : i < 3
              · rw [if_neg (show ¬ (3 : Int32) ≤ nI i from leN (m := 3) g3 (by decide)), show (10 : Int32) = nI 10 from rfl, show (48 : Int32) = nI 48 from rfl, pk_mul, nI_add, pk_sub (by omega)]
                exact tail _ (by rw [em, if_pos g3])
              · rw [if_pos (show (3 : Int32) ≤ nI i from leY (m := 3) (by omega) (by omega))]
                exact tail _ (by rw [em, if_neg g3]; rfl)
            · rintro k g ⟨F3, c29, c30, c28, c31⟩
              have H3 := F3.1.Md H
              have T3 := F3.z.1.Tp HT
              have ee : s + (rnE (dgtB T) n s - s) = rnE (dgtB T) n s := by omega
              rw [ee] at c28
              have fin : Ret (some ((), g)) () (fun h' => Fo m h h' ∧ LkR h' m T n e) :=
                Ret.mk ⟨F3, by rw [k1]; exact c29, by rw [hs]; exact c30, by rw [e1]; exact c28, fun _ => by unfold tN; rw [e1, hs]; exact c31⟩
              have a28 : gI 6 28 m g = some (nI (rnE (dgtB T) n s)) := by rw [gI_ok H3.1, c28]
              have a7 : gI 6 7 m g = some (nI n) := by rw [gI_ok H3.1, F3.2 7 (by omega), h7]
              have r6 : gR 6 6 m g = some (m + 15) := H3.r 6 15 250 (by decide) rfl
              show Ret (lb_X6_look_149 m _ _ g) _ _
              unfold lb_X6_look_149
              simp only [a28, a7, r6, Option.bind_some]
              by_cases w : n ≤ rnE (dgtB T) n s
              · rw [if_pos (leY w (by omega))]
                exact fin
              · have hd : ¬ dgtB T (rnE (dgtB T) n s) = true := sp1.2.2.2 (by omega)
                have hd2 : ¬ (48 ≤ T (rnE (dgtB T) n s) ∧ T (rnE (dgtB T) n s) ≤ 57) := fun e => hd (decide_eq_true e)
                rw [if_neg (leN (by omega) (by omega)), H3.l T3 (by omega), bd_ok, r_dig, f_dig (HT.2.1 _), ob_ok, if_neg hd2, if_pos rfl]
                exact fin
          · have q2' : ¬ (48 ≤ T (tS T n e) ∧ T (tS T n e) ≤ 57) := fun e => q2 (decide_eq_true e)
            have e1 : tE T n e = tS T n e + 1 := by unfold tE; rw [if_neg q0, if_neg q1, if_neg q2]
            have k1 : tK T n e = if T (tS T n e) = 59 then 3 else 4 := by unfold tK; rw [if_neg q0, if_neg q1, if_neg q2]
            rw [if_neg q2', if_pos rfl]
            have ob1 : ∀ {v : Int32}, OA 6 (pw g m 29 v) m := (Fr.pw (a := m) (n := 1) (Nat.le_refl _) (by omega)).OA H2.1
            have fin : ∀ v : Nat, v = (if T (tS T n e) = 59 then 3 else 4) → Ret ((pI 6 29 m (nI v) g).bind fun h251 => (gI 6 28 m h251).bind fun x256 => (pI 6 28 m (x256 + 1) h251).bind fun h261 => some ((), h261)) () (fun h' => Fo m h h' ∧ LkR h' m T n e) := by
              intro v hv
              rw [pI_pw H2.1, bd_ok, gI_ok ob1, bd_ok, pw_n _ _ _ (by decide), d28, nI1, pI_pw ob1, bd_ok]
              refine Ret.mk ⟨(F2.tr (Fo.pw (by omega) (by omega))).tr (Fo.pw (by omega) (by omega)), by rw [pw_n _ _ _ (by decide), pw_s, k1, hv], by rw [pw_n _ _ _ (by decide), pw_n _ _ _ (by decide)]; exact d30, by rw [pw_s, e1], fun c => ?_⟩
              rw [k1] at c
              split at c <;> omega
            by_cases q3 : T (tS T n e) = 59
            · rw [if_pos (show nI (T (tS T n e)) = 59 by rw [q3]; rfl)]
              exact fin 3 (by rw [if_pos q3])
            · rw [if_neg (show ¬ nI (T (tS T n e)) = 59 from eqN (m := 59) q3 (by decide) (by omega))]
              exact fin 4 (by rw [if_neg q3])
    · intro g
      have g' : tS T n e < n := by
        apply Classical.byContradiction
        intro w
        exact g (leY (by omega) (by omega))
      have hd : ¬ spcB T (tS T n e) = true := sp.2.2.2 g'
      have hd2 : ¬ T (tS T n e) = 32 := fun e => hd (decide_eq_true e)
      simp only [r6, H1.l T1 g', Option.bind_some]
      rw [if_neg (show ¬ nI (T (tS T n e)) = 32 from eqN (m := 32) hd2 (by decide) (by have := HT.2.1 (tS T n e); omega))]
/-- a look at the next -/
theorem r_look2 (R : RZ h m T n e) (V : VR h m x) (he : e ≤ n) : Ret (f_X6_look m h) () (fun h' => Fz m h h' ∧ RZ h' m T n (tE T n e) ∧ VR h' m x ∧ ∀ q, q ≠ m → hI h' q = hI h q) :=
  (r_look R.1 R.2.1 R.2.2.1 R.2.2.2.2.2.1 (tE_spec T he).2.1).mono fun h' ⟨F, L⟩ => ⟨F.z, ⟨F.1.Md R.1, F.z.1.Tp R.2.1, by rw [F.2 7 (by omega)]; exact R.2.2.1, L⟩, F.V V, fun q hq => F.1.2.2.2.2.2 q (by omega)⟩
theorem r_wrong (R : RZ h m T n e) : Ret (f_X6_wrong m h) 0 (fun h' => Fz m h h' ∧ hI h' m 32 = nI (tS T n e)) := by
  unfold f_X6_wrong
  rw [gI_ok R.1.1, bd_ok, R.2.2.2.2.1, pI_pw R.1.1, bd_ok]
  exact Ret.rz0 ⟨Fz.num (by decide) (by decide), pw_s _ _ _ _⟩
theorem r_numY (R : RZ h m T n e) (V : VR h m x) (he : e ≤ n) {k : Nat} (hk : k < 4) {L : Nat} {u : Int32} (hu : u.toInt = (L : Int) - 1) (g1 : tK T n e = 2) (g2 : tN T n e < L) {w : Int32} (hw : w = nI k) : Ret (f_X6_number m w 0 u h) 1 (fun h' => Fz m h h' ∧ RZ h' m T n (tE T n e) ∧ VR h' m x ∧ hI h' (m + 27) k = nI (tN T n e) ∧ ∀ j, j ≠ k → hI h' (m + 27) j = hI h (m + 27) j) := by
  subst hw
  obtain ⟨H, HT, h7, L29, L30, L28, L31⟩ := R
  have hN := tN_le HT.2.1 n e
  unfold f_X6_number
  rw [gI_ok H.1, bd_ok, L29, if_pos (show nI (tK T n e) = 2 by rw [g1]; rfl), gI_ok H.1, bd_ok, L31 g1, show (0 : Int32).toInt64 = 0 from rfl, r_in (by rw [Int32.toInt_toInt64]; exact hu), ob_ok, if_pos ((inR_n (by omega)).mpr g2), if_neg (by decide), H.r 33 27 4 (by decide) rfl, bd_ok, gI_ok H.1, bd_ok, L31 g1, sI_ok (H.a 33 27 4 (by decide) rfl) hk (by decide), bd_ok]
  have Fw : Fr (m + 27) 1 h (wI h (m + 27) (upd (hI h (m + 27)) k (nI (tN T n e)))) := Fr.w (by omega) (by omega)
  have ew : ∀ j, hI (wI h (m + 27) (upd (hI h (m + 27)) k (nI (tN T n e)))) (m + 27) j = if j = k then nI (tN T n e) else hI h (m + 27) j := fun j => by rw [hI_w]; rfl
  generalize wI h (m + 27) (upd (hI h (m + 27)) k (nI (tN T n e))) = h1 at Fw ew ⊢
  have Fkk : Fk m h h1 := Fk.of Fw (by omega) (by omega)
  have em : hI h1 m = hI h m := Fw.2.2.2.2.2 m (by omega)
  have R1 : RZ h1 m T n e := ⟨Fw.Md H, Fkk.z.1.Tp HT, by rw [em]; exact h7, by rw [em]; exact L29, by rw [em]; exact L30, by rw [em]; exact L28, fun q => by rw [em]; exact L31 q⟩
  refine Ret.icall R1.1.1 (r_look2 R1 (V.fr Fw (by omega)) he) fun h2 ⟨F2, R2, V2, e2⟩ => ?_
  refine Ret.rz1 ⟨Fkk.z.tr F2, R2, V2, ?_, fun j hj => ?_⟩
  · rw [e2 _ (by omega), ew, if_pos rfl]
  · rw [e2 _ (by omega), ew, if_neg hj]
theorem r_numN (R : RZ h m T n e) {L : Nat} {u : Int32} (hu : u.toInt = (L : Int) - 1) (g : ¬ (tK T n e = 2 ∧ tN T n e < L)) {w : Int32} : Ret (f_X6_number m w 0 u h) 0 (fun h' => Fz m h h' ∧ hI h' m 32 = nI (tS T n e)) := by
  have W := r_wrong R
  obtain ⟨H, HT, h7, L29, L30, L28, L31⟩ := R
  have hN := tN_le HT.2.1 n e
  have hK := tK_le T n e
  unfold f_X6_number
  rw [gI_ok H.1, bd_ok, L29]
  by_cases g1 : tK T n e = 2
  · rw [if_pos (show nI (tK T n e) = 2 by rw [g1]; rfl), gI_ok H.1, bd_ok, L31 g1, show (0 : Int32).toInt64 = 0 from rfl, r_in (by rw [Int32.toInt_toInt64]; exact hu), ob_ok, if_neg (show ¬ inR (nI (tN T n e)) L from fun q => g ⟨g1, (inR_n (by omega)).mp q⟩), if_pos rfl]
    exact Ret.icall H.1 W fun h1 q => Ret.rz0 q
  · rw [if_neg (show ¬ nI (tK T n e) = 2 from eqN (m := 2) g1 (by decide) (by omega))]
    exact Ret.icall H.1 W fun h1 q => Ret.rz0 q
theorem r_isWord (R : RZ h m T n e) (he : e ≤ n) {f : Nat} (hf : f < 10) : f_X6_isWord m f h = some (if splB T n e f = true then 1 else 0, h) := by
  obtain ⟨HR, HT, h2, h3, h5, h6, h4⟩ := R
  have hn := HT.1
  have hs := tS_spec T he
  have hE := tE_spec T he
  have hl := litL_le f hf
  have hk := tK_le T n e
  suffices h' : Ret (f_X6_isWord m f h) (if splB T n e f = true then 1 else 0) (fun q => q = h) by
    obtain ⟨q, e, rfl⟩ := h'
    exact e
  have no : ¬ splB T n e f = true → Ret (rZ 0 h) (if splB T n e f = true then 1 else 0) (fun q => q = h) := fun q => by
    rw [if_neg q]
    exact Ret.rz0 rfl
  have a30 : gI 6 30 m h = some (nI (tS T n e)) := by rw [gI_ok HR.1, h5]
  have a28 : gI 6 28 m h = some (nI (tE T n e)) := by rw [gI_ok HR.1, h6]
  have r6 : gR 6 6 m h = some (m + 15) := HR.r 6 15 250 (by decide) rfl
  unfold f_X6_isWord
  rw [gI_ok HR.1, bd_ok, h3, a28, bd_ok, a30, bd_ok, sLen_ok hf, bd_ok, pk_sub hE.1]
  by_cases q1 : tK T n e = 1
  · rw [if_pos (show nI (tK T n e) = 1 by rw [q1]; rfl)]
    by_cases q2 : tE T n e - tS T n e = litL f
    · rw [if_pos (congrArg nI q2)]
      refine Ret.loop (lp := lp_X6_isWord_28 m f _) (fun i q => q = h ∧ ∀ j, j < i → nI (T (tS T n e + j)) = litC f j) (litL f) (by omega) ⟨rfl, fun j hj => absurd hj (by omega)⟩ ?_ ?_
      · rintro k i q hi ⟨rfl, hr⟩ kk
        have l1 := HR.l HT (i := tS T n e + i) (by omega)
        show Ret (lb_X6_isWord_28 m f _ _ _ _) _ _
        unfold lb_X6_isWord_28
        rw [sLen_ok hf, bd_ok, iN hi (by omega), r6, bd_ok, a30, bd_ok, nI_add, l1, bd_ok, sAt_ok hf hi, bd_ok, nI1 i]
        by_cases q3 : nI (T (tS T n e + i)) = litC f i
        · rw [if_pos q3]
          refine kk _ ⟨rfl, fun j hj => ?_⟩
          by_cases e : j = i
          · rw [e]; exact q3
          · exact hr j (by omega)
        · rw [if_neg q3]
          exact no (fun g => q3 ((of_decide_eq_true g).2.2 i hi))
      · rintro k q ⟨rfl, hr⟩
        show Ret (lb_X6_isWord_28 m f _ _ _ _) _ _
        unfold lb_X6_isWord_28
        rw [sLen_ok hf, bd_ok, iY (by omega), if_pos (show splB T n e f = true from decide_eq_true ⟨q1, q2, hr⟩)]
        exact Ret.rz1 rfl
    · rw [if_neg (by rw [nIe (by omega) (by omega)]; exact q2)]
      exact no (fun g => q2 (of_decide_eq_true g).2.1)
  · rw [if_neg (show ¬ nI (tK T n e) = 1 from eqN (m := 1) q1 (by decide) (by omega))]
    exact no (fun g => q1 (of_decide_eq_true g).1)
end REF6
