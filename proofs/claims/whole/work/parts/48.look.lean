/-! WHAT COMES OF IT: years on end, the first that ..., the best of some -/
def yN (x : St) : Nat → St
  | 0 => x
  | n + 1 => yearS (yN x n)
def yS (x : St) (s : Nat) : Nat → St
  | 0 => x
  | n + 1 => stepS (yr1 (yS x s n)) s
theorem sS_yN (x : St) : ∀ n, sS (yN x n) = sS x
  | 0 => rfl
  | n + 1 => sS_yN x n
theorem sP_yN (x : St) : ∀ n, sP (yN x n) = sP x
  | 0 => rfl
  | n + 1 => sP_yN x n
theorem sS_yS (x : St) (s : Nat) : ∀ n, sS (yS x s n) = sS x
  | 0 => rfl
  | n + 1 => sS_yS x s n
theorem sP_yS (x : St) (s : Nat) : ∀ n, sP (yS x s n) = sP x
  | 0 => rfl
  | n + 1 => sP_yS x s n
theorem Ok_yN {x : St} (O : Ok x) : ∀ n, Ok (yN x n)
  | 0 => O
  | n + 1 => Ok_yearS (Ok_yN O n)
theorem Ok_yS {x : St} (O : Ok x) (s : Nat) : ∀ n, Ok (yS x s n)
  | 0 => O
  | n + 1 => Ok_stepS (Ok_yr1 (Ok_yS O s n)) s
theorem EqS_yN {x : St} (O : Ok x) {s : Nat} (hs : s < sS x) : ∀ n, EqS s (yN x n) (yS x s n)
  | 0 => EqS.rf _ _
  | n + 1 => EqS_year (EqS_yN O hs n) (Ok_yN O n) (by rw [sS_yN]; exact hs)
theorem yN_congr {x y : St} {s : Nat} (E : EqS s x y) (O : Ok x) (O2 : Ok y) (hs : s < sS x) : ∀ n, EqS s (yN x n) (yN y n)
  | 0 => E
  | n + 1 => EqS_year2 (yN_congr E O O2 hs n) (Ok_yN O n) (Ok_yN O2 n) (by rw [sS_yN]; exact hs)
/-- the first below n; n if there is none -/
def fstN (P : Nat → Bool) : Nat → Nat
  | 0 => 0
  | n + 1 => if fstN P n < n then fstN P n else if P n = true then n else n + 1
theorem fstN_spec (P : Nat → Bool) : ∀ n, fstN P n ≤ n ∧ (∀ i, i < fstN P n → ¬ P i = true) ∧ (fstN P n < n → P (fstN P n) = true)
  | 0 => ⟨Nat.le_refl _, fun i hi => absurd hi (Nat.not_lt_zero _), fun h => absurd h (Nat.not_lt_zero _)⟩
  | n + 1 => by
    obtain ⟨h1, h2, h3⟩ := fstN_spec P n
    have e : fstN P (n + 1) = if fstN P n < n then fstN P n else if P n = true then n else n + 1 := rfl
    by_cases q : fstN P n < n
    · rw [e, if_pos q]
      exact ⟨by omega, h2, fun _ => h3 q⟩
    · have q' : fstN P n = n := by omega
      rw [q'] at h2
      by_cases q2 : P n = true
      · rw [e, if_neg q, if_pos q2]
        exact ⟨by omega, h2, fun _ => q2⟩
      · rw [e, if_neg q, if_neg q2]
        refine ⟨by omega, fun i hi => ?_, fun h => absurd h (by omega)⟩
        by_cases q3 : i = n
        · rw [q3]; exact q2
        · exact h2 i (by omega)
theorem fstN_is {P : Nat → Bool} {n k : Nat} (h1 : k ≤ n) (h2 : ∀ i, i < k → ¬ P i = true) (h3 : k < n → P k = true) : fstN P n = k := by
  obtain ⟨g1, g2, g3⟩ := fstN_spec P n
  by_cases q : fstN P n < k
  · exact absurd (g3 (by omega)) (h2 _ q)
  · by_cases q2 : k < fstN P n
    · exact absurd (h3 (by omega)) (g2 _ q2)
    · omega
theorem fstN_congr {P R : Nat → Bool} {n : Nat} (h : ∀ i, i < n → P i = R i) : fstN P n = fstN R n := by
  obtain ⟨g1, g2, g3⟩ := fstN_spec R n
  exact fstN_is g1 (fun i hi => by rw [h i (by omega)]; exact g2 i hi) (fun q => by rw [h _ q]; exact g3 q)
/-- as an answer: none is -1 -/
def fstI (P : Nat → Bool) (n : Nat) : Int32 := if fstN P n < n then nI (fstN P n) else -1
theorem fstI_hit {P : Nat → Bool} {n k : Nat} (h1 : k < n) (h2 : ∀ i, i < k → ¬ P i = true) (h3 : P k = true) : fstI P n = nI k := by
  have := fstN_is (P := P) (n := n) (k := k) (by omega) h2 (fun _ => h3)
  unfold fstI
  rw [this, if_pos h1]
theorem fstI_miss {P : Nat → Bool} {n : Nat} (h2 : ∀ i, i < n → ¬ P i = true) : fstI P n = -1 := by
  have := fstN_is (P := P) (n := n) (k := n) (by omega) h2 (fun q => absurd q (by omega))
  unfold fstI
  rw [this, if_neg (by omega)]
theorem fstI_congr {P R : Nat → Bool} {n : Nat} (h : ∀ i, i < n → P i = R i) : fstI P n = fstI R n := by
  unfold fstI
  rw [fstN_congr h]
/-- a song isn't new any more behind i years -/
def lsP (x : St) (s i : Nat) : Bool := decide (sA (yN x i) 7 s ≠ 0)
def loss (x : St) (s : Nat) : Nat := fstN (lsP x s) 61
/-- looked for below m only -/
def lsL (x : St) (s m : Nat) : Nat := if loss x s < m then loss x s else 61
theorem loss_le (x : St) (s : Nat) : loss x s ≤ 61 := (fstN_spec _ _).1
theorem loss_congr {x y : St} {s : Nat} (E : EqS s x y) (O : Ok x) (O2 : Ok y) (hs : s < sS x) : loss x s = loss y s :=
  fstN_congr fun i _ => by unfold lsP; rw [(yN_congr E O O2 hs i).2.2.2.2.2.2.1]
theorem lsL_hit {x : St} {s m i : Nat} (hm : m ≤ 61) (hi : i < m) (h1 : ∀ j, j < i → ¬ lsP x s j = true) (h2 : lsP x s i = true) : lsL x s m = i := by
  have : loss x s = i := fstN_is (by omega) h1 (fun _ => h2)
  unfold lsL
  rw [this, if_pos hi]
theorem lsL_miss {x : St} {s m : Nat} (hm : m ≤ 61) (h1 : ∀ j, j < m → ¬ lsP x s j = true) : lsL x s m = 61 := by
  unfold lsL
  split
  · rename_i q
    have := (fstN_spec (lsP x s) 61).2.2 (by unfold loss at q; omega)
    exact absurd this (h1 _ q)
  · rfl
theorem lsL_le (x : St) (s m : Nat) : lsL x s m ≤ 61 := by
  have := loss_le x s
  unfold lsL
  split <;> omega
theorem lsL_lt {x : St} {s m : Nat} (hm : m ≤ 61) : (lsL x s m < m ↔ loss x s < m) ∧ (loss x s < m → lsL x s m = loss x s) := by
  unfold lsL
  constructor
  · split
    · rename_i q
      exact ⟨fun _ => q, fun q => q⟩
    · rename_i q
      exact ⟨fun h => absurd h (by omega), fun h => absurd h q⟩
  · intro q
    rw [if_pos q]
theorem lsL_61 (x : St) (s : Nat) : lsL x s 61 = loss x s := by
  have := loss_le x s
  unfold lsL
  split <;> omega
/-- the best of those that count: least, the first of them; (0: none, else his number and 1; his worth) -/
def minG (ok : Nat → Bool) (f : Nat → Nat) : Nat → Nat × Nat
  | 0 => (0, 61)
  | i + 1 => if ok i = true ∧ f i < (minG ok f i).2 then (i + 1, f i) else minG ok f i
theorem minG_le (ok : Nat → Bool) (f : Nat → Nat) : ∀ n, (minG ok f n).1 ≤ n ∧ (minG ok f n).2 ≤ 61
  | 0 => ⟨Nat.le_refl _, Nat.le_refl _⟩
  | n + 1 => by
    have h := minG_le ok f n
    have e : minG ok f (n + 1) = if ok n = true ∧ f n < (minG ok f n).2 then (n + 1, f n) else minG ok f n := rfl
    rw [e]
    split
    · rename_i q
      exact ⟨Nat.le_refl _, by have := q.2; dsimp only; omega⟩
    · exact ⟨by omega, h.2⟩
theorem minG_congr {ok ok2 : Nat → Bool} {f g : Nat → Nat} : ∀ n, (∀ i, i < n → ok i = ok2 i) → (∀ i, i < n → ok i = true → f i = g i) → minG ok f n = minG ok2 g n
  | 0, _, _ => rfl
  | n + 1, h1, h2 => by
    have ih := minG_congr n (fun i hi => h1 i (by omega)) (fun i hi => h2 i (by omega))
    have e : minG ok f (n + 1) = if ok n = true ∧ f n < (minG ok f n).2 then (n + 1, f n) else minG ok f n := rfl
    have e2 : minG ok2 g (n + 1) = if ok2 n = true ∧ g n < (minG ok2 g n).2 then (n + 1, g n) else minG ok2 g n := rfl
    rw [e, e2, ih, ← h1 n (by omega)]
    by_cases q : ok n = true
    · rw [h2 n (by omega) q]
    · rw [if_neg (fun h => q h.1), if_neg (fun h => q h.1)]
def maxG (ok : Nat → Bool) (f : Nat → Nat) : Nat → Nat × Nat
  | 0 => (0, 0)
  | i + 1 => if ok i = true ∧ ((maxG ok f i).1 = 0 ∨ (maxG ok f i).2 < f i) then (i + 1, f i) else maxG ok f i
theorem maxG_le (ok : Nat → Bool) (f : Nat → Nat) (hf : ∀ i, f i ≤ 61) : ∀ n, (maxG ok f n).1 ≤ n ∧ (maxG ok f n).2 ≤ 61
  | 0 => ⟨Nat.le_refl _, Nat.zero_le _⟩
  | n + 1 => by
    have h := maxG_le ok f hf n
    have e : maxG ok f (n + 1) = if ok n = true ∧ ((maxG ok f n).1 = 0 ∨ (maxG ok f n).2 < f n) then (n + 1, f n) else maxG ok f n := rfl
    rw [e]
    split
    · exact ⟨Nat.le_refl _, hf n⟩
    · exact ⟨by omega, h.2⟩
/-! THE OUTLOOK -/
def OutI (h : HP) (o : Nat) : Prop := OA 1 h o ∧ hR h o 0 = some (o + 1) ∧ hR h o 1 = some (o + 12) ∧ IsI h (o + 1) ∧ IA h (o + 12) 6
theorem Fr.Out {b n o : Nat} {h h' : HP} (f : Fr b n h h') (H : OutI h o) : OutI h' o :=
  ⟨f.OA H.1, by rw [f.2.2.2.1]; exact H.2.1, by rw [f.2.2.2.1]; exact H.2.2.1, f.I H.2.2.2.1, f.IA H.2.2.2.2⟩
theorem OutI.t {h : HP} {o : Nat} (H : OutI h o) : gR 1 0 o h = some (o + 1) := gR_ok H.1 H.2.1
theorem OutI.l {h : HP} {o : Nat} (H : OutI h o) : gR 1 1 o h = some (o + 12) := gR_ok H.1 H.2.2.1
theorem OutI.I {h : HP} {o : Nat} (H : OutI h o) : IsI h (o + 1) := H.2.2.2.1
/-- a limit -/
theorem lim_lt {m i : Nat} (hm : m ≤ 1000) (hi : i ≤ 1000) : nI m - 1 < nI i ↔ m ≤ i := by
  rw [show (1 : Int32) = zI 1 from rfl, zI_n, zI_n, zI_sub, zI_lt (by omega) (by omega) (by omega) (by omega)]
  omega
theorem lim_n (n : Nat) : nI n = nI (n + 1) - 1 := by
  rw [show (1 : Int32) = nI 1 from rfl, pk_sub (by omega)]
  rfl
section LOOK
variable {h : HP} {a o : Nat} {x y : St} {s : Nat}
theorem s_loss (HO : OutI h o) (O : Ok y) (V : VC h (o + 1) y) (hs : s < sS y) {m : Nat} (hm : m ≤ 61) {u : Int32} (hu : u = nI m - 1) : Ret (f_X1_lossFromThen o (nI s) u h) (nI (lsL y s m)) (fun h' => Fr (o + 1) 11 h h') := by
  subst hu
  have hS := O.2.1
  have hs7 : s < ln 7 := by show s < 6; omega
  refine Ret.loop (lp := lp_X1_lossFromThen_2 o (nI s) (nI m - 1) _) (fun i q => Fr (o + 1) 11 h q ∧ VC q (o + 1) (yS y s i) ∧ ∀ j, j < i → ¬ lsP y s j = true) m (by omega) ⟨Fr.rf _ _ _, V, fun j hj => absurd hj (by omega)⟩ ?_ ?_
  · rintro k i h1 hi ⟨F, V1, hn⟩ kk
    have H1 := F.Out HO
    have O1 := Ok_yS O s i
    have E := EqS_yN O hs i
    have e7 : sA (yS y s i) 7 s = sA (yN y i) 7 s := E.2.2.2.2.2.2.1.symm
    have b7 : sA (yN y i) 7 s < 3 := (Ok_yN O i).b 7 s (by decide) hs7
    show Ret (lb_X1_lossFromThen_2 o _ _ _ _ _ h1) _ _
    unfold lb_X1_lossFromThen_2
    rw [if_neg (by rw [lim_lt (by omega) (by omega)]; omega), H1.t, bd_ok, H1.I.r 7 (by decide) rfl rfl, bd_ok, I_ld H1.I V1 7 (by decide) hs7 rfl, bd_ok, bd_ok, e7, nI1 i]
    by_cases q : sA (yN y i) 7 s = 0
    · rw [if_pos (show nI (sA (yN y i) 7 s) = 0 by rw [q]; rfl)]
      refine Ret.icall H1.I.1 (s_passYearOf H1.I O1 V1 (by rw [sS_yS]; exact hs)) fun h2 ⟨F2, V2⟩ => kk h2 ⟨F.tr F2, V2, fun j hj => ?_⟩
      by_cases e : j = i
      · rw [e]
        unfold lsP
        simp [q]
      · exact hn j (by omega)
    · rw [if_neg (show ¬ nI (sA (yN y i) 7 s) = 0 from eqN q (by decide) (by omega)), lsL_hit hm hi hn (by unfold lsP; simp [q])]
      exact Ret.mk (F.wide (by omega) (by omega))
  · rintro k h1 ⟨F, V1, hn⟩
    show Ret (lb_X1_lossFromThen_2 o _ _ _ _ _ h1) _ _
    unfold lb_X1_lossFromThen_2
    rw [if_pos (by rw [lim_lt (by omega) (by omega)]; omega), lsL_miss hm hn]
    exact Ret.mk (F.wide (by omega) (by omega))
/-- the copy is as the isle is -/
theorem o_bec {ρ : Type} {G : Unit → HP → Option (ρ × HP)} {w : ρ} {Q : HP → Prop} (HO : OutI h o) (HA : IsI h a) (O : Ok x) (V : VC h a x) (hd : a + 11 ≤ o + 1) {h1 : HP} (F : Fr (o + 1) 11 h h1) (kk : ∀ h', Fr (o + 1) 11 h h' → VC h' (o + 1) x → Ret (G () h') w Q) : Ret ((gR 1 0 o h1).bind fun t => ob (inv 0 t h1 (f_X0_become t a h1)) G) w Q := by
  have H1 := F.Out HO
  rw [H1.t, bd_ok]
  exact Ret.icall H1.I.1 (s_become H1.I (F.I HA) O (V.fr F (by omega)) (by omega)) fun h2 ⟨F2, V2⟩ => kk h2 (F.tr (F2.wide (by omega) (by omega))) V2
theorem s_lossIn (HO : OutI h o) (HA : IsI h a) (O : Ok x) (V : VC h a x) (hd : a + 11 ≤ o + 1) (hs : s < sS x) : Ret (f_X1_lossIn o a (nI s) h) (nI (loss x s)) (fun h' => Fr (o + 1) 11 h h') := by
  unfold f_X1_lossIn
  refine o_bec HO HA O V hd (Fr.rf _ _ _) fun h1 F1 V1 => ?_
  have H1 := F1.Out HO
  refine Ret.icall H1.1 (s_loss H1 O V1 hs (Nat.le_refl 61) rfl) fun h2 F2 => ?_
  rw [lsL_61]
  exact Ret.mk (F1.tr F2)
theorem s_after (HO : OutI h o) (HA : IsI h a) (O : Ok x) (V : VC h a x) (hd : a + 11 ≤ o + 1) {n : Nat} (hn : n ≤ 60) : Ret (f_X1_after o a (nI n) h) (o + 1) (fun h' => Fr (o + 1) 11 h h' ∧ VC h' (o + 1) (yN x n)) := by
  unfold f_X1_after
  refine o_bec HO HA O V hd (Fr.rf _ _ _) fun h1 F1 V1 => ?_
  refine Ret.loop (lp := lp_X1_after_10 o (nI n) _) (fun i q => Fr (o + 1) 11 h q ∧ VC q (o + 1) (yN x i)) n (by omega) ⟨F1, V1⟩ ?_ ?_
  · rintro k i h2 hi ⟨F2, V2⟩ kk
    have H2 := F2.Out HO
    show Ret (lb_X1_after_10 o _ _ _ _ h2) _ _
    unfold lb_X1_after_10
    rw [iN hi (by omega), H2.t, bd_ok, nI1 i]
    exact Ret.icall H2.I.1 (s_passYear H2.I (Ok_yN O i) V2) fun h3 ⟨F3, V3⟩ => kk h3 ⟨F2.tr (F3.wide (by omega) (by omega)), V3⟩
  · rintro k h2 ⟨F2, V2⟩
    have H2 := F2.Out HO
    show Ret (lb_X1_after_10 o _ _ _ _ h2) _ _
    unfold lb_X1_after_10
    rw [iY (by omega)]
    dsimp only
    rw [H2.t, bd_ok]
    exact Ret.mk ⟨F2, V2⟩
/-- is it sung behind i years -/
def sgP (x : St) (s i : Nat) : Bool := decide (sA (yN x i) 7 s = 2)
def fgP (x : St) (p s i : Nat) : Bool := decide (sA (yN x i) 9 (p * 6 + s) = 0)
theorem s_findIn (HO : OutI h o) (HA : IsI h a) (O : Ok x) (V : VC h a x) (hd : a + 11 ≤ o + 1) (hs : s < sS x) : Ret (f_X1_findIn o a (nI s) h) (nI (fstN (sgP x s) 61)) (fun h' => Fr (o + 1) 11 h h') := by
  have hS := O.2.1
  have hs7 : s < ln 7 := by show s < 6; omega
  unfold f_X1_findIn
  refine o_bec HO HA O V hd (Fr.rf _ _ _) fun h1 F1 V1 => ?_
  refine Ret.loop (lp := lp_X1_findIn_10 o (nI s) _) (fun i q => Fr (o + 1) 11 h q ∧ VC q (o + 1) (yS x s i) ∧ ∀ j, j < i → ¬ sgP x s j = true) 61 (by omega) ⟨F1, V1, fun j hj => absurd hj (by omega)⟩ ?_ ?_
  · rintro k i h1 hi ⟨F, V1, hn⟩ kk
    have H1 := F.Out HO
    have O1 := Ok_yS O s i
    have E := EqS_yN O hs i
    have e7 : sA (yS x s i) 7 s = sA (yN x i) 7 s := E.2.2.2.2.2.2.1.symm
    have b7 : sA (yN x i) 7 s < 3 := (Ok_yN O i).b 7 s (by decide) hs7
    show Ret (lb_X1_findIn_10 o _ _ _ _ h1) _ _
    unfold lb_X1_findIn_10
    rw [if_neg (show ¬ (60 : Int32) < nI i from ltN (m := 60) (by omega) (by decide)), H1.t, bd_ok, H1.I.r 7 (by decide) rfl rfl, bd_ok, I_ld H1.I V1 7 (by decide) hs7 rfl, bd_ok, bd_ok, e7, nI1 i]
    by_cases q : sA (yN x i) 7 s = 2
    · rw [if_pos (show nI (sA (yN x i) 7 s) = 2 by rw [q]; rfl), fstN_is (P := sgP x s) (n := 61) (k := i) (by omega) hn (fun _ => by unfold sgP; simp [q])]
      exact Ret.mk F
    · rw [if_neg (show ¬ nI (sA (yN x i) 7 s) = 2 from eqN q (by decide) (by omega))]
      refine Ret.icall H1.I.1 (s_passYearOf H1.I O1 V1 (by rw [sS_yS]; exact hs)) fun h2 ⟨F2, V2⟩ => kk h2 ⟨F.tr (F2.wide (by omega) (by omega)), V2, fun j hj => ?_⟩
      by_cases e : j = i
      · rw [e]
        unfold sgP
        simp [q]
      · exact hn j (by omega)
  · rintro k h1 ⟨F, V1, hn⟩
    show Ret (lb_X1_findIn_10 o _ _ _ _ h1) _ _
    unfold lb_X1_findIn_10
    rw [if_pos (show (60 : Int32) < nI 61 by decide), fstN_is (P := sgP x s) (n := 61) (k := 61) (by omega) hn (fun q => absurd q (by omega))]
    exact Ret.mk F
theorem s_forgetIn (HO : OutI h o) (HA : IsI h a) (O : Ok x) (V : VC h a x) (hd : a + 11 ≤ o + 1) {p : Nat} (hp : p < sP x) (hs : s < sS x) : Ret (f_X1_forgetIn o a (nI p) (nI s) h) (nI (fstN (fgP x p s) 61)) (fun h' => Fr (o + 1) 11 h h') := by
  have hS := O.2.1
  have hP := O.1
  unfold f_X1_forgetIn
  refine o_bec HO HA O V hd (Fr.rf _ _ _) fun h1 F1 V1 => ?_
  refine Ret.loop (lp := lp_X1_forgetIn_11 o (nI p) (nI s) _) (fun i q => Fr (o + 1) 11 h q ∧ VC q (o + 1) (yS x s i) ∧ ∀ j, j < i → ¬ fgP x p s j = true) 61 (by omega) ⟨F1, V1, fun j hj => absurd hj (by omega)⟩ ?_ ?_
  · rintro k i h1 hi ⟨F, V1, hn⟩ kk
    have H1 := F.Out HO
    have O1 := Ok_yS O s i
    have E := EqS_yN O hs i
    have hp1 : p < sP (yS x s i) := by rw [sP_yS]; exact hp
    have hs1 : s < sS (yS x s i) := by rw [sS_yS]; exact hs
    have e9 : sA (yS x s i) 9 (p * 6 + s) = sA (yN x i) 9 (p * 6 + s) := (E.2.2.2.2.2.2.2.1 p (by rw [sP_yN]; exact hp)).symm
    have b9 : sA (yS x s i) 9 (p * 6 + s) ≤ 100 := O1.h hp1 hs1
    show Ret (lb_X1_forgetIn_11 o _ _ _ _ _ h1) _ _
    unfold lb_X1_forgetIn_11
    rw [if_neg (show ¬ (60 : Int32) < nI i from ltN (m := 60) (by omega) (by decide)), H1.t, bd_ok, inv_ok H1.I.1, s_heldFor H1.I O1 V1 hp1 hs1, ob_ok, H1.t, bd_ok, nI1 i]
    by_cases q : sA (yS x s i) 9 (p * 6 + s) = 0
    · rw [if_pos ((hv_m1 (by omega)).mpr q), fstN_is (P := fgP x p s) (n := 61) (k := i) (by omega) hn (fun _ => by unfold fgP; rw [← e9]; simp [q])]
      exact Ret.mk F
    · rw [if_neg (by rw [hv_m1 (by omega)]; exact q)]
      refine Ret.icall H1.I.1 (s_passYearOf H1.I O1 V1 hs1) fun h2 ⟨F2, V2⟩ => kk h2 ⟨F.tr (F2.wide (by omega) (by omega)), V2, fun j hj => ?_⟩
      by_cases e : j = i
      · rw [e]
        unfold fgP
        rw [← e9]
        simp [q]
      · exact hn j (by omega)
  · rintro k h1 ⟨F, V1, hn⟩
    show Ret (lb_X1_forgetIn_11 o _ _ _ _ _ h1) _ _
    unfold lb_X1_forgetIn_11
    rw [if_pos (show (60 : Int32) < nI 61 by decide), fstN_is (P := fgP x p s) (n := 61) (k := 61) (by omega) hn (fun q => absurd q (by omega))]
    exact Ret.mk F
end LOOK
