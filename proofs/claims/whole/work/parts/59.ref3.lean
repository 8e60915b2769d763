/-! THE REFERENCE: one like another; being built; thoughts; when a song runs out -/
/-- numbers and rows so far as the other's -/
def BcR (h : HP) (a b : Nat) (S : List Nat) (T : Nat) (h' : HP) : Prop := Fk a h h' ∧ (∀ k, k ∈ S → hI h' a k = hI h b k) ∧ ∀ k, k < T → ∀ i, i < ln k → hI h' (a + 17 + k) i = hI h (b + 17 + k) i
section REF3
variable {h : HP} {a b : Nat} {x : St}
theorem t_num {ρ : Type} {G : HP → Option (ρ × HP)} {w : ρ} {Q : HP → Prop} (H : MdI h a) (Hb : MdI h b) (hd : b + 33 ≤ a ∨ a + 33 ≤ b) (k : Nat) {i : Nat} (hi : i < 6) (hk : φR i = k) {S : List Nat} {T : Nat} {h1 : HP} (B : BcR h a b S T h1) (kk : ∀ h', BcR h a b (k :: S) T h' → Ret (G h') w Q) : Ret ((gI 6 k b h1).bind fun v => (pI 6 k a v h1).bind G) w Q := by
  obtain ⟨F, B1, B2⟩ := B
  rw [gI_ok (F.1.OA Hb.1), bd_ok, pI_ok (F.1.OA H.1), bd_ok]
  have eb : hI h1 b = hI h b := F.1.2.2.2.2.2 b (by omega)
  refine kk _ ⟨F.tr ⟨Fr.w (by omega) (by omega), fun q h1 _ => hI_wn _ _ (by omega), fun j hj => by rw [hI_w, upd_n _ _ (fun e => hj i hi (hk.trans e.symm))]⟩, fun j hj => ?_, fun k' hk' i hi => ?_⟩
  · rw [hI_w, eb]
    by_cases e : j = k
    · rw [e, upd_s]
    · rw [upd_n _ _ e]
      rcases List.mem_cons.mp hj with g | g
      · exact absurd g e
      · exact B1 j g
  · rw [hI_wn _ _ (by omega)]
    exact B2 k' hk' i hi
theorem r_copied {c d n : Nat} (H0 : IA h c n) (H1 : IA h d n) (hcd : c ≠ d) (hn : n < 1000) : Ret (f_X6_copied c d h) () (fun h' => Fr d 1 h h' ∧ ∀ i, i < n → hI h' d i = hI h c i) := by
  refine Ret.loop (lp := lp_X6_copied_2 c d _) (fun i q => Fr d 1 h q ∧ ∀ j, j < i → hI q d j = hI h c j) n hn ⟨Fr.rf _ _ _, fun j hj => absurd hj (by omega)⟩ ?_ ?_
  · rintro k i h1 hi ⟨F, B⟩ kk
    have G0 := F.IA H0
    have G1 := F.IA H1
    show Ret (lb_X6_copied_2 c d _ _ _ h1) _ _
    unfold lb_X6_copied_2
    have el : aL c h1 = some (nI n) := by unfold aL; rw [if_pos G0.o, G0.l]; rfl
    rw [el, bd_ok, iN hi (by omega), lI_ok G0 hi (by omega), bd_ok, sI_ok G1 hi (by omega), bd_ok, nI1]
    refine kk _ ⟨F.tr (Fr.w (by omega) (by omega)), fun j hj => ?_⟩
    rw [hI_w, F.2.2.2.2.2 c (by omega)]
    by_cases e : j = i
    · rw [e, upd_s]
    · rw [upd_n _ _ e]
      exact B j (by omega)
  · rintro k h1 ⟨F, B⟩
    have G0 := F.IA H0
    show Ret (lb_X6_copied_2 c d _ _ _ h1) _ _
    unfold lb_X6_copied_2
    have el : aL c h1 = some (nI n) := by unfold aL; rw [if_pos G0.o, G0.l]; rfl
    rw [el, bd_ok, iY (by omega)]
    exact Ret.mk ⟨F, B⟩
theorem t_arr {ρ : Type} {G : Unit → HP → Option (ρ × HP)} {w : ρ} {Q : HP → Prop} (H : MdI h a) (Hb : MdI h b) (hd : b + 33 ≤ a ∨ a + 33 ≤ b) (k : Nat) (hk : k < 10) {j : Nat} (hj : 14 + k = j) {S : List Nat} {h1 : HP} (B : BcR h a b S k h1) (kk : ∀ h', BcR h a b S (k + 1) h' → Ret (G () h') w Q) : Ret ((gR 6 j b h1).bind fun q => (gR 6 j a h1).bind fun r => ob (f_X6_copied q r h1) G) w Q := by
  obtain ⟨F, B1, B⟩ := B
  have hl := ln_le k hk
  rw [(F.Md Hb).rk k hk hj rfl, bd_ok, (F.Md H).rk k hk hj rfl, bd_ok]
  refine (r_copied ((F.Md Hb).ak k hk rfl rfl) ((F.Md H).ak k hk rfl rfl) (by omega) (by omega)).call fun h2 ⟨F2, B2⟩ => ?_
  refine kk _ ⟨F.tr (Fk.of F2 (by omega) (by omega)), fun k' hk' => ?_, fun k' hk' i hi => ?_⟩
  · rw [F2.2.2.2.2.2 a (by omega)]
    exact B1 k' hk'
  · by_cases e : k' = k
    · subst e
      rw [B2 i hi, F.1.2.2.2.2.2 (b + 17 + k') (by omega)]
    · rw [F2.2.2.2.2.2 _ (by omega)]
      exact B k' (by omega) i hi
theorem r_take (H : MdI h a) (Hb : MdI h b) (O : Ok x) (V : VR h b x) (hd : b + 33 ≤ a ∨ a + 33 ≤ b) : Ret (f_X6_takeFrom a b h) () (fun h' => Fk a h h' ∧ VR h' a x) := by
  have hP := O.1
  have hS := O.2.1
  unfold f_X6_takeFrom
  refine t_num H Hb hd 9 (i := 2) (by decide) rfl (S := []) (T := 0) ⟨Fk.rf _ _, fun k hk => absurd hk (by simp), fun k hk => absurd hk (by omega)⟩ fun h1 B1 => ?_
  refine t_num H Hb hd 10 (i := 3) (by decide) rfl B1 fun h2 B2 => ?_
  refine t_num H Hb hd 11 (i := 0) (by decide) rfl B2 fun h3 B3 => ?_
  refine t_num H Hb hd 12 (i := 1) (by decide) rfl B3 fun h4 B4 => ?_
  refine t_num H Hb hd 13 (i := 5) (by decide) rfl B4 fun h5 B5 => ?_
  refine t_arr H Hb hd 0 (by decide) rfl B5 fun g1 C1 => ?_
  refine t_arr H Hb hd 1 (by decide) rfl C1 fun g2 C2 => ?_
  refine t_arr H Hb hd 2 (by decide) rfl C2 fun g3 C3 => ?_
  refine t_arr H Hb hd 3 (by decide) rfl C3 fun g4 C4 => ?_
  refine t_arr H Hb hd 4 (by decide) rfl C4 fun g5 C5 => ?_
  refine t_arr H Hb hd 5 (by decide) rfl C5 fun g6 C6 => ?_
  refine t_arr H Hb hd 6 (by decide) rfl C6 fun g7 C7 => ?_
  refine t_arr H Hb hd 7 (by decide) rfl C7 fun g8 C8 => ?_
  refine t_arr H Hb hd 8 (by decide) rfl C8 fun g9 C9 => ?_
  refine t_arr H Hb hd 9 (by decide) rfl C9 fun g C => ?_
  refine t_num H Hb hd 24 (i := 4) (by decide) rfl C fun g D => ?_
  obtain ⟨F, D1, D2⟩ := D
  refine Ret.mk ⟨F, ?_⟩
  obtain ⟨v1, v2, v3, v4, v5, v6, v7, v8⟩ := V
  refine ⟨(D1 11 (by simp)).trans v1, (D1 12 (by simp)).trans v2, (D1 9 (by simp)).trans v3, (D1 10 (by simp)).trans v4, (D1 24 (by simp)).trans v5, (D1 13 (by simp)).trans v6, fun k hk i hi => (D2 k (by omega) i hi).trans (v7 k hk i hi), fun p hp s hs => (D2 9 (by decide) _ (show p * 6 + s < 48 by omega)).trans (v8 p hp s hs)⟩
end REF3
/-! being built: cells (place, kind, length), references (field, place), numbers; how many cells, slots -/
def Sm (n : Nat) (h h' : HP) : Prop := ∀ q, q < n → hS h' q = hS h q ∧ hR h' q = hR h q ∧ hI h' q = hI h q ∧ hJ h' q = hJ h q
theorem Sm.rf (n : Nat) (h : HP) : Sm n h h := fun _ _ => ⟨rfl, rfl, rfl, rfl⟩
theorem Sm.tr {n : Nat} {h h1 h2 : HP} (f : Sm n h h1) (g : Sm n h1 h2) : Sm n h h2 := fun q hq =>
  ⟨(g q hq).1.trans (f q hq).1, (g q hq).2.1.trans (f q hq).2.1, (g q hq).2.2.1.trans (f q hq).2.2.1, (g q hq).2.2.2.trans (f q hq).2.2.2⟩
theorem Sm.le {n k : Nat} {h h1 : HP} (f : Sm n h h1) (hk : k ≤ n) : Sm k h h1 := fun q hq => f q (by omega)
def BI (c t : Nat) (h0 : HP) (as : List (Nat × Nat × Nat)) (rs : List (Nat × Nat)) (g : Nat → Int32) (M nc sl : Nat) (h : HP) : Prop :=
  (hN h = t + nc ∧ 0 < nc ∧ hL h = sl ∧ OA c h t ∧ hI h t = g) ∧ (∀ q, q ∈ as → 0 < q.1 ∧ q.1 < nc ∧ hS h (t + q.1) = (q.2.1, q.2.2) ∧ (∀ i, hI h (t + q.1) i = 0) ∧ ∀ i, hJ h (t + q.1) i = 0) ∧ (∀ j, hR h t j = (rs.lookup j).map (fun o => t + o)) ∧
  (M ≠ 0 → M < nc ∧ ∀ i, i < 8 → hR h (t + M) i = some (t + M + 1 + i)) ∧ Sm t h0 h
theorem BI.num {ρ : Type} {G : HP → Option (ρ × HP)} {w : ρ} {Q : HP → Prop} {c t : Nat} {h0 h : HP} {as : List (Nat × Nat × Nat)} {rs : List (Nat × Nat)} {g : Nat → Int32} {M nc sl : Nat} (B : BI c t h0 as rs g M nc sl h) {k : Nat} {v : Int32} (kk : ∀ h', BI c t h0 as rs (upd g k v) M nc sl h' → Ret (G h') w Q) : Ret ((pI c k t v h).bind G) w Q := by
  obtain ⟨⟨b1, b2, b3, b4, b5⟩, b6, b7, b8, b9⟩ := B
  rw [pI_ok b4, bd_ok]
  refine kk _ ⟨⟨b1, b2, b3, b4, by rw [hI_w, b5]⟩, fun q hq => ?_, b7, b8, fun q hq => ⟨(b9 q hq).1, (b9 q hq).2.1, by rw [hI_wn _ _ (by omega)]; exact (b9 q hq).2.2.1, (b9 q hq).2.2.2⟩⟩
  obtain ⟨c1, c2, c3, c4, c5⟩ := b6 q hq
  exact ⟨c1, c2, c3, fun i => by rw [hI_wn _ _ (by omega)]; exact c4 i, c5⟩
theorem lookup_cons (f o j : Nat) (rs : List (Nat × Nat)) : ((f, o) :: rs).lookup j = if j = f then some o else rs.lookup j := by
  show (match j == f with | true => some o | false => rs.lookup j) = _
  by_cases e : j = f
  · subst e
    simp
  · rw [if_neg e, beq_false_of_ne e]
theorem hR_w (h : HP) (b : Nat) (g : Nat → Option Nat) : hR (wR h b g) b = g := upA_s _ _ _
theorem hR_wn (h : HP) {b q : Nat} (g : Nat → Option Nat) (hq : q ≠ b) : hR (wR h b g) q = hR h q := upA_n _ _ hq
theorem BI.arr {ρ : Type} {G : HP → Option (ρ × HP)} {w : ρ} {Q : HP → Prop} {c t : Nat} {h0 h : HP} {as : List (Nat × Nat × Nat)} {rs : List (Nat × Nat)} {g : Nat → Int32} {M nc sl : Nat} (B : BI c t h0 as rs g M nc sl h) {k n f : Nat} {u : Int32} (hu : u = nI n) (hn : n ≤ 4096) (kk : ∀ h', BI c t h0 ((nc, k, n) :: as) ((f, nc) :: rs) g M (nc + 1) (sl + n) h' → Ret (G h') w Q) : Ret (ob (mkA k u h) fun x hx => (pR c f t x hx).bind G) w Q := by
  subst hu
  obtain ⟨⟨b1, b2, b3, b4, b5⟩, b6, b7, b8, b9⟩ := B
  unfold mkA
  have e9 : (nI n).toNatClampNeg = n := tcN (by omega)
  rw [if_pos ⟨by rw [Int32.lt_iff_toInt_lt, nI_toInt (by omega), show (0 : Int32).toInt = 0 from rfl]; omega, by rw [e9]; exact hn⟩, e9, ob_ok]
  have hN1 : hN (nw h k n n) = hN h + 1 := rfl
  have n1 : ∀ q, q < hN h → hS (nw h k n n) q = hS h q ∧ hR (nw h k n n) q = hR h q ∧ hI (nw h k n n) q = hI h q ∧ hJ (nw h k n n) q = hJ h q := fun q hq =>
    ⟨upA_n _ _ (Nat.ne_of_lt hq), upA_n _ _ (Nat.ne_of_lt hq), upA_n _ _ (Nat.ne_of_lt hq), upA_n _ _ (Nat.ne_of_lt hq)⟩
  have s1 : hS (nw h k n n) (hN h) = (k, n) := upA_s _ _ _
  have s2 : hI (nw h k n n) (hN h) = fun _ => 0 := upA_s _ _ _
  have s3 : hJ (nw h k n n) (hN h) = fun _ => 0 := upA_s _ _ _
  have o1 : OA c (nw h k n n) t := ⟨by rw [hN1]; omega, by rw [(n1 t (by omega)).1]; exact b4.2⟩
  unfold pR
  rw [if_pos o1.o, bd_ok]
  refine kk _ ⟨⟨by show hN h + 1 = _; omega, by omega, by show hL h + n = _; omega, o1, by show hI (nw h k n n) t = g; rw [(n1 t (by omega)).2.2.1]; exact b5⟩, fun q hq => ?_, fun j => ?_, fun hM => ?_, fun q hq => ?_⟩
  · rcases List.mem_cons.mp hq with e | e
    · subst e
      refine ⟨b2, by dsimp only; omega, ?_, fun i => ?_, fun i => ?_⟩
      · show hS (nw h k n n) (t + nc) = _
        rw [← b1, s1]
      · show hI (nw h k n n) (t + nc) i = 0
        rw [← b1, s2]
      · show hJ (nw h k n n) (t + nc) i = 0
        rw [← b1, s3]
    · obtain ⟨c1, c2, c3, c4, c5⟩ := b6 q e
      have := n1 (t + q.1) (by omega)
      exact ⟨c1, by omega, this.1.trans c3, fun i => (congrFun this.2.2.1 i).trans (c4 i), fun i => (congrFun this.2.2.2 i).trans (c5 i)⟩
  · rw [hR_w, lookup_cons]
    show (if j = f then some (hN h) else hR (nw h k n n) t j) = _
    rw [(n1 t (by omega)).2.1]
    by_cases e : j = f
    · rw [if_pos e, if_pos e, b1]
      rfl
    · rw [if_neg e, if_neg e]
      exact b7 j
  · obtain ⟨c1, c2⟩ := b8 hM
    refine ⟨by omega, fun i hi => ?_⟩
    rw [hR_wn _ _ (by omega)]
    exact (congrFun (n1 _ (by omega)).2.1 i).trans (c2 i hi)
  · have := n1 q (by omega)
    have d := b9 q hq
    refine ⟨this.1.trans d.1, ?_, this.2.2.1.trans d.2.2.1, this.2.2.2.trans d.2.2.2⟩
    rw [hR_wn _ _ (by omega)]
    exact this.2.1.trans d.2.1
theorem BI.mat {ρ : Type} {G : HP → Option (ρ × HP)} {w : ρ} {Q : HP → Prop} {c t : Nat} {h0 h : HP} {as : List (Nat × Nat × Nat)} {rs : List (Nat × Nat)} {g : Nat → Int32} {nc sl : Nat} (B : BI c t h0 as rs g 0 nc sl h) {f : Nat} (kk : ∀ h', BI c t h0 ((nc, 10, 8) :: ((List.range 8).map (fun i => (nc + 1 + i, 8, 40)) ++ as)) ((f, nc) :: rs) g nc (nc + 9) (sl + 328) h' → Ret (G h') w Q) : Ret (ob (mkM 8 40 h) fun x hx => (pR c f t x hx).bind G) w Q := by
  obtain ⟨⟨b1, b2, b3, b4, b5⟩, b6, b7, b8, b9⟩ := B
  unfold mkM
  rw [if_pos ⟨⟨by decide, by decide⟩, by decide, by decide⟩, ob_ok, show (8 : Int32).toNatClampNeg = 8 from rfl, show (40 : Int32).toNatClampNeg = 40 from rfl]
  have hN1 : hN (nwM h 8 40) = hN h + 9 := rfl
  have n1 : ∀ q, q < hN h → hS (nwM h 8 40) q = hS h q ∧ hR (nwM h 8 40) q = hR h q ∧ hI (nwM h 8 40) q = hI h q ∧ hJ (nwM h 8 40) q = hJ h q := fun q hq => by
    have hq' : q < h.1 := hq
    exact ⟨if_pos hq', if_pos hq', if_pos hq', if_pos hq'⟩
  have n2 : ∀ q, ¬ q < h.1 → hI (nwM h 8 40) q = (fun _ => 0) ∧ hJ (nwM h 8 40) q = (fun _ => 0) := fun q hq => ⟨if_neg hq, if_neg hq⟩
  have o1 : OA c (nwM h 8 40) t := ⟨by rw [hN1]; omega, by rw [(n1 t (by omega)).1]; exact b4.2⟩
  have b1' : h.1 = t + nc := b1
  unfold pR
  rw [if_pos o1.o, bd_ok]
  refine kk _ ⟨⟨by show hN h + 9 = _; omega, by omega, by show hL h + 8 + 8 * 40 = _; omega, o1, by show hI (nwM h 8 40) t = g; rw [(n1 t (by omega)).2.2.1]; exact b5⟩, fun q hq => ?_, fun j => ?_, fun hM => ⟨by omega, fun i hi => ?_⟩, fun q hq => ?_⟩
  · rcases List.mem_cons.mp hq with e | e
    · subst e
      refine ⟨b2, by dsimp only; omega, ?_, fun i => ?_, fun i => ?_⟩
      · show (if t + nc < h.1 then h.2.2.1 (t + nc) else if t + nc = h.1 then (10, 8) else (8, 40)) = _
        rw [if_neg (by omega), if_pos b1'.symm]
      · exact congrFun (n2 (t + nc) (by omega)).1 i
      · exact congrFun (n2 (t + nc) (by omega)).2 i
    · rcases List.mem_append.mp e with e | e
      · obtain ⟨i, hi, rfl⟩ := List.mem_map.mp e
        have hi := List.mem_range.mp hi
        refine ⟨by dsimp only; omega, by dsimp only; omega, ?_, fun j => ?_, fun j => ?_⟩
        · show (if t + (nc + 1 + i) < h.1 then h.2.2.1 (t + (nc + 1 + i)) else if t + (nc + 1 + i) = h.1 then (10, 8) else (8, 40)) = _
          rw [if_neg (by omega), if_neg (by omega)]
        · exact congrFun (n2 (t + (nc + 1 + i)) (by omega)).1 j
        · exact congrFun (n2 (t + (nc + 1 + i)) (by omega)).2 j
      · obtain ⟨c1, c2, c3, c4, c5⟩ := b6 q e
        have := n1 (t + q.1) (by omega)
        exact ⟨c1, by omega, this.1.trans c3, fun i => (congrFun this.2.2.1 i).trans (c4 i), fun i => (congrFun this.2.2.2 i).trans (c5 i)⟩
  · rw [hR_w, lookup_cons]
    show (if j = f then some (hN h) else hR (nwM h 8 40) t j) = _
    rw [(n1 t (by omega)).2.1]
    by_cases e : j = f
    · rw [if_pos e, if_pos e, b1]
      rfl
    · rw [if_neg e, if_neg e]
      exact b7 j
  · rw [hR_wn _ _ (by omega)]
    show (if t + nc < h.1 then h.2.2.2.1 (t + nc) else if t + nc = h.1 then (fun i => if i < 8 then some (h.1 + 1 + i) else none) else fun _ => none) i = _
    rw [if_neg (by omega), if_pos b1'.symm, if_pos hi, b1']
  · have := n1 q (by omega)
    have d := b9 q hq
    refine ⟨this.1.trans d.1, ?_, this.2.2.1.trans d.2.2.1, this.2.2.2.trans d.2.2.2⟩
    rw [hR_wn _ _ (by omega)]
    exact this.2.1.trans d.2.1
theorem BI.new (c : Nat) (h : HP) : BI c (hN h) h [] [] (fun _ => 0) 0 1 (hL h + nfl c) (nO c h) := by
  have n1 : ∀ q, q < hN h → hS (nO c h) q = hS h q ∧ hR (nO c h) q = hR h q ∧ hI (nO c h) q = hI h q ∧ hJ (nO c h) q = hJ h q := fun q hq =>
    ⟨upA_n _ _ (Nat.ne_of_lt hq), upA_n _ _ (Nat.ne_of_lt hq), upA_n _ _ (Nat.ne_of_lt hq), upA_n _ _ (Nat.ne_of_lt hq)⟩
  have s1 : hS (nO c h) (hN h) = (c, 0) := upA_s _ _ _
  have s2 : hI (nO c h) (hN h) = fun _ => 0 := upA_s _ _ _
  have s3 : hR (nO c h) (hN h) = fun _ => none := upA_s _ _ _
  exact ⟨⟨rfl, by decide, rfl, ⟨Nat.lt_succ_self _, by rw [s1]⟩, s2⟩, fun q hq => absurd hq (by simp), fun j => by rw [s3]; rfl, fun hM => absurd rfl hM, n1⟩
