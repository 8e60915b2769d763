/-! NEW CELLS, CALLS, RETURNS -/
def mkO (c : Nat) (h : HP) : Option (Nat × HP) := some (hN h, nO c h)
def mkA (t : Nat) (n : Int32) (h : HP) : Option (Nat × HP) := if ¬ n < 0 ∧ n.toNatClampNeg ≤ 4096 then some (hN h, nw h t n.toNatClampNeg n.toNatClampNeg) else none
/-- n rows of k longs, and the array of them ahead -/
def nwM (h : HP) (n k : Nat) : HP := (h.1 + 1 + n, h.2.1 + n + n * k,
  fun q => if q < h.1 then h.2.2.1 q else if q = h.1 then (10, n) else (8, k),
  fun q => if q < h.1 then h.2.2.2.1 q else if q = h.1 then (fun i => if i < n then some (h.1 + 1 + i) else none) else fun _ => none,
  fun q => if q < h.1 then h.2.2.2.2.1 q else fun _ => 0, fun q => if q < h.1 then h.2.2.2.2.2 q else fun _ => 0)
def mkM (n k : Int32) (h : HP) : Option (Nat × HP) := if (¬ n < 0 ∧ n.toNatClampNeg ≤ 4096) ∧ (¬ k < 0 ∧ k.toNatClampNeg ≤ 4096) then some (hN h, nwM h n.toNatClampNeg k.toNatClampNeg) else none
/-- a method's end -/
abbrev Mq (Z : ZZ) (args : Array Value) (h0 h1 : HP) (rv : Option Value) : State → List Frame → State → Prop := fun s below => MQ below (Qg Z rv h1) args s (hN h1 - hN h0) (hL h1 - hL h0) (zA Z)
/-- a class that is made: the link, its fields' first values -/
def NCL (own : String) (idx ci : Nat) : Prop := ∃ (C : String) (T : u_T) (ty : Nat → FieldType) (N : Nat), vwCl[ci]? = some (C, T, N) ∧ ci < 7 ∧ N = nfl ci ∧ (∀ w ∈ u_ws C T N, w ∈ lw_tbl) ∧ (∀ j, j < N → parseFieldDescriptor (T j).2.2.1 = some (ty j)) ∧ (∀ j, j < N → defaultValue (ty j) = if isrf ci j = true then .null else .int 0) ∧
  Cond.classLink own idx C ∈ lw_tbl ∧ Cond.instantiable C N ∈ lw_tbl ∧ Cond.initialized C ∈ lw_tbl
section CALLS
variable {p : Program} {l : Launch} {e : Env} {R : Room} {s : State} {m : MethodId} {args : Array Value} {below : List Frame} {meth : Method} {c : Code} {Q : State → Prop}
variable {Z : ZZ} {cc : ByteArray} {own : String} {nL fr lc : Nat} {rt : Option FieldType} {nm : String} {QQ : State → List Frame → State → Prop} {h0 h1 : HP} {ρ : Type} {v0 : ρ}
variable {pc pc' tgt : Nat} {lo lo' : List (Nat × Value)} {st rest : List Value} {h : HP} {o o1 o2 : Option (ρ × HP)}
/-- one step that makes k cells of n slots -/
theorem Sim.mk {h2 : HP} {k n : Nat} {st' : List Value} (hm : hN h2 = hN h + k) (hm2 : hL h2 = hL h + n)
    (hst : ∀ {p : Program} {e : Env} {R : Room} {s : State} {m : MethodId} {below : List Frame} {meth : Method} {c : Code}, Cx p R s m meth c Z cc own nL fr lc rt nm h0 h1 →  hN h - hN h0 + k ≤ R.cells → hL h - hL h0 + n ≤ R.slots → ∀ (H : Heap) (locs : List Loc) (ls : Array Slot), Rl Z h H → va_S (zA Z) s.heap H locs → lv_has ls nL lo →
      (∀ H1, Rl Z h2 H1 → va_S (zA Z) s.heap H1 locs → W p l e R s m args below meth c H1 locs (hN h - hN h0 + k) (hL h - hL h0 + n) (QQ s below) (F0 m pc' ls st')) → W p l e R s m args below meth c H locs (hN h - hN h0) (hL h - hL h0) (QQ s below) (F0 m pc ls st))
    (kk : Sim Z l cc own nL fr lc rt nm args QQ h0 h1 v0 pc' lo st' h2 o) : Sim Z l cc own nL fr lc rt nm args QQ h0 h1 v0 pc lo st h o := by
  intro ho
  obtain ⟨m1, w1⟩ := kk ho
  have b1 := m1.1
  have b2 := m1.2
  rw [hm] at b1
  rw [hm2] at b2
  refine ⟨⟨by omega, by omega⟩, fun {p e R s m below meth c} C a H locs ls hP hS hl => ?_⟩
  have a1 := a.1
  have a2 := a.2
  have hR9 := C.2.2.2.2.2.2.1
  have q1 := hR9.2.2.1
  have q2 := hR9.2.2.2
  refine hst C (by omega) (by omega) H locs ls hP hS hl fun H1 hP1 hS1 => ?_
  have := w1 (e := e) (below := below) C ⟨by omega, by omega⟩ H1 locs ls hP1 hS1 hl
  rw [hm, hm2, show hN h + k - hN h0 = hN h - hN h0 + k by omega, show hL h + n - hL h0 = hL h - hL h0 + n by omega] at this
  exact this
theorem fvl_new {t n sl c k : Nat} : fvl Z (nw h t n sl) (hN h) c k = if isrf c k = true then .null else .int 0 := by
  have e2 : hR (nw h t n sl) (hN h) = fun _ => none := upA_s _ _ _
  have e3 : hI (nw h t n sl) (hN h) = fun _ => 0 := upA_s _ _ _
  unfold fvl
  rw [e2, e3]
  rfl
theorem Rl_push {t n sl : Nat} {x : va_E} {H H1 : Heap} (hP : Rl Z h H) (he : ent Z (nw h t n sl) (hN h) = x) (hx : va_at (zD Z) vwCl (zb Z + hN h, x) H1) (hz : H1.size = zb Z + hN h + 1) (ho : ∀ q, q < zb Z + hN h → H1[q]? = H[q]?) : Rl Z (nw h t n sl) H1 := by
  refine ⟨?_, by rw [hz]; rfl⟩
  rw [← wsO_push (h := h) (h' := nw h t n sl) rfl he (fun k hk => ent_nw_n hk)]
  refine (hP.1.kept (fun k x hx => ho x.1 ?_)).app (fun k x hx9 => ?_)
  · have := (hP.1 k x hx).lt
    rw [hP.2] at this
    exact this
  · have hz : k < 1 := (List.getElem?_eq_some_iff.mp hx9).1
    rw [show k = 0 by omega] at hx9
    cases hx9
    exact hx
theorem S_push {H H1 : Heap} {locs : List Loc} (hP : Rl Z h H) (hS : va_S (zA Z) s.heap H locs) (hz : H1.size = zb Z + hN h + 1) (ho : ∀ q, q < zb Z + hN h → H1[q]? = H[q]?) : va_S (zA Z) s.heap H1 locs :=
  ⟨Nat.le_trans hS.1 (by rw [hz, hP.2]; omega), fun x h1 h2 => (ho x (by have := hS.1; rw [hP.2] at this; omega)).trans (hS.2.1 x h1 h2), hS.2.2⟩
theorem S_new {idx ci : Nat} (nc : NCL own idx ci) (hd : decode cc pc = .ok (.new idx, 3)) (hp : pc + 3 = pc') {f : Nat → HP → Option (ρ × HP)}
    (kk : ∀ a h2, Sim Z l cc own nL fr lc rt nm args QQ h0 h1 v0 pc' lo (.ref (zb Z + a) :: st) h2 (f a h2)) : Sim Z l cc own nL fr lc rt nm args QQ h0 h1 v0 pc lo st h (ob (mkO ci h) f) := by
  subst hp
  intro ho
  replace ho : f (hN h) (nO ci h) = some (v0, h1) := ho
  obtain ⟨C', T, ty, N, f1, f2, rfl, f5, f6, f7, l1, l2, l3⟩ := nc
  refine Sim.mk (h2 := nO ci h) (k := 1) (n := nfl ci) rfl rfl (fun C r1 r2 H locs ls hP hSt hl kk2 => ?_) (kk _ _) ho
  have EW := C.2.2.2.2.1.1
  have hK := C.2.2.2.2.1.2.1
  have hKn := hK.1 ci _ f1
  refine W.newcK C.1 C.2.1 C.2.2.2.1 (EW.use l1 rfl) (EW.use l2 rfl) (EW.use l3 rfl) rfl hd r1 r2 hKn.2.1 hP.2 fun H1 kC hkC e1 z1 o1 => ?_
  refine kk2 H1 (Rl_push hP (x := .inr (ci, (List.range (nfl ci)).map (fvl Z (nO ci h) (hN h) ci))) (ent_obj (by show (upA h.2.2.1 h.1 (ci, 0) h.1).1 = ci; rw [upA_s]) f2) ⟨_, f1, ?_⟩ z1 o1) (S_push hP hSt z1 o1)
  refine (u_born ty (fun w hw => EW.use (args := #[]) (f5 w hw) (u_good w hw)) (fun _ h => h) hKn hkC e1 f6).to fun j hj => ?_
  rw [f7 j hj]
  unfold vp_V
  rw [List.getD_eq_getElem?_getD, fs_get hj]
  exact fvl_new.symm
theorem S_newarr {atype : ArrayType} (t t0 : Nat) (ty : FieldType) (hty : newarray.typeOf atype = ty) (htt : (t = 7 ∧ ty = .int) ∨ (t = 8 ∧ ty = .long)) (hw : Cond.arrayClass ty ∈ lw_tbl) (hd : decode cc pc = .ok (.newarray atype, 2)) (hp : pc + 2 = pc') {n : Int32} {f : Nat → HP → Option (ρ × HP)}
    (kk : ∀ a h2, Sim Z l cc own nL fr lc rt nm args QQ h0 h1 v0 pc' lo (.ref (zb Z + a) :: st) h2 (f a h2)) : Sim Z l cc own nL fr lc rt nm args QQ h0 h1 v0 pc lo (.int n :: st) h (ob (mkA t n h) f) := by
  subst hp
  subst hty
  intro ho
  unfold mkA at ho
  by_cases g : ¬ n < 0 ∧ n.toNatClampNeg ≤ 4096
  · rw [if_pos g] at ho
    replace ho : f (hN h) (nw h t n.toNatClampNeg n.toNatClampNeg) = some (v0, h1) := ho
    have hby : n.toNatClampNeg * componentBytes (newarray.typeOf atype) ≤ 536870912 := by
      rcases htt with ⟨-, q⟩ | ⟨-, q⟩ <;> rw [q] <;> simp only [componentBytes] <;> omega
    refine Sim.mk (h2 := nw h t n.toNatClampNeg n.toNatClampNeg) (k := 1) (n := n.toNatClampNeg) rfl rfl (fun C r1 r2 H locs ls hP hSt hl kk2 => ?_) (kk _ _) ho
    have EW := C.2.2.2.2.1.1
    have hK := C.2.2.2.2.1.2.1
    refine va_newaK C.1 C.2.1 (EW.use hw rfl) rfl hd rfl g.1 rfl hby r1 r2 hP.2 fun H1 cA e1 z1 o1 hAr hNm => ?_
    have eS : hS (nw h t n.toNatClampNeg n.toNatClampNeg) (hN h) = (t, n.toNatClampNeg) := upA_s _ _ _
    have eI : hI (nw h t n.toNatClampNeg n.toNatClampNeg) (hN h) = fun _ => 0 := upA_s _ _ _
    have eJ : hJ (nw h t n.toNatClampNeg n.toNatClampNeg) (hN h) = fun _ => 0 := upA_s _ _ _
    rcases htt with ⟨rfl, q⟩ | ⟨rfl, q⟩
    · have ec : cA = zcI Z := by
        have h9 := (hK.2 0 _ rfl).2
        rw [q] at hNm
        exact Option.some.inj (hNm.symm.trans h9)
      subst ec
      rw [q] at e1
      exact kk2 H1 (Rl_push hP (ent_int (by rw [eS])) (by rw [eS, eI]; exact e1) z1 o1) (S_push hP hSt z1 o1)
    · have ec : cA = zcJ Z := by
        have h9 := (hK.2 1 _ rfl).2
        rw [q] at hNm
        exact Option.some.inj (hNm.symm.trans h9)
      subst ec
      rw [q] at e1
      exact kk2 H1 (Rl_push hP (ent_long (by rw [eS])) (by rw [eS, eJ]; exact e1) z1 o1) (S_push hP hSt z1 o1)
  · rw [if_neg g] at ho
    cases ho
theorem S_anew {idx : Nat} (hw : Cond.classLink own idx "LostBeforeSung$Shelf" ∈ lw_tbl) (hd : decode cc pc = .ok (.anewarray idx, 3)) (hp : pc + 3 = pc') {n : Int32} {f : Nat → HP → Option (ρ × HP)}
    (kk : ∀ a h2, Sim Z l cc own nL fr lc rt nm args QQ h0 h1 v0 pc' lo (.ref (zb Z + a) :: st) h2 (f a h2)) : Sim Z l cc own nL fr lc rt nm args QQ h0 h1 v0 pc lo (.int n :: st) h (ob (mkA 9 n h) f) := by
  subst hp
  intro ho
  unfold mkA at ho
  by_cases g : ¬ n < 0 ∧ n.toNatClampNeg ≤ 4096
  · rw [if_pos g] at ho
    replace ho : f (hN h) (nw h 9 n.toNatClampNeg n.toNatClampNeg) = some (v0, h1) := ho
    refine Sim.mk (h2 := nw h 9 n.toNatClampNeg n.toNatClampNeg) (k := 1) (n := n.toNatClampNeg) rfl rfl (fun C r1 r2 H locs ls hP hSt hl kk2 => ?_) (kk _ _) ho
    have EW := C.2.2.2.2.1.1
    have hK := C.2.2.2.2.1.2.1
    refine W.anew C.1 C.2.1 C.2.2.2.1 (EW.use hw rfl) (va_AO.use C.2.2.2.2.1.2.2.1) rfl hd rfl g.1 (by omega) r1 r2 fun cA kA comp f1 f2 f3 f4 => ?_
    have eS : hS (nw h 9 n.toNatClampNeg n.toNatClampNeg) (hN h) = (9, n.toNatClampNeg) := upA_s _ _ _
    have eR : hR (nw h 9 n.toNatClampNeg n.toNatClampNeg) (hN h) = fun _ => none := upA_s _ _ _
    have ec : cA = zcS Z := by
      obtain ⟨k9, c9, -, -, -, h9⟩ := (hK.2 2 _ rfl).2
      exact Option.some.inj (f1.symm.trans h9)
    subst ec
    generalize hH1 : H.push ({ cls := zcS Z, slots := Array.replicate n.toNatClampNeg .null, vm := .none } : Cell) = H1
    have z1 : H1.size = zb Z + hN h + 1 := by rw [← hH1, Array.size_push, hP.2]
    have e1 : H1[zb Z + hN h]? = some (arrV (zcS Z) n.toNatClampNeg (fun _ => .null)) := by rw [← hH1, ← hP.2, Array.getElem?_push_size, ← arrV_new]
    have o1 : ∀ q : Nat, q < zb Z + hN h → H1[q]? = H[q]? := fun q hq => by rw [← hH1, Array.getElem?_push, if_neg (Nat.ne_of_lt (by rw [hP.2]; exact hq))]
    rw [hP.2]
    refine kk2 H1 (Rl_push hP (ent_shf (by rw [eS])) ?_ z1 o1) (S_push hP hSt z1 o1)
    rw [eS, eR]
    show H1[zb Z + hN h]? = some (vp_cell _ _)
    rw [vp_cell_q]
    exact e1
  · rw [if_neg g] at ho
    cases ho
/-- System.arraycopy of ints, of longs -/
def CPW (own : String) (idx : Nat) : Prop := Cond.methodLink own idx arraycopyName ∈ lw_tbl ∧ Cond.native arraycopyName ∈ lw_tbl ∧ Cond.static arraycopyName ∈ lw_tbl ∧ Cond.initialized "java/lang/System" ∈ lw_tbl
theorem S_copyI {idx : Nat} (cw : CPW own idx) (hd : decode cc pc = .ok (.invokestatic idx, 3)) (hR : 1 ≤ fr ∧ (st.map fun v => v.category).sum + (nativeFrameWords "java/lang/System" "arraycopy" 5 + 11) ≤ lc) (hp : pc + 3 = pc') {a0 a : Nat} {sp dp n : Int32} {f : HP → Option (ρ × HP)}
    (kk : ∀ h2, Sim Z l cc own nL fr lc rt nm args QQ h0 h1 v0 pc' lo st h2 (f h2)) : Sim Z l cc own nL fr lc rt nm args QQ h0 h1 v0 pc lo (.int n :: .int dp :: .ref (zb Z + a) :: .int sp :: .ref (zb Z + a0) :: st) h ((cpI a0 sp a dp n h).bind f) := by
  subst hp
  intro ho
  unfold cpI at ho
  by_cases g : oC 7 h a0 = true ∧ oC 7 h a = true ∧ cpOK (hS h a0).2 (hS h a).2 sp dp n = true
  · rw [if_pos g] at ho
    obtain ⟨ga, gt⟩ := oC_spec g.1
    obtain ⟨gb, gu⟩ := oC_spec g.2.1
    obtain ⟨g1, g2, g3, g4, g5⟩ := of_decide_eq_true g.2.2
    have he := wsO_get Z h ga
    rw [ent_int gt] at he
    have he2 := wsO_get Z h gb
    rw [ent_int gu] at he2
    have e1 : ent Z (wI h a (va_cpy (hI h a0) (hI h a) sp.toNatClampNeg dp.toNatClampNeg n.toNatClampNeg)) a = .inl (zcI Z, (hS h a).2, .inl (va_cpy (hI h a0) (hI h a) sp.toNatClampNeg dp.toNatClampNeg n.toNatClampNeg)) := by
      rw [ent_int (h := wI h a (va_cpy (hI h a0) (hI h a) sp.toNatClampNeg dp.toNatClampNeg n.toNatClampNeg)) gu]
      have e : hI (wI h a (va_cpy (hI h a0) (hI h a) sp.toNatClampNeg dp.toNatClampNeg n.toNatClampNeg)) a = va_cpy (hI h a0) (hI h a) sp.toNatClampNeg dp.toNatClampNeg n.toNatClampNeg := upA_s _ _ _
      rw [e]
      rfl
    exact Sim.wr (h2 := wI h a (va_cpy (hI h a0) (hI h a) sp.toNatClampNeg dp.toNatClampNeg n.toNatClampNeg)) rfl rfl (fun C H locs ls hP hS hl kk2 => by
      have EW := C.2.2.2.2.1.1
      have hR9 := C.2.2.2.2.2.2.1
      exact va_copyi C.1 C.2.1 (C.2.2.1.trans hl.1.symm) C.2.2.2.1 (EW.use cw.1 rfl) (EW.use cw.2.1 rfl) (EW.use cw.2.2.1 rfl) (EW.use cw.2.2.2 rfl) C.2.2.2.2.1.2.1 hP.1 (wsO_D Z h) hS a0 a 0 0 he he2 rfl rfl rfl g1 g2 g3 g4 g5 (fun _ _ => rfl) (by rw [← hR9.1]; exact hR.1) (by rw [← hR9.2.1]; exact hR.2) hd (fun H1 locs1 q1 _ q2 => kk2 H1 locs1 ls (by rw [← wsO_set (h := h) (h' := wI h a (va_cpy (hI h a0) (hI h a) sp.toNatClampNeg dp.toNatClampNeg n.toNatClampNeg)) rfl e1 (fun j hj => ent_wI_n hj)]; exact q1) q2 hl)) (kk _) ho
  · rw [if_neg g] at ho
    cases ho
theorem S_copyJ {idx : Nat} (cw : CPW own idx) (hd : decode cc pc = .ok (.invokestatic idx, 3)) (hR : 1 ≤ fr ∧ (st.map fun v => v.category).sum + (nativeFrameWords "java/lang/System" "arraycopy" 5 + 11) ≤ lc) (hp : pc + 3 = pc') {a0 a : Nat} {sp dp n : Int32} {f : HP → Option (ρ × HP)}
    (kk : ∀ h2, Sim Z l cc own nL fr lc rt nm args QQ h0 h1 v0 pc' lo st h2 (f h2)) : Sim Z l cc own nL fr lc rt nm args QQ h0 h1 v0 pc lo (.int n :: .int dp :: .ref (zb Z + a) :: .int sp :: .ref (zb Z + a0) :: st) h ((cpJ a0 sp a dp n h).bind f) := by
  subst hp
  intro ho
  unfold cpJ at ho
  by_cases g : oC 8 h a0 = true ∧ oC 8 h a = true ∧ cpOK (hS h a0).2 (hS h a).2 sp dp n = true
  · rw [if_pos g] at ho
    obtain ⟨ga, gt⟩ := oC_spec g.1
    obtain ⟨gb, gu⟩ := oC_spec g.2.1
    obtain ⟨g1, g2, g3, g4, g5⟩ := of_decide_eq_true g.2.2
    have he := wsO_get Z h ga
    rw [ent_long gt] at he
    have he2 := wsO_get Z h gb
    rw [ent_long gu] at he2
    have e1 : ent Z (wJ h a (va_cpy (hJ h a0) (hJ h a) sp.toNatClampNeg dp.toNatClampNeg n.toNatClampNeg)) a = .inl (zcJ Z, (hS h a).2, .inr (.inl (va_cpy (hJ h a0) (hJ h a) sp.toNatClampNeg dp.toNatClampNeg n.toNatClampNeg))) := by
      rw [ent_long (h := wJ h a (va_cpy (hJ h a0) (hJ h a) sp.toNatClampNeg dp.toNatClampNeg n.toNatClampNeg)) gu]
      have e : hJ (wJ h a (va_cpy (hJ h a0) (hJ h a) sp.toNatClampNeg dp.toNatClampNeg n.toNatClampNeg)) a = va_cpy (hJ h a0) (hJ h a) sp.toNatClampNeg dp.toNatClampNeg n.toNatClampNeg := upA_s _ _ _
      rw [e]
      rfl
    exact Sim.wr (h2 := wJ h a (va_cpy (hJ h a0) (hJ h a) sp.toNatClampNeg dp.toNatClampNeg n.toNatClampNeg)) rfl rfl (fun C H locs ls hP hS hl kk2 => by
      have EW := C.2.2.2.2.1.1
      have hR9 := C.2.2.2.2.2.2.1
      exact va_copyl C.1 C.2.1 (C.2.2.1.trans hl.1.symm) C.2.2.2.1 (EW.use cw.1 rfl) (EW.use cw.2.1 rfl) (EW.use cw.2.2.1 rfl) (EW.use cw.2.2.2 rfl) C.2.2.2.2.1.2.1 hP.1 (wsO_D Z h) hS a0 a 1 1 he he2 rfl rfl rfl g1 g2 g3 g4 g5 (fun _ _ => rfl) (by rw [← hR9.1]; exact hR.1) (by rw [← hR9.2.1]; exact hR.2) hd (fun H1 locs1 q1 _ q2 => kk2 H1 locs1 ls (by rw [← wsO_set (h := h) (h' := wJ h a (va_cpy (hJ h a0) (hJ h a) sp.toNatClampNeg dp.toNatClampNeg n.toNatClampNeg)) rfl e1 (fun j hj => ent_wJ_n hj)]; exact q1) q2 hl)) (kk _) ho
  · rw [if_neg g] at ho
    cases ho
/-! calls -/
theorem Pcg_blind {av : List Value} : FrameBlind (Pcg Z av h) := fun a U g mk q => ⟨q.1, EF.moved (s := U) (U := U.calling g mk a) (State.WarmedH.refl U) q.2.1 (Nat.le_refl _) (fun _ _ _ => rfl), q.2.2⟩
theorem Pcg_at (C : Cx p R s m meth c Z cc own nL fr lc rt nm h0 h1) {av : List Value} {H : Heap} {locs : List Loc} (hP : Rl Z h H) (hS : va_S (zA Z) s.heap H locs) : ∀ U : State, U.heap = H → s.WarmedH U.vm → Pcg Z av h av.toArray U := fun U hU hW =>
  ⟨rfl, EF.moved hW C.2.2.2.2.1 (by rw [hU]; exact hS.1) (fun q h1 h2 => by rw [hU]; exact hS.2.1 q h1 h2), by rw [hU]; exact hP⟩
theorem Sim.call {σ : Type} {oc : Option (σ × HP)} {rv : σ → Option Value} {a : Array Value} {f : σ → HP → Option (ρ × HP)}
    (hmo : ∀ v h2, oc = some (v, h2) → Mono h h2)
    (hrun : ∀ v h2, oc = some (v, h2) → ∀ {p : Program} {e : Env} {R : Room} {s : State} {m : MethodId} {below : List Frame} {meth : Method} {c : Code}, Cx p R s m meth c Z cc own nL fr lc rt nm h0 h1 →  hN h - hN h0 + (hN h2 - hN h) ≤ R.cells → hL h - hL h0 + (hL h2 - hL h) ≤ R.slots → ∀ (H : Heap) (locs : List Loc) (ls : Array Slot), Rl Z h H → va_S (zA Z) s.heap H locs → lv_has ls nL lo →
      va_Run p l e R s m args below meth c H locs (hN h - hN h0) (hL h - hL h0) (hN h2 - hN h) (hL h2 - hL h) (F0 m pc ls st) rest (Qg Z (rv v) h2 a) (zA Z))
    (kk : ∀ v h2, Sim Z l cc own nL fr lc rt nm args QQ h0 h1 v0 (pc + 3) lo ((rv v).toList ++ rest) h2 (f v h2)) : Sim Z l cc own nL fr lc rt nm args QQ h0 h1 v0 pc lo st h (ob oc f) := by
  intro ho
  obtain ⟨v, h2, e1, e2⟩ := ob_some ho
  have m0 := hmo v h2 e1
  obtain ⟨m1, w1⟩ := kk v h2 e2
  refine ⟨m0.tr m1, fun {p e R s m below meth c} C a1 H locs ls hP hS hl => ?_⟩
  have hR9 := C.2.2.2.2.2.2.1
  have q8 := hR9.2.2.1
  have q9 := hR9.2.2.2
  have b1 := m0.1
  have b2 := m0.2
  have b3 := m1.1
  have b4 := m1.2
  have b5 := a1.1
  have b6 := a1.2
  intro T hT X
  obtain ⟨v', st₀, t, T', L, q0, X', hL', q1, q2, ⟨q3, q4, q5⟩, stp⟩ := hrun v h2 e1 C (by omega) (by omega) H locs ls hP hS hl T hT X
  cases q3
  rw [show hN h - hN h0 + (hN h2 - hN h) = hN h2 - hN h0 by omega, show hL h - hL h0 + (hL h2 - hL h) = hL h2 - hL h0 by omega] at X'
  have hS' : va_S (zA Z) s.heap T'.heap (locs ++ L) := by
    have q5' : va_F (zA Z) st₀ t := q5
    obtain ⟨z1, z2⟩ := q5'
    rw [q0] at z1 z2
    refine ⟨Nat.le_trans hS.1 (by rw [q1]; exact z1), fun q h1 h2 => ?_, fun q hq => ?_⟩
    · rw [q1, z2 q (Nat.lt_of_lt_of_le h1 hS.1) h2]
      exact hS.2.1 q h1 h2
    · rcases List.mem_append.mp hq with h | h
      · exact hS.2.2 q h
      · exact hL' q h
  obtain ⟨t2, a2, b9⟩ := w1 C (a1.tr m0) T'.heap (locs ++ L) ls (by rw [q1]; exact q4) hS' hl T' rfl X'
  exact ⟨t2, stp t2 a2, b9⟩
theorem word1 {y : MethodName} {bytes : ByteArray} {maxL : Nat} {ret : Option FieldType} (h9 : (Cond.code y bytes maxL ret).before args s = true) : ∀ w ∈ [Cond.code y bytes maxL ret], ∀ (a' : Array Value) (U : State), s.WarmedH U.vm → w.before a' U = true := by
  intro w hw a' U hW
  rw [List.mem_singleton] at hw
  subst hw
  exact word_at hW (Or.inl rfl) h9
theorem ncount {y : MethodName} {n : Nat} (h9 : (parseMethodDescriptor y.desc).map (fun d => d.parameters.length) = some n) : ∀ sig, parseMethodDescriptor y.desc = some sig → n = sig.parameters.length := by
  intro sig hs
  rw [hs] at h9
  exact (Option.some.inj h9).symm
theorem S_invi {idx n ci fr' lc' : Nat} {y : MethodName} {bytes : ByteArray} {maxL : Nat} {ret : Option FieldType} (ml : ML own idx y bytes maxL ret n) {C' : String} (mi : MI C' y) (hci : ∃ q : vw_C, vwCl[ci]? = some q ∧ q.1 = C') (h7 : ci < 7) (hd : decode cc pc = .ok (.invokevirtual idx, 3)) {a : Nat} (As : List Value) (hn : As.length = n) {oc : Option (Int32 × HP)}
    (cM : ∀ v h2, oc = some (v, h2) → MetP Z l y bytes maxL ret fr' lc' (.ref (zb Z + a) :: As) h ((fun v => some (.int v) : Int32 → Option Value) v) h2) (hR : fr' + 1 ≤ fr ∧ 8 + (maxL + 11) + lc' ≤ lc) (hcat : (rest.map fun v => v.category).sum ≤ 8) (hst : st = As.reverse ++ .ref (zb Z + a) :: rest) (hp : pc + 3 = pc') {f : Int32 → HP → Option (ρ × HP)}
    (kk : ∀ v h2, Sim Z l cc own nL fr lc rt nm args QQ h0 h1 v0 pc' lo (.int v :: rest) h2 (f v h2)) : Sim Z l cc own nL fr lc rt nm args QQ h0 h1 v0 pc lo st h (ob (inv ci a h oc) f) := by
  subst hp
  subst hst
  refine Sim.call (rv := (fun v => some (.int v) : Int32 → Option Value)) (a := (Value.ref (zb Z + a) :: As).toArray) (rest := rest) (fun v h2 ho => ?_) (fun v h2 ho {p e R s m below meth c} C r1 r2 H locs ls hP hS hl => ?_) (fun v h2 => kk v h2)
  · unfold inv at ho
    by_cases g : oC ci h a = true
    · rw [if_pos g] at ho
      exact (cM v h2 ho).1
    · rw [if_neg g] at ho
      cases ho
  unfold inv at ho
  by_cases g : oC ci h a = true
  · rw [if_pos g] at ho
    obtain ⟨mo, hM⟩ := cM v h2 ho
    have EW := C.2.2.2.2.1.1
    have hR9 := C.2.2.2.2.2.2.1
    obtain ⟨m1, m2, m3, m4, m5⟩ := ml
    obtain ⟨ga, gt⟩ := oC_spec g
    have he := wsO_get Z h ga
    rw [ent_obj gt h7] at he
    obtain ⟨qc, hq1, rfl⟩ := hci
    have hrecv := va_recv C.2.2.2.2.1.2.1 hP.1 hq1 he
    have hcode := EW.use (args := args) m1 rfl
    have hpre : PreV s H qc.1 (zb Z + a) (Pcg Z (.ref (zb Z + a) :: As) h) As := ⟨Pcg_blind, hrecv, Pcg_at C hP hS⟩
    have hrm : fr' + 1 ≤ R.frames ∧ 8 + (maxL + 11) + lc' ≤ R.locals := by rw [← hR9.1, ← hR9.2.1]; exact hR
    rcases m5 with m5 | ⟨host, m5⟩
    · exact va_runV (Ts := []) ⟨C.1, C.2.1, C.2.2.1, C.2.2.2.1, fun w hw => by cases hw⟩ hM ⟨⟨rfl, rfl, hrm.1, hrm.2, word1 hcode, List.mem_singleton.mpr rfl, hcode, EW.use m2 rfl, m3, ncount m4, EW.use m5 rfl⟩, EW.use mi.1 rfl, EW.use mi.2 rfl⟩ hpre rfl hn hl.1 rfl (lv_room hcat) hd ⟨r1, r2⟩
    · exact va_runVN (Ts := []) ⟨C.1, C.2.1, C.2.2.1, C.2.2.2.1, fun w hw => by cases hw⟩ hM ⟨⟨⟨rfl, rfl, hrm.1, hrm.2, word1 hcode, List.mem_singleton.mpr rfl⟩, hcode, EW.use m2 rfl, m3, ncount m4, EW.nest m5 rfl⟩, EW.use mi.1 rfl, EW.use mi.2 rfl⟩ hpre rfl hn hl.1 rfl (lv_room hcat) hd ⟨r1, r2⟩
  · rw [if_neg g] at ho
    cases ho
theorem S_stai {idx n fr' lc' : Nat} {y : MethodName} {bytes : ByteArray} {maxL : Nat} {ret : Option FieldType} (ml : ML own idx y bytes maxL ret n) (mi : Cond.static y ∈ lw_tbl) (hd : decode cc pc = .ok (.invokestatic idx, 3)) (As : List Value) (hn : As.length = n) {oc : Option (Int32 × HP)}
    (cM : ∀ v h2, oc = some (v, h2) → MetP Z l y bytes maxL ret fr' lc' As h ((fun v => some (.int v) : Int32 → Option Value) v) h2) (hR : fr' + 1 ≤ fr ∧ 8 + (maxL + 11) + lc' ≤ lc) (hcat : (rest.map fun v => v.category).sum ≤ 8) (hst : st = As.reverse ++ rest) (hp : pc + 3 = pc') {f : Int32 → HP → Option (ρ × HP)}
    (kk : ∀ v h2, Sim Z l cc own nL fr lc rt nm args QQ h0 h1 v0 pc' lo (.int v :: rest) h2 (f v h2)) : Sim Z l cc own nL fr lc rt nm args QQ h0 h1 v0 pc lo st h (ob oc f) := by
  subst hp
  subst hst
  refine Sim.call (rv := (fun v => some (.int v) : Int32 → Option Value)) (a := As.toArray) (rest := rest) (fun v h2 ho => (cM v h2 ho).1) (fun v h2 ho {p e R s m below meth c} C r1 r2 H locs ls hP hS hl => ?_) (fun v h2 => kk v h2)
  obtain ⟨mo, hM⟩ := cM v h2 ho
  have EW := C.2.2.2.2.1.1
  have hR9 := C.2.2.2.2.2.2.1
  obtain ⟨m1, m2, m3, m4, m5⟩ := ml
  have hcode := EW.use (args := args) m1 rfl
  have hpre : PreS s H (Pcg Z As h) As := ⟨Pcg_blind, Pcg_at C hP hS⟩
  have hrm : fr' + 1 ≤ R.frames ∧ 8 + (maxL + 11) + lc' ≤ R.locals := by rw [← hR9.1, ← hR9.2.1]; exact hR
  rcases m5 with m5 | ⟨host, m5⟩
  · exact va_runS (Ts := []) ⟨C.1, C.2.1, C.2.2.1, C.2.2.2.1, fun w hw => by cases hw⟩ hM ⟨⟨rfl, rfl, hrm.1, hrm.2, word1 hcode, List.mem_singleton.mpr rfl, hcode, EW.use m2 rfl, m3, ncount m4, EW.use m5 rfl⟩, EW.use mi rfl⟩ hpre rfl hn hl.1 rfl (lv_room hcat) hd ⟨r1, r2⟩
  · exact va_runSN (Ts := []) ⟨C.1, C.2.1, C.2.2.1, C.2.2.2.1, fun w hw => by cases hw⟩ hM ⟨⟨⟨rfl, rfl, hrm.1, hrm.2, word1 hcode, List.mem_singleton.mpr rfl⟩, hcode, EW.use m2 rfl, m3, ncount m4, EW.nest m5 rfl⟩, EW.use mi rfl, trivial⟩ hpre rfl hn hl.1 rfl (lv_room hcat) hd ⟨r1, r2⟩
theorem S_invl {idx n ci fr' lc' : Nat} {y : MethodName} {bytes : ByteArray} {maxL : Nat} {ret : Option FieldType} (ml : ML own idx y bytes maxL ret n) {C' : String} (mi : MI C' y) (hci : ∃ q : vw_C, vwCl[ci]? = some q ∧ q.1 = C') (h7 : ci < 7) (hd : decode cc pc = .ok (.invokevirtual idx, 3)) {a : Nat} (As : List Value) (hn : As.length = n) {oc : Option (Int64 × HP)}
    (cM : ∀ v h2, oc = some (v, h2) → MetP Z l y bytes maxL ret fr' lc' (.ref (zb Z + a) :: As) h ((fun v => some (.long v) : Int64 → Option Value) v) h2) (hR : fr' + 1 ≤ fr ∧ 8 + (maxL + 11) + lc' ≤ lc) (hcat : (rest.map fun v => v.category).sum ≤ 8) (hst : st = As.reverse ++ .ref (zb Z + a) :: rest) (hp : pc + 3 = pc') {f : Int64 → HP → Option (ρ × HP)}
    (kk : ∀ v h2, Sim Z l cc own nL fr lc rt nm args QQ h0 h1 v0 pc' lo (.long v :: rest) h2 (f v h2)) : Sim Z l cc own nL fr lc rt nm args QQ h0 h1 v0 pc lo st h (ob (inv ci a h oc) f) := by
  subst hp
  subst hst
  refine Sim.call (rv := (fun v => some (.long v) : Int64 → Option Value)) (a := (Value.ref (zb Z + a) :: As).toArray) (rest := rest) (fun v h2 ho => ?_) (fun v h2 ho {p e R s m below meth c} C r1 r2 H locs ls hP hS hl => ?_) (fun v h2 => kk v h2)
  · unfold inv at ho
    by_cases g : oC ci h a = true
    · rw [if_pos g] at ho
      exact (cM v h2 ho).1
    · rw [if_neg g] at ho
      cases ho
  unfold inv at ho
  by_cases g : oC ci h a = true
  · rw [if_pos g] at ho
    obtain ⟨mo, hM⟩ := cM v h2 ho
    have EW := C.2.2.2.2.1.1
    have hR9 := C.2.2.2.2.2.2.1
    obtain ⟨m1, m2, m3, m4, m5⟩ := ml
    obtain ⟨ga, gt⟩ := oC_spec g
    have he := wsO_get Z h ga
    rw [ent_obj gt h7] at he
    obtain ⟨qc, hq1, rfl⟩ := hci
    have hrecv := va_recv C.2.2.2.2.1.2.1 hP.1 hq1 he
    have hcode := EW.use (args := args) m1 rfl
    have hpre : PreV s H qc.1 (zb Z + a) (Pcg Z (.ref (zb Z + a) :: As) h) As := ⟨Pcg_blind, hrecv, Pcg_at C hP hS⟩
    have hrm : fr' + 1 ≤ R.frames ∧ 8 + (maxL + 11) + lc' ≤ R.locals := by rw [← hR9.1, ← hR9.2.1]; exact hR
    rcases m5 with m5 | ⟨host, m5⟩
    · exact va_runV (Ts := []) ⟨C.1, C.2.1, C.2.2.1, C.2.2.2.1, fun w hw => by cases hw⟩ hM ⟨⟨rfl, rfl, hrm.1, hrm.2, word1 hcode, List.mem_singleton.mpr rfl, hcode, EW.use m2 rfl, m3, ncount m4, EW.use m5 rfl⟩, EW.use mi.1 rfl, EW.use mi.2 rfl⟩ hpre rfl hn hl.1 rfl (lv_room hcat) hd ⟨r1, r2⟩
    · exact va_runVN (Ts := []) ⟨C.1, C.2.1, C.2.2.1, C.2.2.2.1, fun w hw => by cases hw⟩ hM ⟨⟨⟨rfl, rfl, hrm.1, hrm.2, word1 hcode, List.mem_singleton.mpr rfl⟩, hcode, EW.use m2 rfl, m3, ncount m4, EW.nest m5 rfl⟩, EW.use mi.1 rfl, EW.use mi.2 rfl⟩ hpre rfl hn hl.1 rfl (lv_room hcat) hd ⟨r1, r2⟩
  · rw [if_neg g] at ho
    cases ho
theorem S_stal {idx n fr' lc' : Nat} {y : MethodName} {bytes : ByteArray} {maxL : Nat} {ret : Option FieldType} (ml : ML own idx y bytes maxL ret n) (mi : Cond.static y ∈ lw_tbl) (hd : decode cc pc = .ok (.invokestatic idx, 3)) (As : List Value) (hn : As.length = n) {oc : Option (Int64 × HP)}
    (cM : ∀ v h2, oc = some (v, h2) → MetP Z l y bytes maxL ret fr' lc' As h ((fun v => some (.long v) : Int64 → Option Value) v) h2) (hR : fr' + 1 ≤ fr ∧ 8 + (maxL + 11) + lc' ≤ lc) (hcat : (rest.map fun v => v.category).sum ≤ 8) (hst : st = As.reverse ++ rest) (hp : pc + 3 = pc') {f : Int64 → HP → Option (ρ × HP)}
    (kk : ∀ v h2, Sim Z l cc own nL fr lc rt nm args QQ h0 h1 v0 pc' lo (.long v :: rest) h2 (f v h2)) : Sim Z l cc own nL fr lc rt nm args QQ h0 h1 v0 pc lo st h (ob oc f) := by
  subst hp
  subst hst
  refine Sim.call (rv := (fun v => some (.long v) : Int64 → Option Value)) (a := As.toArray) (rest := rest) (fun v h2 ho => (cM v h2 ho).1) (fun v h2 ho {p e R s m below meth c} C r1 r2 H locs ls hP hS hl => ?_) (fun v h2 => kk v h2)
  obtain ⟨mo, hM⟩ := cM v h2 ho
  have EW := C.2.2.2.2.1.1
  have hR9 := C.2.2.2.2.2.2.1
  obtain ⟨m1, m2, m3, m4, m5⟩ := ml
  have hcode := EW.use (args := args) m1 rfl
  have hpre : PreS s H (Pcg Z As h) As := ⟨Pcg_blind, Pcg_at C hP hS⟩
  have hrm : fr' + 1 ≤ R.frames ∧ 8 + (maxL + 11) + lc' ≤ R.locals := by rw [← hR9.1, ← hR9.2.1]; exact hR
  rcases m5 with m5 | ⟨host, m5⟩
  · exact va_runS (Ts := []) ⟨C.1, C.2.1, C.2.2.1, C.2.2.2.1, fun w hw => by cases hw⟩ hM ⟨⟨rfl, rfl, hrm.1, hrm.2, word1 hcode, List.mem_singleton.mpr rfl, hcode, EW.use m2 rfl, m3, ncount m4, EW.use m5 rfl⟩, EW.use mi rfl⟩ hpre rfl hn hl.1 rfl (lv_room hcat) hd ⟨r1, r2⟩
  · exact va_runSN (Ts := []) ⟨C.1, C.2.1, C.2.2.1, C.2.2.2.1, fun w hw => by cases hw⟩ hM ⟨⟨⟨rfl, rfl, hrm.1, hrm.2, word1 hcode, List.mem_singleton.mpr rfl⟩, hcode, EW.use m2 rfl, m3, ncount m4, EW.nest m5 rfl⟩, EW.use mi rfl, trivial⟩ hpre rfl hn hl.1 rfl (lv_room hcat) hd ⟨r1, r2⟩
theorem S_invv {idx n ci fr' lc' : Nat} {y : MethodName} {bytes : ByteArray} {maxL : Nat} {ret : Option FieldType} (ml : ML own idx y bytes maxL ret n) {C' : String} (mi : MI C' y) (hci : ∃ q : vw_C, vwCl[ci]? = some q ∧ q.1 = C') (h7 : ci < 7) (hd : decode cc pc = .ok (.invokevirtual idx, 3)) {a : Nat} (As : List Value) (hn : As.length = n) {oc : Option (Unit × HP)}
    (cM : ∀ v h2, oc = some (v, h2) → MetP Z l y bytes maxL ret fr' lc' (.ref (zb Z + a) :: As) h ((fun _ => none : Unit → Option Value) v) h2) (hR : fr' + 1 ≤ fr ∧ 8 + (maxL + 11) + lc' ≤ lc) (hcat : (rest.map fun v => v.category).sum ≤ 8) (hst : st = As.reverse ++ .ref (zb Z + a) :: rest) (hp : pc + 3 = pc') {f : Unit → HP → Option (ρ × HP)}
    (kk : ∀ v h2, Sim Z l cc own nL fr lc rt nm args QQ h0 h1 v0 pc' lo (rest) h2 (f v h2)) : Sim Z l cc own nL fr lc rt nm args QQ h0 h1 v0 pc lo st h (ob (inv ci a h oc) f) := by
  subst hp
  subst hst
  refine Sim.call (rv := (fun _ => none : Unit → Option Value)) (a := (Value.ref (zb Z + a) :: As).toArray) (rest := rest) (fun v h2 ho => ?_) (fun v h2 ho {p e R s m below meth c} C r1 r2 H locs ls hP hS hl => ?_) (fun v h2 => kk v h2)
  · unfold inv at ho
    by_cases g : oC ci h a = true
    · rw [if_pos g] at ho
      exact (cM v h2 ho).1
    · rw [if_neg g] at ho
      cases ho
  unfold inv at ho
  by_cases g : oC ci h a = true
  · rw [if_pos g] at ho
    obtain ⟨mo, hM⟩ := cM v h2 ho
    have EW := C.2.2.2.2.1.1
    have hR9 := C.2.2.2.2.2.2.1
    obtain ⟨m1, m2, m3, m4, m5⟩ := ml
    obtain ⟨ga, gt⟩ := oC_spec g
    have he := wsO_get Z h ga
    rw [ent_obj gt h7] at he
    obtain ⟨qc, hq1, rfl⟩ := hci
    have hrecv := va_recv C.2.2.2.2.1.2.1 hP.1 hq1 he
    have hcode := EW.use (args := args) m1 rfl
    have hpre : PreV s H qc.1 (zb Z + a) (Pcg Z (.ref (zb Z + a) :: As) h) As := ⟨Pcg_blind, hrecv, Pcg_at C hP hS⟩
    have hrm : fr' + 1 ≤ R.frames ∧ 8 + (maxL + 11) + lc' ≤ R.locals := by rw [← hR9.1, ← hR9.2.1]; exact hR
    rcases m5 with m5 | ⟨host, m5⟩
    · exact va_runV (Ts := []) ⟨C.1, C.2.1, C.2.2.1, C.2.2.2.1, fun w hw => by cases hw⟩ hM ⟨⟨rfl, rfl, hrm.1, hrm.2, word1 hcode, List.mem_singleton.mpr rfl, hcode, EW.use m2 rfl, m3, ncount m4, EW.use m5 rfl⟩, EW.use mi.1 rfl, EW.use mi.2 rfl⟩ hpre rfl hn hl.1 rfl (lv_room hcat) hd ⟨r1, r2⟩
    · exact va_runVN (Ts := []) ⟨C.1, C.2.1, C.2.2.1, C.2.2.2.1, fun w hw => by cases hw⟩ hM ⟨⟨⟨rfl, rfl, hrm.1, hrm.2, word1 hcode, List.mem_singleton.mpr rfl⟩, hcode, EW.use m2 rfl, m3, ncount m4, EW.nest m5 rfl⟩, EW.use mi.1 rfl, EW.use mi.2 rfl⟩ hpre rfl hn hl.1 rfl (lv_room hcat) hd ⟨r1, r2⟩
  · rw [if_neg g] at ho
    cases ho
theorem S_stav {idx n fr' lc' : Nat} {y : MethodName} {bytes : ByteArray} {maxL : Nat} {ret : Option FieldType} (ml : ML own idx y bytes maxL ret n) (mi : Cond.static y ∈ lw_tbl) (hd : decode cc pc = .ok (.invokestatic idx, 3)) (As : List Value) (hn : As.length = n) {oc : Option (Unit × HP)}
    (cM : ∀ v h2, oc = some (v, h2) → MetP Z l y bytes maxL ret fr' lc' As h ((fun _ => none : Unit → Option Value) v) h2) (hR : fr' + 1 ≤ fr ∧ 8 + (maxL + 11) + lc' ≤ lc) (hcat : (rest.map fun v => v.category).sum ≤ 8) (hst : st = As.reverse ++ rest) (hp : pc + 3 = pc') {f : Unit → HP → Option (ρ × HP)}
    (kk : ∀ v h2, Sim Z l cc own nL fr lc rt nm args QQ h0 h1 v0 pc' lo (rest) h2 (f v h2)) : Sim Z l cc own nL fr lc rt nm args QQ h0 h1 v0 pc lo st h (ob oc f) := by
  subst hp
  subst hst
  refine Sim.call (rv := (fun _ => none : Unit → Option Value)) (a := As.toArray) (rest := rest) (fun v h2 ho => (cM v h2 ho).1) (fun v h2 ho {p e R s m below meth c} C r1 r2 H locs ls hP hS hl => ?_) (fun v h2 => kk v h2)
  obtain ⟨mo, hM⟩ := cM v h2 ho
  have EW := C.2.2.2.2.1.1
  have hR9 := C.2.2.2.2.2.2.1
  obtain ⟨m1, m2, m3, m4, m5⟩ := ml
  have hcode := EW.use (args := args) m1 rfl
  have hpre : PreS s H (Pcg Z As h) As := ⟨Pcg_blind, Pcg_at C hP hS⟩
  have hrm : fr' + 1 ≤ R.frames ∧ 8 + (maxL + 11) + lc' ≤ R.locals := by rw [← hR9.1, ← hR9.2.1]; exact hR
  rcases m5 with m5 | ⟨host, m5⟩
  · exact va_runS (Ts := []) ⟨C.1, C.2.1, C.2.2.1, C.2.2.2.1, fun w hw => by cases hw⟩ hM ⟨⟨rfl, rfl, hrm.1, hrm.2, word1 hcode, List.mem_singleton.mpr rfl, hcode, EW.use m2 rfl, m3, ncount m4, EW.use m5 rfl⟩, EW.use mi rfl⟩ hpre rfl hn hl.1 rfl (lv_room hcat) hd ⟨r1, r2⟩
  · exact va_runSN (Ts := []) ⟨C.1, C.2.1, C.2.2.1, C.2.2.2.1, fun w hw => by cases hw⟩ hM ⟨⟨⟨rfl, rfl, hrm.1, hrm.2, word1 hcode, List.mem_singleton.mpr rfl⟩, hcode, EW.use m2 rfl, m3, ncount m4, EW.nest m5 rfl⟩, EW.use mi rfl, trivial⟩ hpre rfl hn hl.1 rfl (lv_room hcat) hd ⟨r1, r2⟩
theorem S_invr {idx n ci fr' lc' : Nat} {y : MethodName} {bytes : ByteArray} {maxL : Nat} {ret : Option FieldType} (ml : ML own idx y bytes maxL ret n) {C' : String} (mi : MI C' y) (hci : ∃ q : vw_C, vwCl[ci]? = some q ∧ q.1 = C') (h7 : ci < 7) (hd : decode cc pc = .ok (.invokevirtual idx, 3)) {a : Nat} (As : List Value) (hn : As.length = n) {oc : Option (Nat × HP)}
    (cM : ∀ v h2, oc = some (v, h2) → MetP Z l y bytes maxL ret fr' lc' (.ref (zb Z + a) :: As) h ((fun v => some (.ref (zb Z + v)) : Nat → Option Value) v) h2) (hR : fr' + 1 ≤ fr ∧ 8 + (maxL + 11) + lc' ≤ lc) (hcat : (rest.map fun v => v.category).sum ≤ 8) (hst : st = As.reverse ++ .ref (zb Z + a) :: rest) (hp : pc + 3 = pc') {f : Nat → HP → Option (ρ × HP)}
    (kk : ∀ v h2, Sim Z l cc own nL fr lc rt nm args QQ h0 h1 v0 pc' lo (.ref (zb Z + v) :: rest) h2 (f v h2)) : Sim Z l cc own nL fr lc rt nm args QQ h0 h1 v0 pc lo st h (ob (inv ci a h oc) f) := by
  subst hp
  subst hst
  refine Sim.call (rv := (fun v => some (.ref (zb Z + v)) : Nat → Option Value)) (a := (Value.ref (zb Z + a) :: As).toArray) (rest := rest) (fun v h2 ho => ?_) (fun v h2 ho {p e R s m below meth c} C r1 r2 H locs ls hP hS hl => ?_) (fun v h2 => kk v h2)
  · unfold inv at ho
    by_cases g : oC ci h a = true
    · rw [if_pos g] at ho
      exact (cM v h2 ho).1
    · rw [if_neg g] at ho
      cases ho
  unfold inv at ho
  by_cases g : oC ci h a = true
  · rw [if_pos g] at ho
    obtain ⟨mo, hM⟩ := cM v h2 ho
    have EW := C.2.2.2.2.1.1
    have hR9 := C.2.2.2.2.2.2.1
    obtain ⟨m1, m2, m3, m4, m5⟩ := ml
    obtain ⟨ga, gt⟩ := oC_spec g
    have he := wsO_get Z h ga
    rw [ent_obj gt h7] at he
    obtain ⟨qc, hq1, rfl⟩ := hci
    have hrecv := va_recv C.2.2.2.2.1.2.1 hP.1 hq1 he
    have hcode := EW.use (args := args) m1 rfl
    have hpre : PreV s H qc.1 (zb Z + a) (Pcg Z (.ref (zb Z + a) :: As) h) As := ⟨Pcg_blind, hrecv, Pcg_at C hP hS⟩
    have hrm : fr' + 1 ≤ R.frames ∧ 8 + (maxL + 11) + lc' ≤ R.locals := by rw [← hR9.1, ← hR9.2.1]; exact hR
    rcases m5 with m5 | ⟨host, m5⟩
    · exact va_runV (Ts := []) ⟨C.1, C.2.1, C.2.2.1, C.2.2.2.1, fun w hw => by cases hw⟩ hM ⟨⟨rfl, rfl, hrm.1, hrm.2, word1 hcode, List.mem_singleton.mpr rfl, hcode, EW.use m2 rfl, m3, ncount m4, EW.use m5 rfl⟩, EW.use mi.1 rfl, EW.use mi.2 rfl⟩ hpre rfl hn hl.1 rfl (lv_room hcat) hd ⟨r1, r2⟩
    · exact va_runVN (Ts := []) ⟨C.1, C.2.1, C.2.2.1, C.2.2.2.1, fun w hw => by cases hw⟩ hM ⟨⟨⟨rfl, rfl, hrm.1, hrm.2, word1 hcode, List.mem_singleton.mpr rfl⟩, hcode, EW.use m2 rfl, m3, ncount m4, EW.nest m5 rfl⟩, EW.use mi.1 rfl, EW.use mi.2 rfl⟩ hpre rfl hn hl.1 rfl (lv_room hcat) hd ⟨r1, r2⟩
  · rw [if_neg g] at ho
    cases ho
theorem S_star {idx n fr' lc' : Nat} {y : MethodName} {bytes : ByteArray} {maxL : Nat} {ret : Option FieldType} (ml : ML own idx y bytes maxL ret n) (mi : Cond.static y ∈ lw_tbl) (hd : decode cc pc = .ok (.invokestatic idx, 3)) (As : List Value) (hn : As.length = n) {oc : Option (Nat × HP)}
    (cM : ∀ v h2, oc = some (v, h2) → MetP Z l y bytes maxL ret fr' lc' As h ((fun v => some (.ref (zb Z + v)) : Nat → Option Value) v) h2) (hR : fr' + 1 ≤ fr ∧ 8 + (maxL + 11) + lc' ≤ lc) (hcat : (rest.map fun v => v.category).sum ≤ 8) (hst : st = As.reverse ++ rest) (hp : pc + 3 = pc') {f : Nat → HP → Option (ρ × HP)}
    (kk : ∀ v h2, Sim Z l cc own nL fr lc rt nm args QQ h0 h1 v0 pc' lo (.ref (zb Z + v) :: rest) h2 (f v h2)) : Sim Z l cc own nL fr lc rt nm args QQ h0 h1 v0 pc lo st h (ob oc f) := by
  subst hp
  subst hst
  refine Sim.call (rv := (fun v => some (.ref (zb Z + v)) : Nat → Option Value)) (a := As.toArray) (rest := rest) (fun v h2 ho => (cM v h2 ho).1) (fun v h2 ho {p e R s m below meth c} C r1 r2 H locs ls hP hS hl => ?_) (fun v h2 => kk v h2)
  obtain ⟨mo, hM⟩ := cM v h2 ho
  have EW := C.2.2.2.2.1.1
  have hR9 := C.2.2.2.2.2.2.1
  obtain ⟨m1, m2, m3, m4, m5⟩ := ml
  have hcode := EW.use (args := args) m1 rfl
  have hpre : PreS s H (Pcg Z As h) As := ⟨Pcg_blind, Pcg_at C hP hS⟩
  have hrm : fr' + 1 ≤ R.frames ∧ 8 + (maxL + 11) + lc' ≤ R.locals := by rw [← hR9.1, ← hR9.2.1]; exact hR
  rcases m5 with m5 | ⟨host, m5⟩
  · exact va_runS (Ts := []) ⟨C.1, C.2.1, C.2.2.1, C.2.2.2.1, fun w hw => by cases hw⟩ hM ⟨⟨rfl, rfl, hrm.1, hrm.2, word1 hcode, List.mem_singleton.mpr rfl, hcode, EW.use m2 rfl, m3, ncount m4, EW.use m5 rfl⟩, EW.use mi rfl⟩ hpre rfl hn hl.1 rfl (lv_room hcat) hd ⟨r1, r2⟩
  · exact va_runSN (Ts := []) ⟨C.1, C.2.1, C.2.2.1, C.2.2.2.1, fun w hw => by cases hw⟩ hM ⟨⟨⟨rfl, rfl, hrm.1, hrm.2, word1 hcode, List.mem_singleton.mpr rfl⟩, hcode, EW.use m2 rfl, m3, ncount m4, EW.nest m5 rfl⟩, EW.use mi rfl, trivial⟩ hpre rfl hn hl.1 rfl (lv_room hcat) hd ⟨r1, r2⟩
theorem S_invs {idx n ci fr' lc' : Nat} {y : MethodName} {bytes : ByteArray} {maxL : Nat} {ret : Option FieldType} (ml : ML own idx y bytes maxL ret n) {C' : String} (mi : MI C' y) (hci : ∃ q : vw_C, vwCl[ci]? = some q ∧ q.1 = C') (h7 : ci < 7) (hd : decode cc pc = .ok (.invokevirtual idx, 3)) {a : Nat} (As : List Value) (hn : As.length = n) {oc : Option (Nat × HP)}
    (cM : ∀ v h2, oc = some (v, h2) → MetP Z l y bytes maxL ret fr' lc' (.ref (zb Z + a) :: As) h ((fun v => some (.ref (zK Z v)) : Nat → Option Value) v) h2) (hR : fr' + 1 ≤ fr ∧ 8 + (maxL + 11) + lc' ≤ lc) (hcat : (rest.map fun v => v.category).sum ≤ 8) (hst : st = As.reverse ++ .ref (zb Z + a) :: rest) (hp : pc + 3 = pc') {f : Nat → HP → Option (ρ × HP)}
    (kk : ∀ v h2, Sim Z l cc own nL fr lc rt nm args QQ h0 h1 v0 pc' lo (.ref (zK Z v) :: rest) h2 (f v h2)) : Sim Z l cc own nL fr lc rt nm args QQ h0 h1 v0 pc lo st h (ob (inv ci a h oc) f) := by
  subst hp
  subst hst
  refine Sim.call (rv := (fun v => some (.ref (zK Z v)) : Nat → Option Value)) (a := (Value.ref (zb Z + a) :: As).toArray) (rest := rest) (fun v h2 ho => ?_) (fun v h2 ho {p e R s m below meth c} C r1 r2 H locs ls hP hS hl => ?_) (fun v h2 => kk v h2)
  · unfold inv at ho
    by_cases g : oC ci h a = true
    · rw [if_pos g] at ho
      exact (cM v h2 ho).1
    · rw [if_neg g] at ho
      cases ho
  unfold inv at ho
  by_cases g : oC ci h a = true
  · rw [if_pos g] at ho
    obtain ⟨mo, hM⟩ := cM v h2 ho
    have EW := C.2.2.2.2.1.1
    have hR9 := C.2.2.2.2.2.2.1
    obtain ⟨m1, m2, m3, m4, m5⟩ := ml
    obtain ⟨ga, gt⟩ := oC_spec g
    have he := wsO_get Z h ga
    rw [ent_obj gt h7] at he
    obtain ⟨qc, hq1, rfl⟩ := hci
    have hrecv := va_recv C.2.2.2.2.1.2.1 hP.1 hq1 he
    have hcode := EW.use (args := args) m1 rfl
    have hpre : PreV s H qc.1 (zb Z + a) (Pcg Z (.ref (zb Z + a) :: As) h) As := ⟨Pcg_blind, hrecv, Pcg_at C hP hS⟩
    have hrm : fr' + 1 ≤ R.frames ∧ 8 + (maxL + 11) + lc' ≤ R.locals := by rw [← hR9.1, ← hR9.2.1]; exact hR
    rcases m5 with m5 | ⟨host, m5⟩
    · exact va_runV (Ts := []) ⟨C.1, C.2.1, C.2.2.1, C.2.2.2.1, fun w hw => by cases hw⟩ hM ⟨⟨rfl, rfl, hrm.1, hrm.2, word1 hcode, List.mem_singleton.mpr rfl, hcode, EW.use m2 rfl, m3, ncount m4, EW.use m5 rfl⟩, EW.use mi.1 rfl, EW.use mi.2 rfl⟩ hpre rfl hn hl.1 rfl (lv_room hcat) hd ⟨r1, r2⟩
    · exact va_runVN (Ts := []) ⟨C.1, C.2.1, C.2.2.1, C.2.2.2.1, fun w hw => by cases hw⟩ hM ⟨⟨⟨rfl, rfl, hrm.1, hrm.2, word1 hcode, List.mem_singleton.mpr rfl⟩, hcode, EW.use m2 rfl, m3, ncount m4, EW.nest m5 rfl⟩, EW.use mi.1 rfl, EW.use mi.2 rfl⟩ hpre rfl hn hl.1 rfl (lv_room hcat) hd ⟨r1, r2⟩
  · rw [if_neg g] at ho
    cases ho
theorem S_stas {idx n fr' lc' : Nat} {y : MethodName} {bytes : ByteArray} {maxL : Nat} {ret : Option FieldType} (ml : ML own idx y bytes maxL ret n) (mi : Cond.static y ∈ lw_tbl) (hd : decode cc pc = .ok (.invokestatic idx, 3)) (As : List Value) (hn : As.length = n) {oc : Option (Nat × HP)}
    (cM : ∀ v h2, oc = some (v, h2) → MetP Z l y bytes maxL ret fr' lc' As h ((fun v => some (.ref (zK Z v)) : Nat → Option Value) v) h2) (hR : fr' + 1 ≤ fr ∧ 8 + (maxL + 11) + lc' ≤ lc) (hcat : (rest.map fun v => v.category).sum ≤ 8) (hst : st = As.reverse ++ rest) (hp : pc + 3 = pc') {f : Nat → HP → Option (ρ × HP)}
    (kk : ∀ v h2, Sim Z l cc own nL fr lc rt nm args QQ h0 h1 v0 pc' lo (.ref (zK Z v) :: rest) h2 (f v h2)) : Sim Z l cc own nL fr lc rt nm args QQ h0 h1 v0 pc lo st h (ob oc f) := by
  subst hp
  subst hst
  refine Sim.call (rv := (fun v => some (.ref (zK Z v)) : Nat → Option Value)) (a := As.toArray) (rest := rest) (fun v h2 ho => (cM v h2 ho).1) (fun v h2 ho {p e R s m below meth c} C r1 r2 H locs ls hP hS hl => ?_) (fun v h2 => kk v h2)
  obtain ⟨mo, hM⟩ := cM v h2 ho
  have EW := C.2.2.2.2.1.1
  have hR9 := C.2.2.2.2.2.2.1
  obtain ⟨m1, m2, m3, m4, m5⟩ := ml
  have hcode := EW.use (args := args) m1 rfl
  have hpre : PreS s H (Pcg Z As h) As := ⟨Pcg_blind, Pcg_at C hP hS⟩
  have hrm : fr' + 1 ≤ R.frames ∧ 8 + (maxL + 11) + lc' ≤ R.locals := by rw [← hR9.1, ← hR9.2.1]; exact hR
  rcases m5 with m5 | ⟨host, m5⟩
  · exact va_runS (Ts := []) ⟨C.1, C.2.1, C.2.2.1, C.2.2.2.1, fun w hw => by cases hw⟩ hM ⟨⟨rfl, rfl, hrm.1, hrm.2, word1 hcode, List.mem_singleton.mpr rfl, hcode, EW.use m2 rfl, m3, ncount m4, EW.use m5 rfl⟩, EW.use mi rfl⟩ hpre rfl hn hl.1 rfl (lv_room hcat) hd ⟨r1, r2⟩
  · exact va_runSN (Ts := []) ⟨C.1, C.2.1, C.2.2.1, C.2.2.2.1, fun w hw => by cases hw⟩ hM ⟨⟨⟨rfl, rfl, hrm.1, hrm.2, word1 hcode, List.mem_singleton.mpr rfl⟩, hcode, EW.use m2 rfl, m3, ncount m4, EW.nest m5 rfl⟩, EW.use mi rfl, trivial⟩ hpre rfl hn hl.1 rfl (lv_room hcat) hd ⟨r1, r2⟩
theorem S_ctor {idx n fr' lc' : Nat} {y : MethodName} {bytes : ByteArray} {maxL : Nat} (ml : ML own idx y bytes maxL none n) (hy : y.name = "<init>") (mi : Cond.instanceMethod y ∈ lw_tbl) (hd : decode cc pc = .ok (.invokespecial idx, 3)) {a : Nat} (As : List Value) (hn : As.length = n) {oc : Option (Unit × HP)}
    (cM : ∀ v h2, oc = some (v, h2) → MetP Z l y bytes maxL none fr' lc' (.ref (zb Z + a) :: As) h none h2) (hR : fr' + 1 ≤ fr ∧ 8 + (maxL + 11) + lc' ≤ lc) (hcat : (rest.map fun v => v.category).sum ≤ 8) (hst : st = As.reverse ++ .ref (zb Z + a) :: rest) (hp : pc + 3 = pc') {f : Unit → HP → Option (ρ × HP)}
    (kk : ∀ v h2, Sim Z l cc own nL fr lc rt nm args QQ h0 h1 v0 pc' lo (rest) h2 (f v h2)) : Sim Z l cc own nL fr lc rt nm args QQ h0 h1 v0 pc lo st h (ob oc f) := by
  subst hp
  subst hst
  refine Sim.call (rv := (fun _ => none : Unit → Option Value)) (a := (Value.ref (zb Z + a) :: As).toArray) (rest := rest) (fun v h2 ho => (cM v h2 ho).1) (fun v h2 ho {p e R s m below meth c} C r1 r2 H locs ls hP hS hl => ?_) (fun v h2 => kk v h2)
  obtain ⟨mo, hM⟩ := cM v h2 ho
  have EW := C.2.2.2.2.1.1
  have hR9 := C.2.2.2.2.2.2.1
  obtain ⟨m1, m2, m3, m4, m5⟩ := ml
  have hcode := EW.use (args := args) m1 rfl
  have hpre : PreS s H (Pcg Z (.ref (zb Z + a) :: As) h) (.ref (zb Z + a) :: As) := ⟨Pcg_blind, Pcg_at C hP hS⟩
  have hrm : fr' + 1 ≤ R.frames ∧ 8 + (maxL + 11) + lc' ≤ R.locals := by rw [← hR9.1, ← hR9.2.1]; exact hR
  rcases m5 with m5 | ⟨host, m5⟩
  · exact va_runI (Ts := []) ⟨C.1, C.2.1, C.2.2.1, C.2.2.2.1, fun w hw => by cases hw⟩ hM ⟨⟨rfl, rfl, hrm.1, hrm.2, word1 hcode, List.mem_singleton.mpr rfl, hcode, EW.use m2 rfl, m3, ncount m4, EW.use m5 rfl⟩, hy, EW.use mi rfl⟩ hpre rfl hn hl.1 rfl (lv_room hcat) hd ⟨r1, r2⟩
  · exact va_runIN (Ts := []) ⟨C.1, C.2.1, C.2.2.1, C.2.2.2.1, fun w hw => by cases hw⟩ hM ⟨⟨⟨rfl, rfl, hrm.1, hrm.2, word1 hcode, List.mem_singleton.mpr rfl⟩, hcode, EW.use m2 rfl, m3, ncount m4, EW.nest m5 rfl⟩, hy, EW.use mi rfl⟩ hpre rfl hn hl.1 rfl (lv_room hcat) hd ⟨r1, r2⟩
/-! returns -/
theorem ret_post (C : Cx p R s m meth c Z cc own nL fr lc rt nm h0 h1) {rv : Option Value} {H : Heap} {locs : List Loc} (hP : Rl Z h1 H) (hS : va_S (zA Z) s.heap H locs) : ∀ t : State, t.heap = H → s.WarmedH t.vm → Qg Z rv h1 args s (.returned rv) t := fun t ht _ => ⟨rfl, by rw [ht]; exact hP, by rw [ht]; exact hS.1, fun q a b => by rw [ht]; exact hS.2.1 q a b⟩
theorem S_iret {v0 : Int32} (hr : rt = some .int) (hd : decode cc pc = .ok (.ireturn, 1)) {v : Int32} : Sim Z l cc own nL fr lc rt nm args (Mq Z args h0 h1 (some (.int v0))) h0 h1 v0 pc lo ([.int v]) h (some (v, h)) := by
  intro ho
  cases ho
  refine ⟨Mono.rf _, fun C a1 H locs ls hP hS hl => ?_⟩
  have hlk := C.2.2.2.2.2.1
  exact W.iret C.1 C.2.1 (C.2.2.2.2.2.2.2.2.1.trans hr) (ret_post C hP hS) hS.2.2 hd hlk
theorem S_lret {v0 : Int64} (hr : rt = some .long) (hd : decode cc pc = .ok (.lreturn, 1)) {v : Int64} : Sim Z l cc own nL fr lc rt nm args (Mq Z args h0 h1 (some (.long v0))) h0 h1 v0 pc lo ([.long v]) h (some (v, h)) := by
  intro ho
  cases ho
  refine ⟨Mono.rf _, fun C a1 H locs ls hP hS hl => ?_⟩
  have hlk := C.2.2.2.2.2.1
  exact W.lret C.1 C.2.1 (C.2.2.2.2.2.2.2.2.1.trans hr) (ret_post C hP hS) hS.2.2 hd hlk
theorem S_vret {v0 : Unit} (hr : rt = none) (hd : decode cc pc = .ok (.return_, 1)) {v : Unit} : Sim Z l cc own nL fr lc rt nm args (Mq Z args h0 h1 (none)) h0 h1 v0 pc lo ([]) h (some (v, h)) := by
  intro ho
  cases ho
  refine ⟨Mono.rf _, fun C a1 H locs ls hP hS hl => ?_⟩
  have hlk := C.2.2.2.2.2.1
  exact W.vret C.1 C.2.1 (C.2.2.2.2.2.2.2.2.1.trans hr) (ret_post C hP hS) hS.2.2 hd hlk
theorem S_aret {v0 : Nat} {rt9 : FieldType} (hr : rt = some rt9) (hrt : (∃ n, rt9 = .object n) ∨ ∃ t, rt9 = .array t) (hd : decode cc pc = .ok (.areturn, 1)) {v : Nat} : Sim Z l cc own nL fr lc rt nm args (Mq Z args h0 h1 (some (.ref (zb Z + v0)))) h0 h1 v0 pc lo ([.ref (zb Z + v)]) h (some (v, h)) := by
  intro ho
  cases ho
  refine ⟨Mono.rf _, fun C a1 H locs ls hP hS hl => ?_⟩
  have hlk := C.2.2.2.2.2.1
  exact W.aret C.1 C.2.1 (C.2.2.2.2.2.2.2.2.1.trans hr) hrt (Or.inr ⟨_, rfl⟩) (ret_post C hP hS) hS.2.2 hd hlk
theorem S_sret {v0 : Nat} {rt9 : FieldType} (hr : rt = some rt9) (hrt : (∃ n, rt9 = .object n) ∨ ∃ t, rt9 = .array t) (hd : decode cc pc = .ok (.areturn, 1)) {v : Nat} : Sim Z l cc own nL fr lc rt nm args (Mq Z args h0 h1 (some (.ref (zK Z v0)))) h0 h1 v0 pc lo ([.ref (zK Z v)]) h (some (v, h)) := by
  intro ho
  cases ho
  refine ⟨Mono.rf _, fun C a1 H locs ls hP hS hl => ?_⟩
  have hlk := C.2.2.2.2.2.1
  exact W.aret C.1 C.2.1 (C.2.2.2.2.2.2.2.2.1.trans hr) hrt (Or.inr ⟨_, rfl⟩) (ret_post C hP hS) hS.2.2 hd hlk
theorem S_zret {v0 : Int32} (hr : rt = some .boolean) (hd : decode cc pc = .ok (.ireturn, 1)) {v : Int32} : Sim Z l cc own nL fr lc rt nm args (Mq Z args h0 h1 (some (.int v0))) h0 h1 v0 pc lo [.int v] h (rZ v h) := by
  intro ho
  unfold rZ at ho
  by_cases g : v = 0 ∨ v = 1
  · rw [if_pos g] at ho
    have hz : narrow .boolean (.int v) = .int v := by
      rcases g with rfl | rfl <;> decide
    cases ho
    refine ⟨Mono.rf _, fun C a1 H locs ls hP hS hl => ?_⟩
    have hlk := C.2.2.2.2.2.1
    exact W.zret C.1 C.2.1 (C.2.2.2.2.2.2.2.2.1.trans hr) hz (ret_post C hP hS) hS.2.2 hd hlk
  · rw [if_neg g] at ho
    cases ho
end CALLS
/-- a method's contract out of its Sim from its entry -/
theorem MetP_of {Z : ZZ} {l : Launch} {y : MethodName} {cc : ByteArray} {nL : Nat} {rt : Option FieldType} {fr lc : Nat} {av : List Value} {h h1 : HP} {ρ : Type} {rv : Option Value} {v0 : ρ} {o : Option (ρ × HP)} (ho : o = some (v0, h1)) (hy : plainFor y = true) (hlen : (lg_sl av).length ≤ nL) (lo : List (Nat × Value)) (hlo : lv_args 0 av = lo) {own nm : String} (e1 : y.cls = own) (e2 : y.name = nm)
    (body : Sim Z l cc own nL fr lc rt nm av.toArray (Mq Z av.toArray h h1 rv) h h1 v0 0 lo [] h o) : MetP Z l y cc nL rt fr lc av h rv h1 := by
  subst e1
  subst e2
  obtain ⟨hmono, w1⟩ := body ho
  refine ⟨hmono, ?_⟩
  refine MetFree.of_bodySF (code := cc) (maxLocals := nL) (ret := rt) hy ?_ ?_
  · intro args s m h hn
    obtain ⟨meth, c, h1, h2, h3, h4, h5, h6, -, -⟩ := Cond.code_spec hn (atoms_spec (ws := [Cond.code y cc nL rt]) h _ List.mem_cons_self)
    exact ⟨meth, c, h1, h2, h3, h4, h5, h6⟩
  · intro p e s m args below meth c s₁ B hml hP _
    have hh0 : s₁.heap = s.heap := by rw [B.state]; rfl
    obtain ⟨rfl, hEF, hRl⟩ := hP
    have hown : s.vm.findClass y.cls = some m.cls := findClass_of_methodNamed B.named
    have C : Cx p { frames := fr, cells := hN h1 - hN h, slots := hL h1 - hL h, locals := lc } s m meth c Z cc y.cls nL fr lc rt y.name h h1 := ⟨B.exec, B.bytes, hml, hown, hEF, B.notSynchronized, ⟨rfl, rfl, Nat.le_refl _, Nat.le_refl _⟩, hRl.2, B.returns, (name_of_methodNamed B.named B.method).1⟩
    have hl := lv_entry av hlen
    rw [hlo] at hl
    have K := w1 (e := e) (below := below) C (Mono.rf h) s.heap [] _ hRl va_S.rf hl
    rw [Nat.sub_self, Nat.sub_self, ← lg_entry_eq m av nL] at K
    obtain ⟨t, a1, o, b1, b2, b3⟩ := K s₁ hh0 (Stand.of_body B)
    exact ⟨t, o, a1, b1, b2, ⟨b3.1, b3.2⟩⟩
