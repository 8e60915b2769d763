/-! THE OPERATIONS in thought; for each instruction how it moves Sim -/
def oC (c : Nat) (h : HP) (a : Nat) : Bool := decide (a < hN h) && decide ((hS h a).1 = c)
theorem oC_spec {c : Nat} {h : HP} {a : Nat} (g : oC c h a = true) : a < hN h ∧ (hS h a).1 = c := by
  unfold oC at g
  rw [Bool.and_eq_true] at g
  exact ⟨of_decide_eq_true g.1, of_decide_eq_true g.2⟩
def vpi (i : Int32) (n : Nat) : Bool := decide (¬ (i < 0 ∨ n ≤ i.toNatClampNeg))
theorem vpi_spec {i : Int32} {n : Nat} (g : vpi i n = true) : vp_in i n := show ¬ (i < 0 ∨ n ≤ i.toNatClampNeg) from of_decide_eq_true g
/-- an answer and a heap, handed on -/
def ob {σ τ : Type} (o : Option (σ × HP)) (f : σ → HP → Option τ) : Option τ := match o with
  | none => none
  | some q => f q.1 q.2
theorem ob_some {σ τ : Type} {o : Option (σ × HP)} {f : σ → HP → Option τ} {r : τ} (h : ob o f = some r) : ∃ v h2, o = some (v, h2) ∧ f v h2 = some r := by
  cases o with
  | none => cases h
  | some q => exact ⟨q.1, q.2, rfl, h⟩
/-- a call's receiver is of the class -/
def inv {σ : Type} (c a : Nat) (h : HP) (o : Option (σ × HP)) : Option (σ × HP) := if oC c h a = true then o else none
def gI (c j a : Nat) (h : HP) : Option Int32 := if oC c h a = true then some (hI h a j) else none
def gR (c j a : Nat) (h : HP) : Option Nat := if oC c h a = true then hR h a j else none
def gN (c j a : Nat) (h : HP) : Option (Option Nat) := if oC c h a = true then some (hR h a j) else none
def pI (c j a : Nat) (x : Int32) (h : HP) : Option HP := if oC c h a = true then some (wI h a (upd (hI h a) j x)) else none
def pZ (c j a : Nat) (x : Int32) (h : HP) : Option HP := if oC c h a = true ∧ (x = 0 ∨ x = 1) then some (wI h a (upd (hI h a) j x)) else none
def pR (c j a v : Nat) (h : HP) : Option HP := if oC c h a = true then some (wR h a (upA (hR h a) j (some v))) else none
def lI (a : Nat) (i : Int32) (h : HP) : Option Int32 := if oC 7 h a = true ∧ vpi i (hS h a).2 = true then some (hI h a i.toNatClampNeg) else none
def lJ (a : Nat) (i : Int32) (h : HP) : Option Int64 := if oC 8 h a = true ∧ vpi i (hS h a).2 = true then some (hJ h a i.toNatClampNeg) else none
def lR (t a : Nat) (i : Int32) (h : HP) : Option Nat := if oC t h a = true ∧ vpi i (hS h a).2 = true then hR h a i.toNatClampNeg else none
def sI (a : Nat) (i x : Int32) (h : HP) : Option HP := if oC 7 h a = true ∧ vpi i (hS h a).2 = true then some (wI h a (upd (hI h a) i.toNatClampNeg x)) else none
def sJ (a : Nat) (i : Int32) (x : Int64) (h : HP) : Option HP := if oC 8 h a = true ∧ vpi i (hS h a).2 = true then some (wJ h a (vp_updL (hJ h a) i.toNatClampNeg x)) else none
def sR (a : Nat) (i : Int32) (v : Nat) (h : HP) : Option HP := if oC 9 h a = true ∧ vpi i (hS h a).2 = true ∧ oC 3 h v = true then some (wR h a (upA (hR h a) i.toNatClampNeg (some v))) else none
def aL (a : Nat) (h : HP) : Option Int32 := if oC 7 h a = true then some (Int32.ofNat (hS h a).2) else none
def cpOK (n0 n1 : Nat) (sp dp n : Int32) : Bool := decide (¬ sp < 0 ∧ ¬ dp < 0 ∧ ¬ n < 0 ∧ sp.toNatClampNeg + n.toNatClampNeg ≤ n0 ∧ dp.toNatClampNeg + n.toNatClampNeg ≤ n1)
def cpI (a0 : Nat) (sp : Int32) (a : Nat) (dp n : Int32) (h : HP) : Option HP := if oC 7 h a0 = true ∧ oC 7 h a = true ∧ cpOK (hS h a0).2 (hS h a).2 sp dp n = true then some (wI h a (va_cpy (hI h a0) (hI h a) sp.toNatClampNeg dp.toNatClampNeg n.toNatClampNeg)) else none
def cpJ (a0 : Nat) (sp : Int32) (a : Nat) (dp n : Int32) (h : HP) : Option HP := if oC 8 h a0 = true ∧ oC 8 h a = true ∧ cpOK (hS h a0).2 (hS h a).2 sp dp n = true then some (wJ h a (va_cpy (hJ h a0) (hJ h a) sp.toNatClampNeg dp.toNatClampNeg n.toNatClampNeg)) else none
def nO (c : Nat) (h : HP) : HP := nw h c 0 (nfl c)
def nA (t : Nat) (n : Int32) (h : HP) : Option HP := if ¬ n < 0 ∧ n.toNatClampNeg ≤ 4096 then some (nw h t n.toNatClampNeg n.toNatClampNeg) else none
/-- the answer 0 or 1 -/
def rZ (v : Int32) (h : HP) : Option (Int32 × HP) := if v = 0 ∨ v = 1 then some (v, h) else none
def dz (y : Int32) : Option Unit := if y = 0 then none else some ()
/-- the script -/
def lX (Z : ZZ) (i : Int32) : Option Int32 := if vpi i (zL Z) = true then some (zX Z i.toNatClampNeg) else none
/-- a field's entry -/
def FL (own : String) (idx ci k : Nat) (t : FieldType) (fin ne : Bool) : Prop := ∃ (C : String) (T : u_T) (ty : Nat → FieldType) (N : Nat), vwCl[ci]? = some (C, T, N) ∧ ci < 7 ∧ N = nfl ci ∧ k < N ∧ (∀ w ∈ u_ws C T N, w ∈ lw_tbl) ∧ (∀ j, j < N → parseFieldDescriptor (T j).2.2.1 = some (ty j)) ∧ (∀ a, a < N → ∀ b, b < N → a ≠ b → (T a).2.1 ≠ (T b).2.1) ∧ parseFieldDescriptor (T k).2.2.1 = some t ∧ (T k).2.2.2 = fin ∧ (T k).1 = C ∧
  ((ne = false ∧ Cond.fieldLink own idx (T k).1 (T k).2.1 (T k).2.2.1 ∈ lw_tbl) ∨ (ne = true ∧ ∃ host, Cond.fieldLinkNest own idx (T k).1 (T k).2.1 (T k).2.2.1 host ∈ lw_tbl))
theorem u_good {C : String} {T : u_T} {N : Nat} : ∀ w ∈ u_ws C T N, goodWord w = true := by
  intro w hw
  obtain ⟨k, -, rfl⟩ := List.mem_map.mp hw
  unfold u_lay
  split <;> rfl
/-- a method's entry: its code, its class, how many arguments, the link -/
def ML (own : String) (idx : Nat) (y : MethodName) (bytes : ByteArray) (maxL : Nat) (ret : Option FieldType) (n : Nat) : Prop := Cond.code y bytes maxL ret ∈ lw_tbl ∧ Cond.initialized y.cls ∈ lw_tbl ∧ (y.cls ≠ "java/lang/invoke/MethodHandle" ∧ y.cls ≠ "java/lang/invoke/VarHandle") ∧ (parseMethodDescriptor y.desc).map (fun d => d.parameters.length) = some n ∧ (Cond.methodLink own idx y ∈ lw_tbl ∨ ∃ host, Cond.methodLinkNest own idx y host ∈ lw_tbl)
def MI (C : String) (y : MethodName) : Prop := Cond.instanceMethod y ∈ lw_tbl ∧ Cond.selects C y y ∈ lw_tbl
theorem size_of {Z : ZZ} {h : HP} {H : Heap} (hP : va_P (zD Z) vwCl (wsO Z h) H) (hlo : zb Z ≤ H.size) (hup : H.size ≤ zb Z + hN h) : H.size = zb Z + hN h := by
  by_cases hn : hN h = 0
  · omega
  · have := (hP (hN h - 1) _ (wsO_get Z h (by omega))).lt
    simp only at this
    omega
theorem fs_get {Z : ZZ} {h : HP} {a c k : Nat} (hk : k < nfl c) : ((List.range (nfl c)).map (fvl Z h a c))[k]? = some (fvl Z h a c k) := by simp [hk]
theorem fs_set {Z : ZZ} {h h' : HP} {a c k : Nat} {v : Value} (h1 : fvl Z h' a c k = v) (h2 : ∀ j, j ≠ k → fvl Z h' a c j = fvl Z h a c j) : ((List.range (nfl c)).map (fvl Z h a c)).set k v = (List.range (nfl c)).map (fvl Z h' a c) := by
  rw [map_range_set]
  refine List.map_congr_left fun j _ => ?_
  by_cases e : j = k
  · rw [if_pos e, e, h1]
  · rw [if_neg e, h2 j e]
theorem fvl_int {Z : ZZ} {h : HP} {a c k : Nat} (hk : isrf c k = false) : fvl Z h a c k = .int (hI h a k) := by unfold fvl; rw [hk]; rfl
theorem fvl_ref {Z : ZZ} {h : HP} {a c k : Nat} (hk : isrf c k = true) : fvl Z h a c k = rfv Z (hR h a k) := by unfold fvl; rw [hk]; rfl
section OPS
variable {p : Program} {l : Launch} {e : Env} {R : Room} {s : State} {m : MethodId} {args : Array Value} {below : List Frame} {meth : Method} {c : Code} {Q : State → Prop}
variable {Z : ZZ} {cc : ByteArray} {own : String} {nL fr lc : Nat} {rt : Option FieldType} {nm : String} {QQ : State → List Frame → State → Prop} {h0 h1 : HP} {ρ : Type} {v0 : ρ}
variable {pc pc' tgt : Nat} {lo lo' : List (Nat × Value)} {st rest : List Value} {h : HP} {o o1 o2 : Option (ρ × HP)}
theorem W_sz {H : Heap} {locs : List Loc} {cells slots : Nat} {g : JFrame} (k : H.size ≤ s.heap.size + cells → W p l e R s m args below meth c H locs cells slots Q g) : W p l e R s m args below meth c H locs cells slots Q g :=
  fun T hT X => k (by rw [← hT]; exact X.heapSize) T hT X
theorem Cx.sz (C : Cx p R s m meth c Z cc own nL fr lc rt nm h0 h1) {H : Heap} {locs : List Loc} (hP : va_P (zD Z) vwCl (wsO Z h) H) (hS : va_S (zA Z) s.heap H locs) (hm : Mono h0 h) (hz : H.size ≤ s.heap.size + (hN h - hN h0)) : Rl Z h H := by
  have h8 := C.2.2.2.2.2.2.2.1
  have := hm.1
  have := hS.1
  exact ⟨hP, size_of hP (by omega) (by omega)⟩
/-- one step that changes cells, none is made -/
theorem Sim.wr {h2 : HP} {pc' : Nat} {lo' : List (Nat × Value)} {st' : List Value} (hm : hN h2 = hN h) (hm2 : hL h2 = hL h)
    (hst : ∀ {p : Program} {e : Env} {R : Room} {s : State} {m : MethodId} {below : List Frame} {meth : Method} {c : Code}, Cx p R s m meth c Z cc own nL fr lc rt nm h0 h1 → ∀ (H : Heap) (locs : List Loc) (ls : Array Slot), Rl Z h H → va_S (zA Z) s.heap H locs → lv_has ls nL lo →
      (∀ H1 locs1 ls', va_P (zD Z) vwCl (wsO Z h2) H1 → va_S (zA Z) s.heap H1 locs1 → lv_has ls' nL lo' → W p l e R s m args below meth c H1 locs1 (hN h - hN h0) (hL h - hL h0) (QQ s below) (F0 m pc' ls' st')) → W p l e R s m args below meth c H locs (hN h - hN h0) (hL h - hL h0) (QQ s below) (F0 m pc ls st))
    (k : Sim Z l cc own nL fr lc rt nm args QQ h0 h1 v0 pc' lo' st' h2 o) : Sim Z l cc own nL fr lc rt nm args QQ h0 h1 v0 pc lo st h o := by
  intro ho
  obtain ⟨m1, w1⟩ := k ho
  refine ⟨⟨hm ▸ m1.1, hm2 ▸ m1.2⟩, fun {p e R s m below meth c} C a H locs ls hP hS hl => hst C H locs ls hP hS hl fun H1 locs1 ls' hP1 hS1 hl1 => ?_⟩
  have a2 : Mono h0 h2 := ⟨hm ▸ a.1, hm2 ▸ a.2⟩
  refine W_sz fun hz => ?_
  have := w1 (e := e) (below := below) C a2 H1 locs1 ls' (C.sz hP1 hS1 a2 (by rw [hm]; exact hz)) hS1 hl1
  rwa [hm, hm2] at this
theorem S_iconst {n : Int} {v : Int32} (hd : decode cc pc = .ok (.iconst n, 1)) (hv : Int32.ofInt n = v) (hp : pc + 1 = pc')
    (k : Sim Z l cc own nL fr lc rt nm args QQ h0 h1 v0 pc' lo (.int v :: st) h o) : Sim Z l cc own nL fr lc rt nm args QQ h0 h1 v0 pc lo (st) h o := by
  subst hp
  exact Sim.pure (fun C H locs ls _ _ hl0 kk => lv_iconst C.1 C.2.1 hd hv (kk ls hl0)) k
theorem S_bipush {n : Int} {v : Int32} (hd : decode cc pc = .ok (.bipush n, 2)) (hv : (Int8.ofInt n).toInt32 = v) (hp : pc + 2 = pc')
    (k : Sim Z l cc own nL fr lc rt nm args QQ h0 h1 v0 pc' lo (.int v :: st) h o) : Sim Z l cc own nL fr lc rt nm args QQ h0 h1 v0 pc lo (st) h o := by
  subst hp
  exact Sim.pure (fun C H locs ls _ _ hl0 kk => lv_bipush C.1 C.2.1 hd hv (kk ls hl0)) k
theorem S_sipush {n : Int} {v : Int32} (hd : decode cc pc = .ok (.sipush n, 3)) (hv : (Int16.ofInt n).toInt32 = v) (hp : pc + 3 = pc')
    (k : Sim Z l cc own nL fr lc rt nm args QQ h0 h1 v0 pc' lo (.int v :: st) h o) : Sim Z l cc own nL fr lc rt nm args QQ h0 h1 v0 pc lo (st) h o := by
  subst hp
  exact Sim.pure (fun C H locs ls _ _ hl0 kk => lv_sipush C.1 C.2.1 hd hv (kk ls hl0)) k
theorem S_lconst {n : Fin 2} {v : Int64} (hd : decode cc pc = .ok (.lconst n, 1)) (hv : Int64.ofNat (n : Nat) = v) (hp : pc + 1 = pc')
    (k : Sim Z l cc own nL fr lc rt nm args QQ h0 h1 v0 pc' lo (.long v :: st) h o) : Sim Z l cc own nL fr lc rt nm args QQ h0 h1 v0 pc lo (st) h o := by
  subst hp
  exact Sim.pure (fun C H locs ls _ _ hl0 kk => lv_lconst C.1 C.2.1 hd hv (kk ls hl0)) k
theorem S_iload_n {q : Fin 4} {i : Nat} {x : Int32} (hd : decode cc pc = .ok (.iload_n q, 1)) (hi : (q : Nat) = i) (j : Nat) (hl : lo[j]? = some (i, .int x)) (hp : pc + 1 = pc')
    (k : Sim Z l cc own nL fr lc rt nm args QQ h0 h1 v0 pc' lo (.int x :: st) h o) : Sim Z l cc own nL fr lc rt nm args QQ h0 h1 v0 pc lo (st) h o := by
  subst hp
  exact Sim.pure (fun C H locs ls _ _ hl0 kk => lv_iload_n C.1 C.2.1 hd hi (lv_at hl0 j hl) (kk ls hl0)) k
theorem S_iload {i : Nat} {x : Int32} (hd : decode cc pc = .ok (.iload i, 2)) (j : Nat) (hl : lo[j]? = some (i, .int x)) (hp : pc + 2 = pc')
    (k : Sim Z l cc own nL fr lc rt nm args QQ h0 h1 v0 pc' lo (.int x :: st) h o) : Sim Z l cc own nL fr lc rt nm args QQ h0 h1 v0 pc lo (st) h o := by
  subst hp
  exact Sim.pure (fun C H locs ls _ _ hl0 kk => lv_iload C.1 C.2.1 hd (lv_at hl0 j hl) (kk ls hl0)) k
theorem S_istore_n  {q : Fin 4} {i : Nat} {x : Int32} (hd : decode cc pc = .ok (.istore_n q, 1)) (hi : (q : Nat) = i) (hn : i < nL) (hl : (i, Value.int x) :: lo.filter (fun q => !(q.1 == i) && !(q.1 + 1 == i && q.2.category == 2)) = lo') (hp : pc + 1 = pc')
    (k : Sim Z l cc own nL fr lc rt nm args QQ h0 h1 v0 pc' lo' st h o) : Sim Z l cc own nL fr lc rt nm args QQ h0 h1 v0 pc lo (.int x :: st) h o := by
  subst hp
  exact Sim.pure (fun C H locs ls _ _ hl0 kk => lv_istore_n C.1 C.2.1 hd hi hl0 hn hl (fun ls1 hl1 => kk ls1 hl1)) k
theorem S_istore  {i : Nat} {x : Int32} (hd : decode cc pc = .ok (.istore i, 2)) (hn : i < nL) (hl : (i, Value.int x) :: lo.filter (fun q => !(q.1 == i) && !(q.1 + 1 == i && q.2.category == 2)) = lo') (hp : pc + 2 = pc')
    (k : Sim Z l cc own nL fr lc rt nm args QQ h0 h1 v0 pc' lo' st h o) : Sim Z l cc own nL fr lc rt nm args QQ h0 h1 v0 pc lo (.int x :: st) h o := by
  subst hp
  exact Sim.pure (fun C H locs ls _ _ hl0 kk => lv_istore C.1 C.2.1 hd hl0 hn hl (fun ls1 hl1 => kk ls1 hl1)) k
theorem S_lload_n {q : Fin 4} {i : Nat} {x : Int64} (hd : decode cc pc = .ok (.lload_n q, 1)) (hi : (q : Nat) = i) (j : Nat) (hl : lo[j]? = some (i, .long x)) (hp : pc + 1 = pc')
    (k : Sim Z l cc own nL fr lc rt nm args QQ h0 h1 v0 pc' lo (.long x :: st) h o) : Sim Z l cc own nL fr lc rt nm args QQ h0 h1 v0 pc lo (st) h o := by
  subst hp
  exact Sim.pure (fun C H locs ls _ _ hl0 kk => lv_lload_n C.1 C.2.1 hd hi (lv_at hl0 j hl) (kk ls hl0)) k
theorem S_lload {i : Nat} {x : Int64} (hd : decode cc pc = .ok (.lload i, 2)) (j : Nat) (hl : lo[j]? = some (i, .long x)) (hp : pc + 2 = pc')
    (k : Sim Z l cc own nL fr lc rt nm args QQ h0 h1 v0 pc' lo (.long x :: st) h o) : Sim Z l cc own nL fr lc rt nm args QQ h0 h1 v0 pc lo (st) h o := by
  subst hp
  exact Sim.pure (fun C H locs ls _ _ hl0 kk => lv_lload C.1 C.2.1 hd (lv_at hl0 j hl) (kk ls hl0)) k
theorem S_lstore_n  {q : Fin 4} {i : Nat} {x : Int64} (hd : decode cc pc = .ok (.lstore_n q, 1)) (hi : (q : Nat) = i) (hn : i + 1 < nL) (hl : (i, Value.long x) :: lo.filter (fun q => !(q.1 == i) && (!(q.1 == i + 1) && !(q.1 + 1 == i && q.2.category == 2))) = lo') (hp : pc + 1 = pc')
    (k : Sim Z l cc own nL fr lc rt nm args QQ h0 h1 v0 pc' lo' st h o) : Sim Z l cc own nL fr lc rt nm args QQ h0 h1 v0 pc lo (.long x :: st) h o := by
  subst hp
  exact Sim.pure (fun C H locs ls _ _ hl0 kk => lv_lstore_n C.1 C.2.1 hd hi hl0 hn hl (fun ls1 hl1 => kk ls1 hl1)) k
theorem S_lstore  {i : Nat} {x : Int64} (hd : decode cc pc = .ok (.lstore i, 2)) (hn : i + 1 < nL) (hl : (i, Value.long x) :: lo.filter (fun q => !(q.1 == i) && (!(q.1 == i + 1) && !(q.1 + 1 == i && q.2.category == 2))) = lo') (hp : pc + 2 = pc')
    (k : Sim Z l cc own nL fr lc rt nm args QQ h0 h1 v0 pc' lo' st h o) : Sim Z l cc own nL fr lc rt nm args QQ h0 h1 v0 pc lo (.long x :: st) h o := by
  subst hp
  exact Sim.pure (fun C H locs ls _ _ hl0 kk => lv_lstore C.1 C.2.1 hd hl0 hn hl (fun ls1 hl1 => kk ls1 hl1)) k
theorem S_aload_n {q : Fin 4} {i : Nat} {x : Nat} (hd : decode cc pc = .ok (.aload_n q, 1)) (hi : (q : Nat) = i) (j : Nat) (hl : lo[j]? = some (i, .ref x)) (hp : pc + 1 = pc')
    (k : Sim Z l cc own nL fr lc rt nm args QQ h0 h1 v0 pc' lo (.ref x :: st) h o) : Sim Z l cc own nL fr lc rt nm args QQ h0 h1 v0 pc lo (st) h o := by
  subst hp
  exact Sim.pure (fun C H locs ls _ _ hl0 kk => lv_aload_n C.1 C.2.1 hd hi (lv_at hl0 j hl) (kk ls hl0)) k
theorem S_aload {i : Nat} {x : Nat} (hd : decode cc pc = .ok (.aload i, 2)) (j : Nat) (hl : lo[j]? = some (i, .ref x)) (hp : pc + 2 = pc')
    (k : Sim Z l cc own nL fr lc rt nm args QQ h0 h1 v0 pc' lo (.ref x :: st) h o) : Sim Z l cc own nL fr lc rt nm args QQ h0 h1 v0 pc lo (st) h o := by
  subst hp
  exact Sim.pure (fun C H locs ls _ _ hl0 kk => lv_aload C.1 C.2.1 hd (lv_at hl0 j hl) (kk ls hl0)) k
theorem S_astore_n  {q : Fin 4} {i : Nat} {x : Nat} (hd : decode cc pc = .ok (.astore_n q, 1)) (hi : (q : Nat) = i) (hn : i < nL) (hl : (i, Value.ref x) :: lo.filter (fun q => !(q.1 == i) && !(q.1 + 1 == i && q.2.category == 2)) = lo') (hp : pc + 1 = pc')
    (k : Sim Z l cc own nL fr lc rt nm args QQ h0 h1 v0 pc' lo' st h o) : Sim Z l cc own nL fr lc rt nm args QQ h0 h1 v0 pc lo (.ref x :: st) h o := by
  subst hp
  exact Sim.pure (fun C H locs ls _ _ hl0 kk => lv_astore_n C.1 C.2.1 hd hi hl0 hn hl (fun ls1 hl1 => kk ls1 hl1)) k
theorem S_astore  {i : Nat} {x : Nat} (hd : decode cc pc = .ok (.astore i, 2)) (hn : i < nL) (hl : (i, Value.ref x) :: lo.filter (fun q => !(q.1 == i) && !(q.1 + 1 == i && q.2.category == 2)) = lo') (hp : pc + 2 = pc')
    (k : Sim Z l cc own nL fr lc rt nm args QQ h0 h1 v0 pc' lo' st h o) : Sim Z l cc own nL fr lc rt nm args QQ h0 h1 v0 pc lo (.ref x :: st) h o := by
  subst hp
  exact Sim.pure (fun C H locs ls _ _ hl0 kk => lv_astore C.1 C.2.1 hd hl0 hn hl (fun ls1 hl1 => kk ls1 hl1)) k
theorem S_iinc  {i q : Nat} {n : Int} {x v : Int32} (hd : decode cc pc = .ok (.iinc i n, 3)) (hq : lo[q]? = some (i, .int x)) (hv : x + Int32.ofInt n = v) (hn : i < nL) (hl : (i, Value.int v) :: lo.filter (fun q => !(q.1 == i) && !(q.1 + 1 == i && q.2.category == 2)) = lo') (hp : pc + 3 = pc')
    (k : Sim Z l cc own nL fr lc rt nm args QQ h0 h1 v0 pc' lo' st h o) : Sim Z l cc own nL fr lc rt nm args QQ h0 h1 v0 pc lo st h o := by
  subst hp
  exact Sim.pure (fun C H locs ls _ _ hl0 kk => lv_iinc C.1 C.2.1 hd hl0 hq hv hn hl (fun ls1 hl1 => kk ls1 hl1)) k
theorem S_iadd {x y : Int32} (hd : decode cc pc = .ok (.iadd, 1)) (hp : pc + 1 = pc')
    (k : Sim Z l cc own nL fr lc rt nm args QQ h0 h1 v0 pc' lo (.int (x + y) :: st) h o) : Sim Z l cc own nL fr lc rt nm args QQ h0 h1 v0 pc lo (.int y :: .int x :: st) h o := by
  subst hp
  exact Sim.pure (fun C H locs ls _ _ hl0 kk => lv_iadd C.1 C.2.1 hd (kk ls hl0)) k
theorem S_isub {x y : Int32} (hd : decode cc pc = .ok (.isub, 1)) (hp : pc + 1 = pc')
    (k : Sim Z l cc own nL fr lc rt nm args QQ h0 h1 v0 pc' lo (.int (x - y) :: st) h o) : Sim Z l cc own nL fr lc rt nm args QQ h0 h1 v0 pc lo (.int y :: .int x :: st) h o := by
  subst hp
  exact Sim.pure (fun C H locs ls _ _ hl0 kk => lv_isub C.1 C.2.1 hd (kk ls hl0)) k
theorem S_imul {x y : Int32} (hd : decode cc pc = .ok (.imul, 1)) (hp : pc + 1 = pc')
    (k : Sim Z l cc own nL fr lc rt nm args QQ h0 h1 v0 pc' lo (.int (x * y) :: st) h o) : Sim Z l cc own nL fr lc rt nm args QQ h0 h1 v0 pc lo (.int y :: .int x :: st) h o := by
  subst hp
  exact Sim.pure (fun C H locs ls _ _ hl0 kk => lv_imul C.1 C.2.1 hd (kk ls hl0)) k
theorem S_iand {x y : Int32} (hd : decode cc pc = .ok (.iand, 1)) (hp : pc + 1 = pc')
    (k : Sim Z l cc own nL fr lc rt nm args QQ h0 h1 v0 pc' lo (.int (x &&& y) :: st) h o) : Sim Z l cc own nL fr lc rt nm args QQ h0 h1 v0 pc lo (.int y :: .int x :: st) h o := by
  subst hp
  exact Sim.pure (fun C H locs ls _ _ hl0 kk => lv_iand C.1 C.2.1 hd (kk ls hl0)) k
theorem S_ior {x y : Int32} (hd : decode cc pc = .ok (.ior, 1)) (hp : pc + 1 = pc')
    (k : Sim Z l cc own nL fr lc rt nm args QQ h0 h1 v0 pc' lo (.int (x ||| y) :: st) h o) : Sim Z l cc own nL fr lc rt nm args QQ h0 h1 v0 pc lo (.int y :: .int x :: st) h o := by
  subst hp
  exact Sim.pure (fun C H locs ls _ _ hl0 kk => lv_ior C.1 C.2.1 hd (kk ls hl0)) k
theorem S_ixor {x y : Int32} (hd : decode cc pc = .ok (.ixor, 1)) (hp : pc + 1 = pc')
    (k : Sim Z l cc own nL fr lc rt nm args QQ h0 h1 v0 pc' lo (.int (x ^^^ y) :: st) h o) : Sim Z l cc own nL fr lc rt nm args QQ h0 h1 v0 pc lo (.int y :: .int x :: st) h o := by
  subst hp
  exact Sim.pure (fun C H locs ls _ _ hl0 kk => lv_ixor C.1 C.2.1 hd (kk ls hl0)) k
theorem S_ishl {x y : Int32} (hd : decode cc pc = .ok (.ishl, 1)) (hp : pc + 1 = pc')
    (k : Sim Z l cc own nL fr lc rt nm args QQ h0 h1 v0 pc' lo (.int (x <<< (y &&& 31)) :: st) h o) : Sim Z l cc own nL fr lc rt nm args QQ h0 h1 v0 pc lo (.int y :: .int x :: st) h o := by
  subst hp
  exact Sim.pure (fun C H locs ls _ _ hl0 kk => lv_ishl C.1 C.2.1 hd (kk ls hl0)) k
theorem S_ishr {x y : Int32} (hd : decode cc pc = .ok (.ishr, 1)) (hp : pc + 1 = pc')
    (k : Sim Z l cc own nL fr lc rt nm args QQ h0 h1 v0 pc' lo (.int (x >>> (y &&& 31)) :: st) h o) : Sim Z l cc own nL fr lc rt nm args QQ h0 h1 v0 pc lo (.int y :: .int x :: st) h o := by
  subst hp
  exact Sim.pure (fun C H locs ls _ _ hl0 kk => lv_ishr C.1 C.2.1 hd (kk ls hl0)) k
theorem S_land {x y : Int64} (hd : decode cc pc = .ok (.land, 1)) (hp : pc + 1 = pc')
    (k : Sim Z l cc own nL fr lc rt nm args QQ h0 h1 v0 pc' lo (.long (x &&& y) :: st) h o) : Sim Z l cc own nL fr lc rt nm args QQ h0 h1 v0 pc lo (.long y :: .long x :: st) h o := by
  subst hp
  exact Sim.pure (fun C H locs ls _ _ hl0 kk => lv_land C.1 C.2.1 hd (kk ls hl0)) k
theorem S_lor {x y : Int64} (hd : decode cc pc = .ok (.lor, 1)) (hp : pc + 1 = pc')
    (k : Sim Z l cc own nL fr lc rt nm args QQ h0 h1 v0 pc' lo (.long (x ||| y) :: st) h o) : Sim Z l cc own nL fr lc rt nm args QQ h0 h1 v0 pc lo (.long y :: .long x :: st) h o := by
  subst hp
  exact Sim.pure (fun C H locs ls _ _ hl0 kk => lv_lor C.1 C.2.1 hd (kk ls hl0)) k
theorem S_lshl {x : Int64} {y : Int32} (hd : decode cc pc = .ok (.lshl, 1)) (hp : pc + 1 = pc')
    (k : Sim Z l cc own nL fr lc rt nm args QQ h0 h1 v0 pc' lo (.long (x <<< (y.toInt64 &&& 63)) :: st) h o) : Sim Z l cc own nL fr lc rt nm args QQ h0 h1 v0 pc lo (.int y :: .long x :: st) h o := by
  subst hp
  exact Sim.pure (fun C H locs ls _ _ hl0 kk => lv_lshl C.1 C.2.1 hd rfl (kk ls hl0)) k
theorem S_iushr {x y : Int32} (hd : decode cc pc = .ok (.iushr, 1)) (hp : pc + 1 = pc')
    (k : Sim Z l cc own nL fr lc rt nm args QQ h0 h1 v0 pc' lo (.int ((x.toUInt32 >>> (y.toUInt32 &&& Int32.toUInt32 31)).toInt32) :: st) h o) : Sim Z l cc own nL fr lc rt nm args QQ h0 h1 v0 pc lo (.int y :: .int x :: st) h o := by
  subst hp
  exact Sim.pure (fun C H locs ls _ _ hl0 kk => lv_iushr C.1 C.2.1 hd rfl (kk ls hl0)) k
theorem S_ineg {x : Int32} (hd : decode cc pc = .ok (.ineg, 1)) (hp : pc + 1 = pc')
    (k : Sim Z l cc own nL fr lc rt nm args QQ h0 h1 v0 pc' lo (.int (-x) :: st) h o) : Sim Z l cc own nL fr lc rt nm args QQ h0 h1 v0 pc lo (.int x :: st) h o := by
  subst hp
  exact Sim.pure (fun C H locs ls _ _ hl0 kk => lv_ineg C.1 C.2.1 hd (kk ls hl0)) k
theorem S_i2l {x : Int32} (hd : decode cc pc = .ok (.i2l, 1)) (hp : pc + 1 = pc')
    (k : Sim Z l cc own nL fr lc rt nm args QQ h0 h1 v0 pc' lo (.long (x.toInt64) :: st) h o) : Sim Z l cc own nL fr lc rt nm args QQ h0 h1 v0 pc lo (.int x :: st) h o := by
  subst hp
  exact Sim.pure (fun C H locs ls _ _ hl0 kk => lv_i2l C.1 C.2.1 hd rfl (kk ls hl0)) k
theorem S_l2i {x : Int64} (hd : decode cc pc = .ok (.l2i, 1)) (hp : pc + 1 = pc')
    (k : Sim Z l cc own nL fr lc rt nm args QQ h0 h1 v0 pc' lo (.int (x.toInt32) :: st) h o) : Sim Z l cc own nL fr lc rt nm args QQ h0 h1 v0 pc lo (.long x :: st) h o := by
  subst hp
  exact Sim.pure (fun C H locs ls _ _ hl0 kk => lv_l2i C.1 C.2.1 hd rfl (kk ls hl0)) k
theorem S_i2b {x : Int32} (hd : decode cc pc = .ok (.i2b, 1)) (hp : pc + 1 = pc')
    (k : Sim Z l cc own nL fr lc rt nm args QQ h0 h1 v0 pc' lo (.int (x.toInt8.toInt32) :: st) h o) : Sim Z l cc own nL fr lc rt nm args QQ h0 h1 v0 pc lo (.int x :: st) h o := by
  subst hp
  exact Sim.pure (fun C H locs ls _ _ hl0 kk => lv_i2b C.1 C.2.1 hd rfl (kk ls hl0)) k
theorem S_i2s {x : Int32} (hd : decode cc pc = .ok (.i2s, 1)) (hp : pc + 1 = pc')
    (k : Sim Z l cc own nL fr lc rt nm args QQ h0 h1 v0 pc' lo (.int (x.toInt16.toInt32) :: st) h o) : Sim Z l cc own nL fr lc rt nm args QQ h0 h1 v0 pc lo (.int x :: st) h o := by
  subst hp
  exact Sim.pure (fun C H locs ls _ _ hl0 kk => lv_i2s C.1 C.2.1 hd rfl (kk ls hl0)) k
theorem S_i2c {x : Int32} (hd : decode cc pc = .ok (.i2c, 1)) (hp : pc + 1 = pc')
    (k : Sim Z l cc own nL fr lc rt nm args QQ h0 h1 v0 pc' lo (.int ((x.toUInt32 % 65536).toInt32) :: st) h o) : Sim Z l cc own nL fr lc rt nm args QQ h0 h1 v0 pc lo (.int x :: st) h o := by
  subst hp
  exact Sim.pure (fun C H locs ls _ _ hl0 kk => lv_i2c C.1 C.2.1 hd rfl (kk ls hl0)) k
theorem S_lcmp {x y : Int64} (hd : decode cc pc = .ok (.lcmp, 1)) (hp : pc + 1 = pc')
    (k : Sim Z l cc own nL fr lc rt nm args QQ h0 h1 v0 pc' lo (.int (lg_cmp x y) :: st) h o) : Sim Z l cc own nL fr lc rt nm args QQ h0 h1 v0 pc lo (.long y :: .long x :: st) h o := by
  subst hp
  exact Sim.pure (fun C H locs ls _ _ hl0 kk => W.lcmp C.1 C.2.1 hd (kk ls hl0)) k
theorem S_dup {va : Value} (hd : decode cc pc = .ok (.dup, 1)) (hva : va.category = 1) (hp : pc + 1 = pc')
    (k : Sim Z l cc own nL fr lc rt nm args QQ h0 h1 v0 pc' lo (va :: va :: st) h o) : Sim Z l cc own nL fr lc rt nm args QQ h0 h1 v0 pc lo (va :: st) h o := by
  subst hp
  exact Sim.pure (fun C H locs ls _ _ hl0 kk => lv_dup C.1 C.2.1 hd hva (kk ls hl0)) k
theorem S_pop {va : Value} (hd : decode cc pc = .ok (.pop, 1)) (hva : va.category = 1) (hp : pc + 1 = pc')
    (k : Sim Z l cc own nL fr lc rt nm args QQ h0 h1 v0 pc' lo (st) h o) : Sim Z l cc own nL fr lc rt nm args QQ h0 h1 v0 pc lo (va :: st) h o := by
  subst hp
  exact Sim.pure (fun C H locs ls _ _ hl0 kk => lv_pop C.1 C.2.1 hd hva (kk ls hl0)) k
theorem S_dup_x1 {va vb : Value} (hd : decode cc pc = .ok (.dup_x1, 1)) (hva : va.category = 1) (hvb : vb.category = 1) (hp : pc + 1 = pc')
    (k : Sim Z l cc own nL fr lc rt nm args QQ h0 h1 v0 pc' lo (va :: vb :: va :: st) h o) : Sim Z l cc own nL fr lc rt nm args QQ h0 h1 v0 pc lo (va :: vb :: st) h o := by
  subst hp
  exact Sim.pure (fun C H locs ls _ _ hl0 kk => lv_dup_x1 C.1 C.2.1 hd hva hvb (kk ls hl0)) k
theorem S_dup2 {va vb : Value} (hd : decode cc pc = .ok (.dup2, 1)) (hva : va.category = 1) (hvb : vb.category = 1) (hp : pc + 1 = pc')
    (k : Sim Z l cc own nL fr lc rt nm args QQ h0 h1 v0 pc' lo (va :: vb :: va :: vb :: st) h o) : Sim Z l cc own nL fr lc rt nm args QQ h0 h1 v0 pc lo (va :: vb :: st) h o := by
  subst hp
  exact Sim.pure (fun C H locs ls _ _ hl0 kk => lv_dup2_11 C.1 C.2.1 hd hva hvb (kk ls hl0)) k
theorem S_ldc {index : Nat} {v : Int32} (hd : decode cc pc = .ok (.ldc index, 2)) (hc : Cond.constant own index v ∈ lw_tbl) (hp : pc + 2 = pc')
    (k : Sim Z l cc own nL fr lc rt nm args QQ h0 h1 v0 pc' lo (.int v :: st) h o) : Sim Z l cc own nL fr lc rt nm args QQ h0 h1 v0 pc lo (st) h o := by
  subst hp
  exact Sim.pure (fun C H locs ls _ _ hl0 kk => lv_ldc C.1 C.2.1 C.2.2.2.1 (C.2.2.2.2.1.1.use hc rfl) hd (kk ls hl0)) k
theorem S_ldcw {index : Nat} {v : Int32} (hd : decode cc pc = .ok (.ldc_w index, 3)) (hc : Cond.constant own index v ∈ lw_tbl) (hp : pc + 3 = pc')
    (k : Sim Z l cc own nL fr lc rt nm args QQ h0 h1 v0 pc' lo (.int v :: st) h o) : Sim Z l cc own nL fr lc rt nm args QQ h0 h1 v0 pc lo (st) h o := by
  subst hp
  exact Sim.pure (fun C H locs ls _ _ hl0 kk => lv_ldcw C.1 C.2.1 C.2.2.2.1 (C.2.2.2.2.1.1.use hc rfl) hd (kk ls hl0)) k
theorem S_ldc2 {index : Nat} {v : Int64} (hd : decode cc pc = .ok (.ldc2_w index, 3)) (hc : Cond.constantLong own index v ∈ lw_tbl) (hp : pc + 3 = pc')
    (k : Sim Z l cc own nL fr lc rt nm args QQ h0 h1 v0 pc' lo (.long v :: st) h o) : Sim Z l cc own nL fr lc rt nm args QQ h0 h1 v0 pc lo (st) h o := by
  subst hp
  exact Sim.pure (fun C H locs ls _ _ hl0 kk => lv_ldc2 C.1 C.2.1 C.2.2.2.1 (C.2.2.2.2.1.1.use hc rfl) hd (kk ls hl0)) k
theorem S_ldcS {index : Nat} {tx : String} (i j : Nat) (hj : i % 10 = j) (hd : decode cc pc = .ok (.ldc index, 2)) (hc : litT[i]? = some (own, index, tx)) (hp : pc + 2 = pc')
    (k : Sim Z l cc own nL fr lc rt nm args QQ h0 h1 v0 pc' lo (.ref (zK Z j) :: st) h o) : Sim Z l cc own nL fr lc rt nm args QQ h0 h1 v0 pc lo (st) h o := by
  subst hp
  exact Sim.pure (fun C H locs ls _ _ hl0 kk => va_ldcS C.1 C.2.1 C.2.2.2.1 (by rw [← hj]; exact C.2.2.2.2.1.2.2.2.2.1 i _ hc) hd (kk ls hl0)) k
theorem S_goto  {off : Int} (hd : decode cc pc = .ok (.goto off, 3)) (tgt : Nat) (ht : (pc : Int) + off = (tgt : Int))
    (k : Sim Z l cc own nL fr lc rt nm args QQ h0 h1 v0 tgt lo st h o) : Sim Z l cc own nL fr lc rt nm args QQ h0 h1 v0 pc lo st h o := by
  exact Sim.pure (fun C H locs ls _ _ hl0 kk => lv_goto C.1 C.2.1 hd ht (kk ls hl0)) k
theorem S_if_eq_J {x : Int32} {off : Int} (hd : decode cc pc = .ok (.ifCond .eq off, 3)) (tgt : Nat) (ht : (pc : Int) + off = (tgt : Int)) (hp : pc + 3 = pc') (g : x = 0)
    (kt : Sim Z l cc own nL fr lc rt nm args QQ h0 h1 v0 tgt lo st h o) : Sim Z l cc own nL fr lc rt nm args QQ h0 h1 v0 pc lo (.int x :: st) h o := by
  subst hp
  exact Sim.pure (fun C H locs ls _ _ hl0 kk => lv_if_eq C.1 C.2.1 hd ht (fun _ => kk ls hl0) (fun n => absurd g n)) kt
theorem S_if_eq_N {x : Int32} {off : Int} (hd : decode cc pc = .ok (.ifCond .eq off, 3)) (tgt : Nat) (ht : (pc : Int) + off = (tgt : Int)) (hp : pc + 3 = pc') (g : ¬ x = 0)
    (kf : Sim Z l cc own nL fr lc rt nm args QQ h0 h1 v0 pc' lo st h o) : Sim Z l cc own nL fr lc rt nm args QQ h0 h1 v0 pc lo (.int x :: st) h o := by
  subst hp
  exact Sim.pure (fun C H locs ls _ _ hl0 kk => lv_if_eq C.1 C.2.1 hd ht (fun n => absurd n g) (fun _ => kk ls hl0)) kf
theorem S_if_eq {x : Int32} {off : Int} (hd : decode cc pc = .ok (.ifCond .eq off, 3)) (tgt : Nat) (ht : (pc : Int) + off = (tgt : Int)) (hp : pc + 3 = pc')
    (kt : x = 0 → Sim Z l cc own nL fr lc rt nm args QQ h0 h1 v0 tgt lo st h o1) (kf : ¬ x = 0 → Sim Z l cc own nL fr lc rt nm args QQ h0 h1 v0 pc' lo st h o2) : Sim Z l cc own nL fr lc rt nm args QQ h0 h1 v0 pc lo (.int x :: st) h (if x = 0 then o1 else o2) := by
  by_cases g : x = 0
  · rw [if_pos g]
    exact S_if_eq_J hd tgt ht hp g (kt g)
  · rw [if_neg g]
    exact S_if_eq_N hd tgt ht hp g (kf g)
theorem S_icmp_eq_J {x y : Int32} {off : Int} (hd : decode cc pc = .ok (.if_icmp .eq off, 3)) (tgt : Nat) (ht : (pc : Int) + off = (tgt : Int)) (hp : pc + 3 = pc') (g : x = y)
    (kt : Sim Z l cc own nL fr lc rt nm args QQ h0 h1 v0 tgt lo st h o) : Sim Z l cc own nL fr lc rt nm args QQ h0 h1 v0 pc lo (.int y :: .int x :: st) h o := by
  subst hp
  exact Sim.pure (fun C H locs ls _ _ hl0 kk => lv_icmp_eq C.1 C.2.1 hd ht (fun _ => kk ls hl0) (fun n => absurd g n)) kt
theorem S_icmp_eq_N {x y : Int32} {off : Int} (hd : decode cc pc = .ok (.if_icmp .eq off, 3)) (tgt : Nat) (ht : (pc : Int) + off = (tgt : Int)) (hp : pc + 3 = pc') (g : ¬ x = y)
    (kf : Sim Z l cc own nL fr lc rt nm args QQ h0 h1 v0 pc' lo st h o) : Sim Z l cc own nL fr lc rt nm args QQ h0 h1 v0 pc lo (.int y :: .int x :: st) h o := by
  subst hp
  exact Sim.pure (fun C H locs ls _ _ hl0 kk => lv_icmp_eq C.1 C.2.1 hd ht (fun n => absurd n g) (fun _ => kk ls hl0)) kf
theorem S_icmp_eq {x y : Int32} {off : Int} (hd : decode cc pc = .ok (.if_icmp .eq off, 3)) (tgt : Nat) (ht : (pc : Int) + off = (tgt : Int)) (hp : pc + 3 = pc')
    (kt : x = y → Sim Z l cc own nL fr lc rt nm args QQ h0 h1 v0 tgt lo st h o1) (kf : ¬ x = y → Sim Z l cc own nL fr lc rt nm args QQ h0 h1 v0 pc' lo st h o2) : Sim Z l cc own nL fr lc rt nm args QQ h0 h1 v0 pc lo (.int y :: .int x :: st) h (if x = y then o1 else o2) := by
  by_cases g : x = y
  · rw [if_pos g]
    exact S_icmp_eq_J hd tgt ht hp g (kt g)
  · rw [if_neg g]
    exact S_icmp_eq_N hd tgt ht hp g (kf g)
theorem S_if_ne_J {x : Int32} {off : Int} (hd : decode cc pc = .ok (.ifCond .ne off, 3)) (tgt : Nat) (ht : (pc : Int) + off = (tgt : Int)) (hp : pc + 3 = pc') (g : ¬ x = 0)
    (kt : Sim Z l cc own nL fr lc rt nm args QQ h0 h1 v0 tgt lo st h o) : Sim Z l cc own nL fr lc rt nm args QQ h0 h1 v0 pc lo (.int x :: st) h o := by
  subst hp
  exact Sim.pure (fun C H locs ls _ _ hl0 kk => lv_if_ne C.1 C.2.1 hd ht (fun _ => kk ls hl0) (fun n => absurd n g)) kt
theorem S_if_ne_N {x : Int32} {off : Int} (hd : decode cc pc = .ok (.ifCond .ne off, 3)) (tgt : Nat) (ht : (pc : Int) + off = (tgt : Int)) (hp : pc + 3 = pc') (g : x = 0)
    (kf : Sim Z l cc own nL fr lc rt nm args QQ h0 h1 v0 pc' lo st h o) : Sim Z l cc own nL fr lc rt nm args QQ h0 h1 v0 pc lo (.int x :: st) h o := by
  subst hp
  exact Sim.pure (fun C H locs ls _ _ hl0 kk => lv_if_ne C.1 C.2.1 hd ht (fun n => absurd g n) (fun _ => kk ls hl0)) kf
theorem S_if_ne {x : Int32} {off : Int} (hd : decode cc pc = .ok (.ifCond .ne off, 3)) (tgt : Nat) (ht : (pc : Int) + off = (tgt : Int)) (hp : pc + 3 = pc')
    (kt : ¬ x = 0 → Sim Z l cc own nL fr lc rt nm args QQ h0 h1 v0 tgt lo st h o1) (kf : x = 0 → Sim Z l cc own nL fr lc rt nm args QQ h0 h1 v0 pc' lo st h o2) : Sim Z l cc own nL fr lc rt nm args QQ h0 h1 v0 pc lo (.int x :: st) h (if x = 0 then o2 else o1) := by
  by_cases g : x = 0
  · rw [if_pos g]
    exact S_if_ne_N hd tgt ht hp g (kf g)
  · rw [if_neg g]
    exact S_if_ne_J hd tgt ht hp g (kt g)
theorem S_icmp_ne_J {x y : Int32} {off : Int} (hd : decode cc pc = .ok (.if_icmp .ne off, 3)) (tgt : Nat) (ht : (pc : Int) + off = (tgt : Int)) (hp : pc + 3 = pc') (g : ¬ x = y)
    (kt : Sim Z l cc own nL fr lc rt nm args QQ h0 h1 v0 tgt lo st h o) : Sim Z l cc own nL fr lc rt nm args QQ h0 h1 v0 pc lo (.int y :: .int x :: st) h o := by
  subst hp
  exact Sim.pure (fun C H locs ls _ _ hl0 kk => lv_icmp_ne C.1 C.2.1 hd ht (fun _ => kk ls hl0) (fun n => absurd n g)) kt
theorem S_icmp_ne_N {x y : Int32} {off : Int} (hd : decode cc pc = .ok (.if_icmp .ne off, 3)) (tgt : Nat) (ht : (pc : Int) + off = (tgt : Int)) (hp : pc + 3 = pc') (g : x = y)
    (kf : Sim Z l cc own nL fr lc rt nm args QQ h0 h1 v0 pc' lo st h o) : Sim Z l cc own nL fr lc rt nm args QQ h0 h1 v0 pc lo (.int y :: .int x :: st) h o := by
  subst hp
  exact Sim.pure (fun C H locs ls _ _ hl0 kk => lv_icmp_ne C.1 C.2.1 hd ht (fun n => absurd g n) (fun _ => kk ls hl0)) kf
theorem S_icmp_ne {x y : Int32} {off : Int} (hd : decode cc pc = .ok (.if_icmp .ne off, 3)) (tgt : Nat) (ht : (pc : Int) + off = (tgt : Int)) (hp : pc + 3 = pc')
    (kt : ¬ x = y → Sim Z l cc own nL fr lc rt nm args QQ h0 h1 v0 tgt lo st h o1) (kf : x = y → Sim Z l cc own nL fr lc rt nm args QQ h0 h1 v0 pc' lo st h o2) : Sim Z l cc own nL fr lc rt nm args QQ h0 h1 v0 pc lo (.int y :: .int x :: st) h (if x = y then o2 else o1) := by
  by_cases g : x = y
  · rw [if_pos g]
    exact S_icmp_ne_N hd tgt ht hp g (kf g)
  · rw [if_neg g]
    exact S_icmp_ne_J hd tgt ht hp g (kt g)
theorem S_if_lt_J {x : Int32} {off : Int} (hd : decode cc pc = .ok (.ifCond .lt off, 3)) (tgt : Nat) (ht : (pc : Int) + off = (tgt : Int)) (hp : pc + 3 = pc') (g : x < 0)
    (kt : Sim Z l cc own nL fr lc rt nm args QQ h0 h1 v0 tgt lo st h o) : Sim Z l cc own nL fr lc rt nm args QQ h0 h1 v0 pc lo (.int x :: st) h o := by
  subst hp
  exact Sim.pure (fun C H locs ls _ _ hl0 kk => lv_if_lt C.1 C.2.1 hd ht (fun _ => kk ls hl0) (fun n => absurd g n)) kt
theorem S_if_lt_N {x : Int32} {off : Int} (hd : decode cc pc = .ok (.ifCond .lt off, 3)) (tgt : Nat) (ht : (pc : Int) + off = (tgt : Int)) (hp : pc + 3 = pc') (g : ¬ x < 0)
    (kf : Sim Z l cc own nL fr lc rt nm args QQ h0 h1 v0 pc' lo st h o) : Sim Z l cc own nL fr lc rt nm args QQ h0 h1 v0 pc lo (.int x :: st) h o := by
  subst hp
  exact Sim.pure (fun C H locs ls _ _ hl0 kk => lv_if_lt C.1 C.2.1 hd ht (fun n => absurd n g) (fun _ => kk ls hl0)) kf
theorem S_if_lt {x : Int32} {off : Int} (hd : decode cc pc = .ok (.ifCond .lt off, 3)) (tgt : Nat) (ht : (pc : Int) + off = (tgt : Int)) (hp : pc + 3 = pc')
    (kt : x < 0 → Sim Z l cc own nL fr lc rt nm args QQ h0 h1 v0 tgt lo st h o1) (kf : ¬ x < 0 → Sim Z l cc own nL fr lc rt nm args QQ h0 h1 v0 pc' lo st h o2) : Sim Z l cc own nL fr lc rt nm args QQ h0 h1 v0 pc lo (.int x :: st) h (if x < 0 then o1 else o2) := by
  by_cases g : x < 0
  · rw [if_pos g]
    exact S_if_lt_J hd tgt ht hp g (kt g)
  · rw [if_neg g]
    exact S_if_lt_N hd tgt ht hp g (kf g)
theorem S_icmp_lt_J {x y : Int32} {off : Int} (hd : decode cc pc = .ok (.if_icmp .lt off, 3)) (tgt : Nat) (ht : (pc : Int) + off = (tgt : Int)) (hp : pc + 3 = pc') (g : x < y)
    (kt : Sim Z l cc own nL fr lc rt nm args QQ h0 h1 v0 tgt lo st h o) : Sim Z l cc own nL fr lc rt nm args QQ h0 h1 v0 pc lo (.int y :: .int x :: st) h o := by
  subst hp
  exact Sim.pure (fun C H locs ls _ _ hl0 kk => lv_icmp_lt C.1 C.2.1 hd ht (fun _ => kk ls hl0) (fun n => absurd g n)) kt
theorem S_icmp_lt_N {x y : Int32} {off : Int} (hd : decode cc pc = .ok (.if_icmp .lt off, 3)) (tgt : Nat) (ht : (pc : Int) + off = (tgt : Int)) (hp : pc + 3 = pc') (g : ¬ x < y)
    (kf : Sim Z l cc own nL fr lc rt nm args QQ h0 h1 v0 pc' lo st h o) : Sim Z l cc own nL fr lc rt nm args QQ h0 h1 v0 pc lo (.int y :: .int x :: st) h o := by
  subst hp
  exact Sim.pure (fun C H locs ls _ _ hl0 kk => lv_icmp_lt C.1 C.2.1 hd ht (fun n => absurd n g) (fun _ => kk ls hl0)) kf
theorem S_icmp_lt {x y : Int32} {off : Int} (hd : decode cc pc = .ok (.if_icmp .lt off, 3)) (tgt : Nat) (ht : (pc : Int) + off = (tgt : Int)) (hp : pc + 3 = pc')
    (kt : x < y → Sim Z l cc own nL fr lc rt nm args QQ h0 h1 v0 tgt lo st h o1) (kf : ¬ x < y → Sim Z l cc own nL fr lc rt nm args QQ h0 h1 v0 pc' lo st h o2) : Sim Z l cc own nL fr lc rt nm args QQ h0 h1 v0 pc lo (.int y :: .int x :: st) h (if x < y then o1 else o2) := by
  by_cases g : x < y
  · rw [if_pos g]
    exact S_icmp_lt_J hd tgt ht hp g (kt g)
  · rw [if_neg g]
    exact S_icmp_lt_N hd tgt ht hp g (kf g)
theorem S_if_ge_J {x : Int32} {off : Int} (hd : decode cc pc = .ok (.ifCond .ge off, 3)) (tgt : Nat) (ht : (pc : Int) + off = (tgt : Int)) (hp : pc + 3 = pc') (g : 0 ≤ x)
    (kt : Sim Z l cc own nL fr lc rt nm args QQ h0 h1 v0 tgt lo st h o) : Sim Z l cc own nL fr lc rt nm args QQ h0 h1 v0 pc lo (.int x :: st) h o := by
  subst hp
  exact Sim.pure (fun C H locs ls _ _ hl0 kk => lv_if_ge C.1 C.2.1 hd ht (fun _ => kk ls hl0) (fun n => absurd g n)) kt
theorem S_if_ge_N {x : Int32} {off : Int} (hd : decode cc pc = .ok (.ifCond .ge off, 3)) (tgt : Nat) (ht : (pc : Int) + off = (tgt : Int)) (hp : pc + 3 = pc') (g : ¬ 0 ≤ x)
    (kf : Sim Z l cc own nL fr lc rt nm args QQ h0 h1 v0 pc' lo st h o) : Sim Z l cc own nL fr lc rt nm args QQ h0 h1 v0 pc lo (.int x :: st) h o := by
  subst hp
  exact Sim.pure (fun C H locs ls _ _ hl0 kk => lv_if_ge C.1 C.2.1 hd ht (fun n => absurd n g) (fun _ => kk ls hl0)) kf
theorem S_if_ge {x : Int32} {off : Int} (hd : decode cc pc = .ok (.ifCond .ge off, 3)) (tgt : Nat) (ht : (pc : Int) + off = (tgt : Int)) (hp : pc + 3 = pc')
    (kt : 0 ≤ x → Sim Z l cc own nL fr lc rt nm args QQ h0 h1 v0 tgt lo st h o1) (kf : ¬ 0 ≤ x → Sim Z l cc own nL fr lc rt nm args QQ h0 h1 v0 pc' lo st h o2) : Sim Z l cc own nL fr lc rt nm args QQ h0 h1 v0 pc lo (.int x :: st) h (if 0 ≤ x then o1 else o2) := by
  by_cases g : 0 ≤ x
  · rw [if_pos g]
    exact S_if_ge_J hd tgt ht hp g (kt g)
  · rw [if_neg g]
    exact S_if_ge_N hd tgt ht hp g (kf g)
theorem S_icmp_ge_J {x y : Int32} {off : Int} (hd : decode cc pc = .ok (.if_icmp .ge off, 3)) (tgt : Nat) (ht : (pc : Int) + off = (tgt : Int)) (hp : pc + 3 = pc') (g : y ≤ x)
    (kt : Sim Z l cc own nL fr lc rt nm args QQ h0 h1 v0 tgt lo st h o) : Sim Z l cc own nL fr lc rt nm args QQ h0 h1 v0 pc lo (.int y :: .int x :: st) h o := by
  subst hp
  exact Sim.pure (fun C H locs ls _ _ hl0 kk => lv_icmp_ge C.1 C.2.1 hd ht (fun _ => kk ls hl0) (fun n => absurd g n)) kt
theorem S_icmp_ge_N {x y : Int32} {off : Int} (hd : decode cc pc = .ok (.if_icmp .ge off, 3)) (tgt : Nat) (ht : (pc : Int) + off = (tgt : Int)) (hp : pc + 3 = pc') (g : ¬ y ≤ x)
    (kf : Sim Z l cc own nL fr lc rt nm args QQ h0 h1 v0 pc' lo st h o) : Sim Z l cc own nL fr lc rt nm args QQ h0 h1 v0 pc lo (.int y :: .int x :: st) h o := by
  subst hp
  exact Sim.pure (fun C H locs ls _ _ hl0 kk => lv_icmp_ge C.1 C.2.1 hd ht (fun n => absurd n g) (fun _ => kk ls hl0)) kf
theorem S_icmp_ge {x y : Int32} {off : Int} (hd : decode cc pc = .ok (.if_icmp .ge off, 3)) (tgt : Nat) (ht : (pc : Int) + off = (tgt : Int)) (hp : pc + 3 = pc')
    (kt : y ≤ x → Sim Z l cc own nL fr lc rt nm args QQ h0 h1 v0 tgt lo st h o1) (kf : ¬ y ≤ x → Sim Z l cc own nL fr lc rt nm args QQ h0 h1 v0 pc' lo st h o2) : Sim Z l cc own nL fr lc rt nm args QQ h0 h1 v0 pc lo (.int y :: .int x :: st) h (if y ≤ x then o1 else o2) := by
  by_cases g : y ≤ x
  · rw [if_pos g]
    exact S_icmp_ge_J hd tgt ht hp g (kt g)
  · rw [if_neg g]
    exact S_icmp_ge_N hd tgt ht hp g (kf g)
theorem S_if_gt_J {x : Int32} {off : Int} (hd : decode cc pc = .ok (.ifCond .gt off, 3)) (tgt : Nat) (ht : (pc : Int) + off = (tgt : Int)) (hp : pc + 3 = pc') (g : 0 < x)
    (kt : Sim Z l cc own nL fr lc rt nm args QQ h0 h1 v0 tgt lo st h o) : Sim Z l cc own nL fr lc rt nm args QQ h0 h1 v0 pc lo (.int x :: st) h o := by
  subst hp
  exact Sim.pure (fun C H locs ls _ _ hl0 kk => lv_if_gt C.1 C.2.1 hd ht (fun _ => kk ls hl0) (fun n => absurd g n)) kt
theorem S_if_gt_N {x : Int32} {off : Int} (hd : decode cc pc = .ok (.ifCond .gt off, 3)) (tgt : Nat) (ht : (pc : Int) + off = (tgt : Int)) (hp : pc + 3 = pc') (g : ¬ 0 < x)
    (kf : Sim Z l cc own nL fr lc rt nm args QQ h0 h1 v0 pc' lo st h o) : Sim Z l cc own nL fr lc rt nm args QQ h0 h1 v0 pc lo (.int x :: st) h o := by
  subst hp
  exact Sim.pure (fun C H locs ls _ _ hl0 kk => lv_if_gt C.1 C.2.1 hd ht (fun n => absurd n g) (fun _ => kk ls hl0)) kf
theorem S_if_gt {x : Int32} {off : Int} (hd : decode cc pc = .ok (.ifCond .gt off, 3)) (tgt : Nat) (ht : (pc : Int) + off = (tgt : Int)) (hp : pc + 3 = pc')
    (kt : 0 < x → Sim Z l cc own nL fr lc rt nm args QQ h0 h1 v0 tgt lo st h o1) (kf : ¬ 0 < x → Sim Z l cc own nL fr lc rt nm args QQ h0 h1 v0 pc' lo st h o2) : Sim Z l cc own nL fr lc rt nm args QQ h0 h1 v0 pc lo (.int x :: st) h (if 0 < x then o1 else o2) := by
  by_cases g : 0 < x
  · rw [if_pos g]
    exact S_if_gt_J hd tgt ht hp g (kt g)
  · rw [if_neg g]
    exact S_if_gt_N hd tgt ht hp g (kf g)
theorem S_icmp_gt_J {x y : Int32} {off : Int} (hd : decode cc pc = .ok (.if_icmp .gt off, 3)) (tgt : Nat) (ht : (pc : Int) + off = (tgt : Int)) (hp : pc + 3 = pc') (g : y < x)
    (kt : Sim Z l cc own nL fr lc rt nm args QQ h0 h1 v0 tgt lo st h o) : Sim Z l cc own nL fr lc rt nm args QQ h0 h1 v0 pc lo (.int y :: .int x :: st) h o := by
  subst hp
  exact Sim.pure (fun C H locs ls _ _ hl0 kk => lv_icmp_gt C.1 C.2.1 hd ht (fun _ => kk ls hl0) (fun n => absurd g n)) kt
theorem S_icmp_gt_N {x y : Int32} {off : Int} (hd : decode cc pc = .ok (.if_icmp .gt off, 3)) (tgt : Nat) (ht : (pc : Int) + off = (tgt : Int)) (hp : pc + 3 = pc') (g : ¬ y < x)
    (kf : Sim Z l cc own nL fr lc rt nm args QQ h0 h1 v0 pc' lo st h o) : Sim Z l cc own nL fr lc rt nm args QQ h0 h1 v0 pc lo (.int y :: .int x :: st) h o := by
  subst hp
  exact Sim.pure (fun C H locs ls _ _ hl0 kk => lv_icmp_gt C.1 C.2.1 hd ht (fun n => absurd n g) (fun _ => kk ls hl0)) kf
theorem S_icmp_gt {x y : Int32} {off : Int} (hd : decode cc pc = .ok (.if_icmp .gt off, 3)) (tgt : Nat) (ht : (pc : Int) + off = (tgt : Int)) (hp : pc + 3 = pc')
    (kt : y < x → Sim Z l cc own nL fr lc rt nm args QQ h0 h1 v0 tgt lo st h o1) (kf : ¬ y < x → Sim Z l cc own nL fr lc rt nm args QQ h0 h1 v0 pc' lo st h o2) : Sim Z l cc own nL fr lc rt nm args QQ h0 h1 v0 pc lo (.int y :: .int x :: st) h (if y < x then o1 else o2) := by
  by_cases g : y < x
  · rw [if_pos g]
    exact S_icmp_gt_J hd tgt ht hp g (kt g)
  · rw [if_neg g]
    exact S_icmp_gt_N hd tgt ht hp g (kf g)
theorem S_if_le_J {x : Int32} {off : Int} (hd : decode cc pc = .ok (.ifCond .le off, 3)) (tgt : Nat) (ht : (pc : Int) + off = (tgt : Int)) (hp : pc + 3 = pc') (g : x ≤ 0)
    (kt : Sim Z l cc own nL fr lc rt nm args QQ h0 h1 v0 tgt lo st h o) : Sim Z l cc own nL fr lc rt nm args QQ h0 h1 v0 pc lo (.int x :: st) h o := by
  subst hp
  exact Sim.pure (fun C H locs ls _ _ hl0 kk => lv_if_le C.1 C.2.1 hd ht (fun _ => kk ls hl0) (fun n => absurd g n)) kt
theorem S_if_le_N {x : Int32} {off : Int} (hd : decode cc pc = .ok (.ifCond .le off, 3)) (tgt : Nat) (ht : (pc : Int) + off = (tgt : Int)) (hp : pc + 3 = pc') (g : ¬ x ≤ 0)
    (kf : Sim Z l cc own nL fr lc rt nm args QQ h0 h1 v0 pc' lo st h o) : Sim Z l cc own nL fr lc rt nm args QQ h0 h1 v0 pc lo (.int x :: st) h o := by
  subst hp
  exact Sim.pure (fun C H locs ls _ _ hl0 kk => lv_if_le C.1 C.2.1 hd ht (fun n => absurd n g) (fun _ => kk ls hl0)) kf
theorem S_if_le {x : Int32} {off : Int} (hd : decode cc pc = .ok (.ifCond .le off, 3)) (tgt : Nat) (ht : (pc : Int) + off = (tgt : Int)) (hp : pc + 3 = pc')
    (kt : x ≤ 0 → Sim Z l cc own nL fr lc rt nm args QQ h0 h1 v0 tgt lo st h o1) (kf : ¬ x ≤ 0 → Sim Z l cc own nL fr lc rt nm args QQ h0 h1 v0 pc' lo st h o2) : Sim Z l cc own nL fr lc rt nm args QQ h0 h1 v0 pc lo (.int x :: st) h (if x ≤ 0 then o1 else o2) := by
  by_cases g : x ≤ 0
  · rw [if_pos g]
    exact S_if_le_J hd tgt ht hp g (kt g)
  · rw [if_neg g]
    exact S_if_le_N hd tgt ht hp g (kf g)
theorem S_icmp_le_J {x y : Int32} {off : Int} (hd : decode cc pc = .ok (.if_icmp .le off, 3)) (tgt : Nat) (ht : (pc : Int) + off = (tgt : Int)) (hp : pc + 3 = pc') (g : x ≤ y)
    (kt : Sim Z l cc own nL fr lc rt nm args QQ h0 h1 v0 tgt lo st h o) : Sim Z l cc own nL fr lc rt nm args QQ h0 h1 v0 pc lo (.int y :: .int x :: st) h o := by
  subst hp
  exact Sim.pure (fun C H locs ls _ _ hl0 kk => lv_icmp_le C.1 C.2.1 hd ht (fun _ => kk ls hl0) (fun n => absurd g n)) kt
theorem S_icmp_le_N {x y : Int32} {off : Int} (hd : decode cc pc = .ok (.if_icmp .le off, 3)) (tgt : Nat) (ht : (pc : Int) + off = (tgt : Int)) (hp : pc + 3 = pc') (g : ¬ x ≤ y)
    (kf : Sim Z l cc own nL fr lc rt nm args QQ h0 h1 v0 pc' lo st h o) : Sim Z l cc own nL fr lc rt nm args QQ h0 h1 v0 pc lo (.int y :: .int x :: st) h o := by
  subst hp
  exact Sim.pure (fun C H locs ls _ _ hl0 kk => lv_icmp_le C.1 C.2.1 hd ht (fun n => absurd n g) (fun _ => kk ls hl0)) kf
theorem S_icmp_le {x y : Int32} {off : Int} (hd : decode cc pc = .ok (.if_icmp .le off, 3)) (tgt : Nat) (ht : (pc : Int) + off = (tgt : Int)) (hp : pc + 3 = pc')
    (kt : x ≤ y → Sim Z l cc own nL fr lc rt nm args QQ h0 h1 v0 tgt lo st h o1) (kf : ¬ x ≤ y → Sim Z l cc own nL fr lc rt nm args QQ h0 h1 v0 pc' lo st h o2) : Sim Z l cc own nL fr lc rt nm args QQ h0 h1 v0 pc lo (.int y :: .int x :: st) h (if x ≤ y then o1 else o2) := by
  by_cases g : x ≤ y
  · rw [if_pos g]
    exact S_icmp_le_J hd tgt ht hp g (kt g)
  · rw [if_neg g]
    exact S_icmp_le_N hd tgt ht hp g (kf g)
theorem Sim.ite {g : Prop} [Decidable g] (kt : g → Sim Z l cc own nL fr lc rt nm args QQ h0 h1 v0 pc lo st h o1) (kf : ¬ g → Sim Z l cc own nL fr lc rt nm args QQ h0 h1 v0 pc lo st h o2) : Sim Z l cc own nL fr lc rt nm args QQ h0 h1 v0 pc lo st h (if g then o1 else o2) := by
  by_cases q : g
  · rw [if_pos q]
    exact kt q
  · rw [if_neg q]
    exact kf q
theorem S_tabIn {dflt lo' hi : Int} {offs : Array Int} {len : Nat} {x v : Int32} (hd : decode cc pc = .ok (.tableswitch dflt lo' hi offs, len)) (g : x = v) (n : Nat) (hv : v.toInt = lo' + n) (hn : ¬ hi < lo' + n) {off : Int} (ho : offs[n]? = some off) (tgt : Nat) (ht : (pc : Int) + off = (tgt : Int))
    (kt : Sim Z l cc own nL fr lc rt nm args QQ h0 h1 v0 tgt lo st h o) : Sim Z l cc own nL fr lc rt nm args QQ h0 h1 v0 pc lo (.int x :: st) h o := by
  subst g
  have e : (x.toInt - lo').toNat = n := by omega
  exact Sim.pure (fun C H locs ls _ _ hl0 kk => lv_tableIn C.1 C.2.1 hd (by omega) (by omega) (by rw [e]; exact ho) ht (kk ls hl0)) kt
theorem S_tabOut {dflt lo' hi : Int} {offs : Array Int} {len : Nat} {x : Int32} (hd : decode cc pc = .ok (.tableswitch dflt lo' hi offs, len)) (g : x.toInt < lo' ∨ hi < x.toInt) (tgt : Nat) (ht : (pc : Int) + dflt = (tgt : Int))
    (kt : Sim Z l cc own nL fr lc rt nm args QQ h0 h1 v0 tgt lo st h o) : Sim Z l cc own nL fr lc rt nm args QQ h0 h1 v0 pc lo (.int x :: st) h o :=
  Sim.pure (fun C H locs ls _ _ hl0 kk => lv_tableOut C.1 C.2.1 hd g ht (kk ls hl0)) kt
theorem i32_ne {x v : Int32} (g : ¬ x = v) : x.toInt ≠ v.toInt := fun e => g (Int32.toInt_inj.mp e)
theorem S_idiv  {x y : Int32} (hd : decode cc pc = .ok (.idiv, 1)) (hp : pc + 1 = pc')
    (k : Sim Z l cc own nL fr lc rt nm args QQ h0 h1 v0 pc' lo (.int (x / y) :: st) h o) : Sim Z l cc own nL fr lc rt nm args QQ h0 h1 v0 pc lo (.int y :: .int x :: st) h ((dz y).bind fun _ => o) := by
  subst hp
  intro ho
  unfold dz at ho
  by_cases g : y = 0
  · rw [if_pos g] at ho
    cases ho
  · rw [if_neg g] at ho
    exact Sim.pure (fun C H locs ls _ _ hl0 kk => lv_idiv C.1 C.2.1 hd g (kk ls hl0)) k ho
theorem S_irem  {x y : Int32} (hd : decode cc pc = .ok (.irem, 1)) (hp : pc + 1 = pc')
    (k : Sim Z l cc own nL fr lc rt nm args QQ h0 h1 v0 pc' lo (.int (x - x / y * y) :: st) h o) : Sim Z l cc own nL fr lc rt nm args QQ h0 h1 v0 pc lo (.int y :: .int x :: st) h ((dz y).bind fun _ => o) := by
  subst hp
  intro ho
  unfold dz at ho
  by_cases g : y = 0
  · rw [if_pos g] at ho
    cases ho
  · rw [if_neg g] at ho
    exact Sim.pure (fun C H locs ls _ _ hl0 kk => lv_irem C.1 C.2.1 hd g (kk ls hl0)) k ho
theorem fl_get (C : Cx p R s m meth c Z cc own nL fr lc rt nm h0 h1) {idx ci k : Nat} {t : FieldType} {fin ne : Bool} (fl : FL own idx ci k t fin ne) (hd : decode cc pc = .ok (.getfield idx, 3)) {a : Nat} (g : oC ci h a = true) {H : Heap} {locs : List Loc} {ls : Array Slot} {cells slots : Nat} (hP : Rl Z h H)
    (kk : W p l e R s m args below meth c H locs cells slots Q (F0 m (pc + 3) ls (fvl Z h a ci k :: st))) : W p l e R s m args below meth c H locs cells slots Q (F0 m pc ls (.ref (zb Z + a) :: st)) := by
  obtain ⟨ga, gt⟩ := oC_spec g
  obtain ⟨C', T, ty, N, f1, f2, rfl, f4, f5, f6, f7, f8, f9, f10, hlk⟩ := fl
  have he := wsO_get Z h ga
  rw [ent_obj gt f2] at he
  have EW := C.2.2.2.2.1.1
  have hv := fs_get (Z := Z) (h := h) (a := a) f4
  rcases hlk with ⟨hne, hlk⟩ | ⟨hne, host, hlk⟩
  · exact va_get (Ts := u_ws C' T (nfl ci)) C.1 C.2.1 (fun w hw => EW.use (f5 w hw) (u_good w hw)) (fun _ h => h) C.2.2.2.1 C.2.2.2.2.1.2.1 hP.1 a he f1 k f4 (EW.use hlk rfl) (fun _ h => h) hv hd kk
  · exact va_getN (Ts := u_ws C' T (nfl ci)) C.1 C.2.1 (fun w hw => EW.use (f5 w hw) (u_good w hw)) (fun _ h => h) C.2.2.2.1 C.2.2.2.2.1.2.1 hP.1 a he f1 k f4 (EW.nest hlk rfl) (fun _ h => h) hv hd kk
theorem S_getI  {idx ci k : Nat} {t : FieldType} {fin ne : Bool} (fl : FL own idx ci k t fin ne) (hk : isrf ci k = false) (hd : decode cc pc = .ok (.getfield idx, 3)) (hp : pc + 3 = pc') {a : Nat} {f : Int32 → Option (ρ × HP)}
    (kk : ∀ x, Sim Z l cc own nL fr lc rt nm args QQ h0 h1 v0 pc' lo (.int x :: st) h (f x)) : Sim Z l cc own nL fr lc rt nm args QQ h0 h1 v0 pc lo (.ref (zb Z + a) :: st) h ((gI ci k a h).bind f) := by
  subst hp
  intro ho
  unfold gI at ho
  by_cases g : oC ci h a = true
  · rw [if_pos g] at ho
    obtain ⟨m1, w1⟩ := kk _ ho
    refine ⟨m1, fun C a1 H locs ls hP hS hl => fl_get C fl hd g hP ?_⟩
    rw [fvl_int hk]
    exact w1 C a1 H locs ls hP hS hl
  · rw [if_neg g] at ho
    cases ho
theorem S_getR  {idx ci k : Nat} {t : FieldType} {fin ne : Bool} (fl : FL own idx ci k t fin ne) (hk : isrf ci k = true) (hd : decode cc pc = .ok (.getfield idx, 3)) (hp : pc + 3 = pc') {a : Nat} {f : Nat → Option (ρ × HP)}
    (kk : ∀ x, Sim Z l cc own nL fr lc rt nm args QQ h0 h1 v0 pc' lo (.ref (zb Z + x) :: st) h (f x)) : Sim Z l cc own nL fr lc rt nm args QQ h0 h1 v0 pc lo (.ref (zb Z + a) :: st) h ((gR ci k a h).bind f) := by
  subst hp
  intro ho
  unfold gR at ho
  by_cases g : oC ci h a = true
  · rw [if_pos g] at ho
    obtain ⟨x, hx, ho⟩ := Option.bind_eq_some_iff.mp ho
    obtain ⟨m1, w1⟩ := kk _ ho
    refine ⟨m1, fun C a1 H locs ls hP hS hl => fl_get C fl hd g hP ?_⟩
    rw [fvl_ref hk, hx]
    exact w1 C a1 H locs ls hP hS hl
  · rw [if_neg g] at ho
    cases ho
/-- a field that may be null, and the test of it behind -/
theorem S_getN  {idx ci k : Nat} {t : FieldType} {fin ne : Bool} (fl : FL own idx ci k t fin ne) (hk : isrf ci k = true) (hd : decode cc pc = .ok (.getfield idx, 3)) (hp : pc + 3 = pc') {off : Int} (hd2 : decode cc pc' = .ok (.ifnonnull off, 3)) (tgt : Nat) (ht : (pc' : Int) + off = (tgt : Int)) {pc2 : Nat} (hp2 : pc' + 3 = pc2) {a : Nat}
    (kn : Sim Z l cc own nL fr lc rt nm args QQ h0 h1 v0 pc2 lo st h o1) (kk : Sim Z l cc own nL fr lc rt nm args QQ h0 h1 v0 tgt lo st h o2) : Sim Z l cc own nL fr lc rt nm args QQ h0 h1 v0 pc lo (.ref (zb Z + a) :: st) h ((gN ci k a h).bind fun q => if q.isNone = true then o1 else o2) := by
  subst hp
  subst hp2
  intro ho
  unfold gN at ho
  by_cases g : oC ci h a = true
  · rw [if_pos g] at ho
    replace ho : (if (hR h a k).isNone = true then o1 else o2) = some (v0, h1) := ho
    cases hx : hR h a k with
    | none =>
      rw [hx] at ho
      obtain ⟨m1, w1⟩ := kn ho
      refine ⟨m1, fun C a1 H locs ls hP hS hl => fl_get C fl hd g hP ?_⟩
      rw [fvl_ref hk, hx]
      exact lv_ifnonnullN C.1 C.2.1 hd2 (w1 C a1 H locs ls hP hS hl)
    | some x =>
      rw [hx] at ho
      obtain ⟨m1, w1⟩ := kk ho
      refine ⟨m1, fun C a1 H locs ls hP hS hl => fl_get C fl hd g hP ?_⟩
      rw [fvl_ref hk, hx]
      exact lv_ifnonnull C.1 C.2.1 hd2 ht (w1 C a1 H locs ls hP hS hl)
  · rw [if_neg g] at ho
    cases ho
theorem fl_put (C : Cx p R s m meth c Z cc own nL fr lc rt nm h0 h1) {idx ci k : Nat} {t : FieldType} {fin ne : Bool} (fl : FL own idx ci k t fin ne) (hin : fin = true → meth.name = "<init>" ∧ ne = false ∧ ∃ T N, vwCl[ci]? = some (own, T, N)) (hd : decode cc pc = .ok (.putfield idx, 3)) {a : Nat} (g : oC ci h a = true) {v : Value} (hn : narrow t v = v) (hfit : fits t v = true) {H : Heap} {locs : List Loc} {ls : Array Slot} {cells slots : Nat} (hP : Rl Z h H) (hS : va_S (zA Z) s.heap H locs) {h2 : HP} (hN2 : hN h2 = hN h) (he1 : ent Z h2 a = .inr (ci, ((List.range (nfl ci)).map (fvl Z h a ci)).set k v)) (he2 : ∀ j, j ≠ a → ent Z h2 j = ent Z h j)
    (kk : ∀ (H1 : Heap) (locs1 : List Loc), va_P (zD Z) vwCl (wsO Z h2) H1 → va_S (zA Z) s.heap H1 locs1 → W p l e R s m args below meth c H1 locs1 cells slots Q (F0 m (pc + 3) ls st)) : W p l e R s m args below meth c H locs cells slots Q (F0 m pc ls (v :: .ref (zb Z + a) :: st)) := by
  obtain ⟨ga, gt⟩ := oC_spec g
  obtain ⟨C', T, ty, N, f1, f2, rfl, f4, f5, f6, f7, f8, f9, f10, hlk⟩ := fl
  have he := wsO_get Z h ga
  rw [ent_obj gt f2] at he
  have EW := C.2.2.2.2.1.1
  have hD := wsO_D Z h
  have hl9 : k < ((List.range (nfl ci)).map (fvl Z h a ci)).length := by simpa using f4
  have k2 : ∀ (H1 : Heap) (locs1 : List Loc), va_P (zD Z) vwCl ((wsO Z h).set a (zb Z + a, .inr (ci, ((List.range (nfl ci)).map (fvl Z h a ci)).set k v))) H1 → va_D (zA Z) ((wsO Z h).set a (zb Z + a, .inr (ci, ((List.range (nfl ci)).map (fvl Z h a ci)).set k v))) → va_S (zA Z) s.heap H1 locs1 → W p l e R s m args below meth c H1 locs1 cells slots Q (F0 m (pc + 3) ls st) := fun H1 locs1 q1 _ q3 => kk H1 locs1 (by rw [← wsO_set hN2 he1 he2]; exact q1) q3
  cases fin with
  | false =>
    rcases hlk with ⟨hne, hlk⟩ | ⟨hne, host, hlk⟩
    · exact va_put (Ts := u_ws C' T (nfl ci)) C.1 C.2.1 (fun w hw => EW.use (f5 w hw) (u_good w hw)) (fun _ h => h) ty f6 f7 C.2.2.2.1 C.2.2.2.2.1.2.1 hP.1 hD hS a he f1 k f4 (EW.use hlk rfl) (fun _ h => h) f9 f8 hn hfit hl9 hd k2
    · exact va_putN (Ts := u_ws C' T (nfl ci)) C.1 C.2.1 (fun w hw => EW.use (f5 w hw) (u_good w hw)) (fun _ h => h) ty f6 f7 C.2.2.2.1 C.2.2.2.2.1.2.1 hP.1 hD hS a he f1 k f4 (EW.nest hlk rfl) (fun _ h => h) f9 f8 hn hfit hl9 hd k2
  | true =>
    obtain ⟨i1, i3, T2, N2, i2⟩ := hin rfl
    have e2 : own = C' := by
      have := i2.symm.trans f1
      cases this
      rfl
    rcases hlk with ⟨hne, hlk⟩ | ⟨hne, host, hlk⟩
    · exact va_putF (Ts := u_ws C' T (nfl ci)) C.1 C.2.1 (fun w hw => EW.use (f5 w hw) (u_good w hw)) (fun _ h => h) ty f6 f7 C.2.2.2.1 C.2.2.2.2.1.2.1 hP.1 hD hS a he f1 k f4 (EW.use hlk rfl) (fun _ h => h) f9 i1 (f10.trans e2.symm) f8 hn hfit hl9 hd k2
    · rw [i3] at hne
      cases hne
theorem ent_upI {a ci k : Nat} {x : Int32} (g : oC ci h a = true) (h7 : ci < 7) (hk : isrf ci k = false) : ent Z (wI h a (upd (hI h a) k x)) a = .inr (ci, ((List.range (nfl ci)).map (fvl Z h a ci)).set k (.int x)) := by
  obtain ⟨ga, gt⟩ := oC_spec g
  rw [ent_obj (h := wI h a (upd (hI h a) k x)) gt h7]
  have e : hI (wI h a (upd (hI h a) k x)) a = upd (hI h a) k x := upA_s _ _ _
  rw [fs_set (h' := wI h a (upd (hI h a) k x))]
  · rw [fvl_int hk, e]
    exact congrArg Value.int (if_pos rfl)
  · intro j hj
    unfold fvl
    rw [e]
    have : upd (hI h a) k x j = hI h a j := if_neg hj
    rw [this]
    rfl
theorem ent_upR {a ci k v : Nat} (g : oC ci h a = true) (h7 : ci < 7) (hk : isrf ci k = true) : ent Z (wR h a (upA (hR h a) k (some v))) a = .inr (ci, ((List.range (nfl ci)).map (fvl Z h a ci)).set k (.ref (zb Z + v))) := by
  obtain ⟨ga, gt⟩ := oC_spec g
  rw [ent_obj (h := wR h a (upA (hR h a) k (some v))) gt h7]
  have e : hR (wR h a (upA (hR h a) k (some v))) a = upA (hR h a) k (some v) := upA_s _ _ _
  rw [fs_set (h' := wR h a (upA (hR h a) k (some v)))]
  · rw [fvl_ref hk, e, upA_s]
    rfl
  · intro j hj
    unfold fvl
    rw [e, upA_n _ _ hj]
    rfl
theorem S_putI {idx ci k : Nat} {ne : Bool} (fl : FL own idx ci k .int false ne) (h7 : ci < 7) (hk : isrf ci k = false) (hd : decode cc pc = .ok (.putfield idx, 3)) (hp : pc + 3 = pc') {a : Nat} {x : Int32} {f : HP → Option (ρ × HP)}
    (kk : ∀ h2, Sim Z l cc own nL fr lc rt nm args QQ h0 h1 v0 pc' lo st h2 (f h2)) : Sim Z l cc own nL fr lc rt nm args QQ h0 h1 v0 pc lo (.int x :: .ref (zb Z + a) :: st) h ((pI ci k a x h).bind f) := by
  subst hp
  intro ho
  unfold pI at ho
  by_cases g : oC ci h a = true
  · rw [if_pos g] at ho
    exact Sim.wr (h2 := wI h a (upd (hI h a) k x)) rfl rfl (fun C H locs ls hP hS hl kk2 => fl_put (h2 := wI h a (upd (hI h a) k x)) C fl (fun q => by cases q) hd g rfl rfl hP hS rfl (ent_upI g h7 hk) (fun j hj => ent_wI_n hj) (fun H1 locs1 q1 q2 => kk2 H1 locs1 ls q1 q2 hl)) (kk _) ho
  · rw [if_neg g] at ho
    cases ho
theorem S_putZ {idx ci k : Nat} {ne : Bool} (fl : FL own idx ci k .boolean false ne) (h7 : ci < 7) (hk : isrf ci k = false) (hd : decode cc pc = .ok (.putfield idx, 3)) (hp : pc + 3 = pc') {a : Nat} {x : Int32} {f : HP → Option (ρ × HP)}
    (kk : ∀ h2, Sim Z l cc own nL fr lc rt nm args QQ h0 h1 v0 pc' lo st h2 (f h2)) : Sim Z l cc own nL fr lc rt nm args QQ h0 h1 v0 pc lo (.int x :: .ref (zb Z + a) :: st) h ((pZ ci k a x h).bind f) := by
  subst hp
  intro ho
  unfold pZ at ho
  by_cases g : oC ci h a = true ∧ (x = 0 ∨ x = 1)
  · rw [if_pos g] at ho
    have hz : narrow .boolean (.int x) = .int x ∧ fits .boolean (.int x) = true := by
      rcases g.2 with rfl | rfl <;> exact ⟨by decide, by decide⟩
    exact Sim.wr (h2 := wI h a (upd (hI h a) k x)) rfl rfl (fun C H locs ls hP hS hl kk2 => fl_put (h2 := wI h a (upd (hI h a) k x)) C fl (fun q => by cases q) hd g.1 hz.1 hz.2 hP hS rfl (ent_upI g.1 h7 hk) (fun j hj => ent_wI_n hj) (fun H1 locs1 q1 q2 => kk2 H1 locs1 ls q1 q2 hl)) (kk _) ho
  · rw [if_neg g] at ho
    cases ho
theorem S_putR {idx ci k : Nat} {t : FieldType} {fin ne : Bool} (fl : FL own idx ci k t fin ne) (ht : (∃ n, t = .object n) ∨ ∃ n, t = .array n) (hin : fin = true → nm = "<init>" ∧ ne = false ∧ ∃ T N, vwCl[ci]? = some (own, T, N)) (h7 : ci < 7) (hk : isrf ci k = true) (hd : decode cc pc = .ok (.putfield idx, 3)) (hp : pc + 3 = pc') {a v : Nat} {f : HP → Option (ρ × HP)}
    (kk : ∀ h2, Sim Z l cc own nL fr lc rt nm args QQ h0 h1 v0 pc' lo st h2 (f h2)) : Sim Z l cc own nL fr lc rt nm args QQ h0 h1 v0 pc lo (.ref (zb Z + v) :: .ref (zb Z + a) :: st) h ((pR ci k a v h).bind f) := by
  subst hp
  intro ho
  unfold pR at ho
  by_cases g : oC ci h a = true
  · rw [if_pos g] at ho
    have hz : narrow t (.ref (zb Z + v)) = .ref (zb Z + v) ∧ fits t (.ref (zb Z + v)) = true := by
      rcases ht with ⟨n, rfl⟩ | ⟨n, rfl⟩ <;> exact ⟨rfl, rfl⟩
    exact Sim.wr (h2 := wR h a (upA (hR h a) k (some v))) rfl rfl (fun C H locs ls hP hS hl kk2 => fl_put (h2 := wR h a (upA (hR h a) k (some v))) C fl (fun q => ⟨C.2.2.2.2.2.2.2.2.2.trans (hin q).1, (hin q).2⟩) hd g hz.1 hz.2 hP hS rfl (ent_upR g h7 hk) (fun j hj => ent_wR_n hj) (fun H1 locs1 q1 q2 => kk2 H1 locs1 ls q1 q2 hl)) (kk _) ho
  · rw [if_neg g] at ho
    cases ho
theorem S_iaload (hd : decode cc pc = .ok (.iaload, 1)) (hp : pc + 1 = pc') {a : Nat} {i : Int32} {f : Int32 → Option (ρ × HP)}
    (kk : ∀ x, Sim Z l cc own nL fr lc rt nm args QQ h0 h1 v0 pc' lo (.int x :: st) h (f x)) : Sim Z l cc own nL fr lc rt nm args QQ h0 h1 v0 pc lo (.int i :: .ref (zb Z + a) :: st) h ((lI a i h).bind f) := by
  subst hp
  intro ho
  unfold lI at ho
  by_cases g : oC 7 h a = true ∧ vpi i (hS h a).2 = true
  · rw [if_pos g] at ho
    obtain ⟨m1, w1⟩ := kk _ ho
    obtain ⟨ga, gt⟩ := oC_spec g.1
    refine ⟨m1, fun C a1 H locs ls hP hS hl => ?_⟩
    have he := wsO_get Z h ga
    rw [ent_int gt] at he
    exact va_iald C.1 C.2.1 C.2.2.2.2.1.2.1 hP.1 a 0 he rfl (vpi_spec g.2) hd (w1 C a1 H locs ls hP hS hl)
  · rw [if_neg g] at ho
    cases ho
theorem S_laload (hd : decode cc pc = .ok (.laload, 1)) (hp : pc + 1 = pc') {a : Nat} {i : Int32} {f : Int64 → Option (ρ × HP)}
    (kk : ∀ x, Sim Z l cc own nL fr lc rt nm args QQ h0 h1 v0 pc' lo (.long x :: st) h (f x)) : Sim Z l cc own nL fr lc rt nm args QQ h0 h1 v0 pc lo (.int i :: .ref (zb Z + a) :: st) h ((lJ a i h).bind f) := by
  subst hp
  intro ho
  unfold lJ at ho
  by_cases g : oC 8 h a = true ∧ vpi i (hS h a).2 = true
  · rw [if_pos g] at ho
    obtain ⟨m1, w1⟩ := kk _ ho
    obtain ⟨ga, gt⟩ := oC_spec g.1
    refine ⟨m1, fun C a1 H locs ls hP hS hl => ?_⟩
    have he := wsO_get Z h ga
    rw [ent_long gt] at he
    exact va_lald C.1 C.2.1 C.2.2.2.2.1.2.1 hP.1 a 1 he rfl (vpi_spec g.2) hd (w1 C a1 H locs ls hP hS hl)
  · rw [if_neg g] at ho
    cases ho
theorem S_aaloadS (hd : decode cc pc = .ok (.aaload, 1)) (hp : pc + 1 = pc') {a : Nat} {i : Int32} {f : Nat → Option (ρ × HP)}
    (kk : ∀ x, Sim Z l cc own nL fr lc rt nm args QQ h0 h1 v0 pc' lo (.ref (zb Z + x) :: st) h (f x)) : Sim Z l cc own nL fr lc rt nm args QQ h0 h1 v0 pc lo (.int i :: .ref (zb Z + a) :: st) h ((lR 9 a i h).bind f) := by
  subst hp
  intro ho
  unfold lR at ho
  by_cases g : oC 9 h a = true ∧ vpi i (hS h a).2 = true
  · rw [if_pos g] at ho
    obtain ⟨x, hx, ho⟩ := Option.bind_eq_some_iff.mp ho
    obtain ⟨m1, w1⟩ := kk _ ho
    obtain ⟨ga, gt⟩ := oC_spec g.1
    refine ⟨m1, fun C a1 H locs ls hP hS hl => ?_⟩
    have he := wsO_get Z h ga
    rw [ent_shf gt] at he
    refine va_aldq C.1 C.2.1 C.2.2.2.2.1.2.1 hP.1 a 2 he rfl (vpi_spec g.2) hd ?_
    simp only [hx]
    exact w1 C a1 H locs ls hP hS hl
  · rw [if_neg g] at ho
    cases ho
theorem S_iastore (hd : decode cc pc = .ok (.iastore, 1)) (hp : pc + 1 = pc') {a : Nat} {i x : Int32} {f : HP → Option (ρ × HP)}
    (kk : ∀ h2, Sim Z l cc own nL fr lc rt nm args QQ h0 h1 v0 pc' lo st h2 (f h2)) : Sim Z l cc own nL fr lc rt nm args QQ h0 h1 v0 pc lo (.int x :: .int i :: .ref (zb Z + a) :: st) h ((sI a i x h).bind f) := by
  subst hp
  intro ho
  unfold sI at ho
  by_cases g : oC 7 h a = true ∧ vpi i (hS h a).2 = true
  · rw [if_pos g] at ho
    obtain ⟨ga, gt⟩ := oC_spec g.1
    have he := wsO_get Z h ga
    rw [ent_int gt] at he
    have e1 : ent Z (wI h a (upd (hI h a) i.toNatClampNeg x)) a = .inl (zcI Z, (hS h a).2, .inl (upd (hI h a) i.toNatClampNeg x)) := by
      rw [ent_int (h := wI h a (upd (hI h a) i.toNatClampNeg x)) gt]
      have e : hI (wI h a (upd (hI h a) i.toNatClampNeg x)) a = upd (hI h a) i.toNatClampNeg x := upA_s _ _ _
      rw [e]
      rfl
    exact Sim.wr (h2 := wI h a (upd (hI h a) i.toNatClampNeg x)) rfl rfl (fun C H locs ls hP hS hl kk2 => va_iast C.1 C.2.1 C.2.2.2.2.1.2.1 hP.1 (wsO_D Z h) hS a 0 he rfl (vpi_spec g.2) hd (fun H1 locs1 q1 _ q2 => kk2 H1 locs1 ls (by rw [← wsO_set (h := h) (h' := wI h a (upd (hI h a) i.toNatClampNeg x)) rfl e1 (fun j hj => ent_wI_n hj)]; exact q1) q2 hl)) (kk _) ho
  · rw [if_neg g] at ho
    cases ho
theorem S_lastore (hd : decode cc pc = .ok (.lastore, 1)) (hp : pc + 1 = pc') {a : Nat} {i : Int32} {x : Int64} {f : HP → Option (ρ × HP)}
    (kk : ∀ h2, Sim Z l cc own nL fr lc rt nm args QQ h0 h1 v0 pc' lo st h2 (f h2)) : Sim Z l cc own nL fr lc rt nm args QQ h0 h1 v0 pc lo (.long x :: .int i :: .ref (zb Z + a) :: st) h ((sJ a i x h).bind f) := by
  subst hp
  intro ho
  unfold sJ at ho
  by_cases g : oC 8 h a = true ∧ vpi i (hS h a).2 = true
  · rw [if_pos g] at ho
    obtain ⟨ga, gt⟩ := oC_spec g.1
    have he := wsO_get Z h ga
    rw [ent_long gt] at he
    have e1 : ent Z (wJ h a (vp_updL (hJ h a) i.toNatClampNeg x)) a = .inl (zcJ Z, (hS h a).2, .inr (.inl (vp_updL (hJ h a) i.toNatClampNeg x))) := by
      rw [ent_long (h := wJ h a (vp_updL (hJ h a) i.toNatClampNeg x)) gt]
      have e : hJ (wJ h a (vp_updL (hJ h a) i.toNatClampNeg x)) a = vp_updL (hJ h a) i.toNatClampNeg x := upA_s _ _ _
      rw [e]
      rfl
    exact Sim.wr (h2 := wJ h a (vp_updL (hJ h a) i.toNatClampNeg x)) rfl rfl (fun C H locs ls hP hS hl kk2 => va_last C.1 C.2.1 C.2.2.2.2.1.2.1 hP.1 (wsO_D Z h) hS a 1 he rfl (vpi_spec g.2) hd (fun H1 locs1 q1 _ q2 => kk2 H1 locs1 ls (by rw [← wsO_set (h := h) (h' := wJ h a (vp_updL (hJ h a) i.toNatClampNeg x)) rfl e1 (fun j hj => ent_wJ_n hj)]; exact q1) q2 hl)) (kk _) ho
  · rw [if_neg g] at ho
    cases ho
theorem up_map {f : Nat → Option Nat} {j v b : Nat} : (fun i => (upA f j (some v) i).map (b + ·)) = va_up (fun i => (f i).map (b + ·)) j (some (b + v)) := by
  funext i
  unfold va_up upA
  by_cases e : i = j <;> simp [e]
theorem S_aastore (hd : decode cc pc = .ok (.aastore, 1)) (hp : pc + 1 = pc') {a v : Nat} {i : Int32} {f : HP → Option (ρ × HP)}
    (kk : ∀ h2, Sim Z l cc own nL fr lc rt nm args QQ h0 h1 v0 pc' lo st h2 (f h2)) : Sim Z l cc own nL fr lc rt nm args QQ h0 h1 v0 pc lo (.ref (zb Z + v) :: .int i :: .ref (zb Z + a) :: st) h ((sR a i v h).bind f) := by
  subst hp
  intro ho
  unfold sR at ho
  by_cases g : oC 9 h a = true ∧ vpi i (hS h a).2 = true ∧ oC 3 h v = true
  · rw [if_pos g] at ho
    obtain ⟨ga, gt⟩ := oC_spec g.1
    obtain ⟨gb, gu⟩ := oC_spec g.2.2
    have he := wsO_get Z h ga
    rw [ent_shf gt] at he
    have hv := wsO_get Z h gb
    rw [ent_obj gu (by decide)] at hv
    have e1 : ent Z (wR h a (upA (hR h a) i.toNatClampNeg (some v))) a = .inl (zcS Z, (hS h a).2, .inr (.inr (.inr (.inr (va_up (fun i => (hR h a i).map (zb Z + ·)) i.toNatClampNeg (some (zb Z + v))))))) := by
      rw [ent_shf (h := wR h a (upA (hR h a) i.toNatClampNeg (some v))) gt]
      have e : hR (wR h a (upA (hR h a) i.toNatClampNeg (some v))) a = upA (hR h a) i.toNatClampNeg (some v) := upA_s _ _ _
      rw [e, up_map]
      rfl
    exact Sim.wr (h2 := wR h a (upA (hR h a) i.toNatClampNeg (some v))) rfl rfl (fun C H locs ls hP hS hl kk2 => va_astq (r := (RX3, TX3, 3)) C.1 C.2.1 C.2.2.2.2.1.2.1 hP.1 (wsO_D Z h) hS a 2 v 3 he rfl hv rfl (vpi_spec g.2.1) hd (fun H1 locs1 q1 _ q2 => kk2 H1 locs1 ls (by rw [← wsO_set (h := h) (h' := wR h a (upA (hR h a) i.toNatClampNeg (some v))) rfl e1 (fun j hj => ent_wR_n hj)]; exact q1) q2 hl)) (kk _) ho
  · rw [if_neg g] at ho
    cases ho
theorem S_alen (hd : decode cc pc = .ok (.arraylength, 1)) (hp : pc + 1 = pc') {a : Nat} {f : Int32 → Option (ρ × HP)}
    (kk : ∀ x, Sim Z l cc own nL fr lc rt nm args QQ h0 h1 v0 pc' lo (.int x :: st) h (f x)) : Sim Z l cc own nL fr lc rt nm args QQ h0 h1 v0 pc lo (.ref (zb Z + a) :: st) h ((aL a h).bind f) := by
  subst hp
  intro ho
  unfold aL at ho
  by_cases g : oC 7 h a = true
  · rw [if_pos g] at ho
    obtain ⟨m1, w1⟩ := kk _ ho
    obtain ⟨ga, gt⟩ := oC_spec g
    refine ⟨m1, fun C a1 H locs ls hP hS hl => ?_⟩
    have he := wsO_get Z h ga
    rw [ent_int gt] at he
    exact va_alen C.1 C.2.1 C.2.2.2.2.1.2.1 hP.1 a 0 he (ty := .int) rfl rfl hd (w1 C a1 H locs ls hP hS hl)
  · rw [if_neg g] at ho
    cases ho
/-- the script's length, an int of it -/
theorem S_slen (hd : decode cc pc = .ok (.arraylength, 1)) (hp : pc + 1 = pc')
    (kk : Sim Z l cc own nL fr lc rt nm args QQ h0 h1 v0 pc' lo (.int (Int32.ofNat (zL Z)) :: st) h o) : Sim Z l cc own nL fr lc rt nm args QQ h0 h1 v0 pc lo (.ref (zsc Z) :: st) h o := by
  subst hp
  exact Sim.pure (fun C H locs ls _ hS hl0 kk => by
    obtain ⟨x1, x2, x3⟩ := EF.scr C.2.2.2.2.1
    exact va_slen C.1 C.2.1 x1 x3 x2 hS hd (kk ls hl0)) kk
theorem S_sld (hd : decode cc pc = .ok (.iaload, 1)) (hp : pc + 1 = pc') {i : Int32} {f : Int32 → Option (ρ × HP)}
    (kk : ∀ x, Sim Z l cc own nL fr lc rt nm args QQ h0 h1 v0 pc' lo (.int x :: st) h (f x)) : Sim Z l cc own nL fr lc rt nm args QQ h0 h1 v0 pc lo (.int i :: .ref (zsc Z) :: st) h ((lX Z i).bind f) := by
  subst hp
  intro ho
  unfold lX at ho
  by_cases g : vpi i (zL Z) = true
  · rw [if_pos g] at ho
    exact Sim.pure (fun C H locs ls _ hS hl0 kk => by
      obtain ⟨x1, x2, x3⟩ := EF.scr C.2.2.2.2.1
      exact va_sld C.1 C.2.1 x1 x3 x2 hS (vpi_spec g) hd (kk ls hl0)) (kk _) ho
  · rw [if_neg g] at ho
    cases ho
/-- Object's own constructor -/
theorem S_obj {idx a : Nat} (hl : Cond.methodLink own idx objectInit ∈ lw_tbl) (hi : Cond.instanceMethod objectInit ∈ lw_tbl) (hc : Cond.code objectInit ⟨#[0xb1]⟩ 1 none ∈ lw_tbl) (hd : decode cc pc = .ok (.invokespecial idx, 3)) (hR : 1 ≤ fr ∧ (st.map fun v => v.category).sum + 12 ≤ lc) (hp : pc + 3 = pc')
    (k : Sim Z l cc own nL fr lc rt nm args QQ h0 h1 v0 pc' lo st h o) : Sim Z l cc own nL fr lc rt nm args QQ h0 h1 v0 pc lo (.ref a :: st) h o := by
  subst hp
  exact Sim.pure (fun C H locs ls _ _ hl0 kk => by
    have EW := C.2.2.2.2.1.1
    have hR9 := C.2.2.2.2.2.2.1
    exact W.objInit C.1 C.2.1 C.2.2.2.1 (EW.use hl rfl) (EW.use hi rfl) (EW.use hc rfl) rfl (by rw [C.2.2.1]; exact hl0.1) rfl hd (by rw [← hR9.1]; exact hR.1) (by rw [← hR9.2.1]; show 2 * 0 + _ + 12 ≤ lc; omega) (kk ls hl0)) k

end OPS
