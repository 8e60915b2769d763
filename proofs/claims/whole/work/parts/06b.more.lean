/-! LITERALS, ROWS OF ROWS -/
theorem lit_len (i : Nat) : (litB.map List.length).getD i 0 = (litB.getD i []).length := by
  rw [List.getD_eq_getElem?_getD, List.getD_eq_getElem?_getD, List.getElem?_map]
  cases litB[i]? <;> rfl
/-- a sign of a literal, as the machine makes it -/
def sCh (i k : Nat) : Int32 := ((((litB.getD i []).getD k 0) &&& 255).toUInt32 % 65536).toInt32
theorem sCh_ok : ∀ i, i < 10 → ∀ k, k < (litB.getD i []).length → sCh i k = (litB.getD i []).getD k 0 ∧ narrow .char (.int ((litB.getD i []).getD k 0)) = .int ((litB.getD i []).getD k 0) ∧ (litB.getD i []).length < 100 := by decide +kernel
section MORE
variable {Z : ZZ} {l : Launch} {cc : ByteArray} {own : String} {nL fr lc : Nat} {rt : Option FieldType} {nm : String} {args : Array Value} {QQ : State → List Frame → State → Prop} {h0 h1 : HP} {ρ : Type} {v0 : ρ}
variable {pc pc' tgt : Nat} {lo lo' : List (Nat × Value)} {st rest : List Value} {h : HP} {o o1 o2 : Option (ρ × HP)}
theorem S_gets1 {idx : Nat} (hl : Cond.fieldLink own idx "java/lang/String" "COMPACT_STRINGS" "Z" ∈ lw_tbl) (hd : decode cc pc = .ok (.getstatic idx, 3)) (hp : pc + 3 = pc')
    (k : Sim Z l cc own nL fr lc rt nm args QQ h0 h1 v0 pc' lo (.int 1 :: st) h o) : Sim Z l cc own nL fr lc rt nm args QQ h0 h1 v0 pc lo st h o := by
  subst hp
  exact Sim.pure (fun C H locs ls _ hS hl0 kk => va_gets C.1 C.2.1 (EF.z1 C.2.2.2.2.1) hS C.2.2.2.1 (C.2.2.2.2.1.1.use hl rfl) (fun _ h => h) hd (kk ls hl0)) k
theorem S_getsF {idx : Nat} (hl : Cond.fieldLink own idx "jdk/internal/util/Preconditions" "SIOOBE_FORMATTER" "Ljava/util/function/BiFunction;" ∈ lw_tbl) (hd : decode cc pc = .ok (.getstatic idx, 3)) (hp : pc + 3 = pc')
    (k : ∀ v : Value, v = .null ∨ (∃ t : Nat, v = .ref t) → Sim Z l cc own nL fr lc rt nm args QQ h0 h1 v0 pc' lo (v :: st) h o) : Sim Z l cc own nL fr lc rt nm args QQ h0 h1 v0 pc lo st h o := by
  subst hp
  intro ho
  refine ⟨(k .null (Or.inl rfl) ho).1, fun C a H locs ls hP hS hl0 => ?_⟩
  rcases EF.zf C.2.2.2.2.1 with hz | ⟨t, hz⟩
  · exact va_gets C.1 C.2.1 hz hS C.2.2.2.1 (C.2.2.2.2.1.1.use hl rfl) (fun _ h => h) hd ((k .null (Or.inl rfl) ho).2 C a H locs ls hP hS hl0)
  · exact va_gets C.1 C.2.1 hz hS C.2.2.2.1 (C.2.2.2.2.1.1.use hl rfl) (fun _ h => h) hd ((k (.ref t) (Or.inr ⟨t, rfl⟩) ho).2 C a H locs ls hP hS hl0)
theorem S_sval {idx i : Nat} (hi : i < 10) (hl : Cond.fieldLink own idx "java/lang/String" "value" "[B" ∈ lw_tbl) (hd : decode cc pc = .ok (.getfield idx, 3)) (hp : pc + 3 = pc')
    (k : Sim Z l cc own nL fr lc rt nm args QQ h0 h1 v0 pc' lo (.ref (zV Z i) :: st) h o) : Sim Z l cc own nL fr lc rt nm args QQ h0 h1 v0 pc lo (.ref (zK Z i) :: st) h o := by
  subst hp
  exact Sim.pure (fun C H locs ls _ hS hl0 kk => vk_getf C.1 C.2.1 ((EF.str C.2.2.2.2.1).1 i hi).2.2.1 hS C.2.2.2.1 (C.2.2.2.2.1.1.use hl rfl) (fun _ h => h) hd (kk ls hl0)) k
theorem S_scod {idx i : Nat} (hi : i < 10) (hl : Cond.fieldLink own idx "java/lang/String" "coder" "B" ∈ lw_tbl) (hd : decode cc pc = .ok (.getfield idx, 3)) (hp : pc + 3 = pc')
    (k : Sim Z l cc own nL fr lc rt nm args QQ h0 h1 v0 pc' lo (.int 0 :: st) h o) : Sim Z l cc own nL fr lc rt nm args QQ h0 h1 v0 pc lo (.ref (zK Z i) :: st) h o := by
  subst hp
  exact Sim.pure (fun C H locs ls _ hS hl0 kk => vk_getf C.1 C.2.1 ((EF.str C.2.2.2.2.1).1 i hi).2.1 hS C.2.2.2.1 (C.2.2.2.2.1.1.use hl rfl) (fun _ h => h) hd (kk ls hl0)) k
theorem S_blen {i : Nat} (hi : i < 10) (hd : decode cc pc = .ok (.arraylength, 1)) (hp : pc + 1 = pc')
    (k : Sim Z l cc own nL fr lc rt nm args QQ h0 h1 v0 pc' lo (.int (Int32.ofNat (litB.getD i []).length) :: st) h o) : Sim Z l cc own nL fr lc rt nm args QQ h0 h1 v0 pc lo (.ref (zV Z i) :: st) h o := by
  subst hp
  exact Sim.pure (fun C H locs ls _ hS hl0 kk => va_tlen C.1 C.2.1 ((EF.str C.2.2.2.2.1).1 i hi).2.2.2 hS (by rw [lit_len]) hd (kk ls hl0)) k
theorem S_bald {i : Nat} {j : Int32} (hi : i < 10) (hj : vp_in j (litB.getD i []).length) (hd : decode cc pc = .ok (.baload, 1)) (hp : pc + 1 = pc')
    (k : Sim Z l cc own nL fr lc rt nm args QQ h0 h1 v0 pc' lo (.int ((litB.getD i []).getD j.toNatClampNeg 0) :: st) h o) : Sim Z l cc own nL fr lc rt nm args QQ h0 h1 v0 pc lo (.int j :: .ref (zV Z i) :: st) h o := by
  subst hp
  exact Sim.pure (fun C H locs ls _ hS hl0 kk => va_tb C.1 C.2.1 ((EF.str C.2.2.2.2.1).1 i hi).2.2.2 hS (by rw [lit_len]; exact hj) rfl hd (kk ls hl0)) k
theorem S_anyload {q : Fin 4} {i : Nat} {x : Nat} (hd : decode cc pc = .ok (.aload_n q, 1)) (hi : (q : Nat) = i) (j : Nat) (hl : lo[j]? = some (i, .ref x)) (hp : pc + 1 = pc') (k : Sim Z l cc own nL fr lc rt nm args QQ h0 h1 v0 pc' lo (.ref x :: st) h o) : Sim Z l cc own nL fr lc rt nm args QQ h0 h1 v0 pc lo st h o := S_aload_n hd hi j hl hp k
/-- a return of one of the small types -/
theorem S_nret {v0 v : Int32} {ty : FieldType} (hr : rt = some ty) (hn : narrow ty (.int v) = .int v) (hd : decode cc pc = .ok (.ireturn, 1)) : Sim Z l cc own nL fr lc rt nm args (Mq Z args h0 h1 (some (.int v0))) h0 h1 v0 pc lo [.int v] h (some (v, h)) := by
  intro ho
  cases ho
  refine ⟨Mono.rf _, fun C a1 H locs ls hP hS hl => ?_⟩
  have hlk := C.2.2.2.2.2.1
  exact W.zret C.1 C.2.1 (C.2.2.2.2.2.2.2.2.1.trans hr) hn (ret_post C hP hS) hS.2.2 hd hlk
/-- a call whose answer and heap are known -/
theorem Sim.call1 {rv : Option Value} {a : Array Value} {h2 : HP}
    (hmo : Mono h h2)
    (hrun : ∀ {p : Program} {e : Env} {R : Room} {s : State} {m : MethodId} {below : List Frame} {meth : Method} {c : Code}, Cx p R s m meth c Z cc own nL fr lc rt nm h0 h1 →  hN h - hN h0 + (hN h2 - hN h) ≤ R.cells → hL h - hL h0 + (hL h2 - hL h) ≤ R.slots → ∀ (H : Heap) (locs : List Loc) (ls : Array Slot), Rl Z h H → va_S (zA Z) s.heap H locs → lv_has ls nL lo →
      va_Run p l e R s m args below meth c H locs (hN h - hN h0) (hL h - hL h0) (hN h2 - hN h) (hL h2 - hL h) (F0 m pc ls st) rest (Qg Z rv h2 a) (zA Z))
    (kk : Sim Z l cc own nL fr lc rt nm args QQ h0 h1 v0 (pc + 3) lo (rv.toList ++ rest) h2 o) : Sim Z l cc own nL fr lc rt nm args QQ h0 h1 v0 pc lo st h o := by
  have key : ∀ u : Unit, Sim Z l cc own nL fr lc rt nm args QQ h0 h1 v0 pc lo st h (ob (some (u, h2)) fun _ _ => o) := fun u => by
    intro ho
    replace ho : o = some (v0, h1) := ho
    obtain ⟨m1, w1⟩ := kk ho
    refine ⟨hmo.tr m1, fun {p e R s m below meth c} C a1 H locs ls hP hS hl => ?_⟩
    have hR9 := C.2.2.2.2.2.2.1
    have q8 := hR9.2.2.1
    have q9 := hR9.2.2.2
    have b1 := hmo.1
    have b2 := hmo.2
    have b3 := m1.1
    have b4 := m1.2
    have b5 := a1.1
    have b6 := a1.2
    intro T hT X
    obtain ⟨v', st₀, t, T', L, q0, X', hL', q1, q2, ⟨q3, q4, q5⟩, stp⟩ := hrun C (by omega) (by omega) H locs ls hP hS hl T hT X
    cases q3
    rw [show hN h - hN h0 + (hN h2 - hN h) = hN h2 - hN h0 by omega, show hL h - hL h0 + (hL h2 - hL h) = hL h2 - hL h0 by omega] at X'
    have hS' : va_S (zA Z) s.heap T'.heap (locs ++ L) := by
      have q5' : va_F (zA Z) st₀ t := q5
      obtain ⟨z1, z2⟩ := q5'
      rw [q0] at z1 z2
      refine ⟨Nat.le_trans hS.1 (by rw [q1]; exact z1), fun q h1 h2 => ?_, fun q hq => ?_⟩
      · rw [q1, z2 q (Nat.lt_of_lt_of_le h1 hS.1) h2]
        exact hS.2.1 q h1 h2
      · rcases List.mem_append.mp hq with h | h
        · exact hS.2.2 q h
        · exact hL' q h
    obtain ⟨t2, a2, b9⟩ := w1 C (a1.tr hmo) T'.heap (locs ++ L) ls (by rw [q1]; exact q4) hS' hl T' rfl X'
    exact ⟨t2, stp t2 a2, b9⟩
  exact key ()
/-- a method of a literal -/
theorem S_invK {idx n fr' lc' i : Nat} {y : MethodName} {bytes : ByteArray} {maxL : Nat} {ret : Option FieldType} (hi : i < 10) (ml : ML own idx y bytes maxL ret n) (mi : MI "java/lang/String" y) (hd : decode cc pc = .ok (.invokevirtual idx, 3)) (As : List Value) (hn : As.length = n) {v : Int32}
    (cM : MetP Z l y bytes maxL ret fr' lc' (.ref (zK Z i) :: As) h (some (.int v)) h) (hR : fr' + 1 ≤ fr ∧ 8 + (maxL + 11) + lc' ≤ lc) (hcat : (rest.map fun v => v.category).sum ≤ 8) (hst : st = As.reverse ++ .ref (zK Z i) :: rest) (hp : pc + 3 = pc')
    (kk : Sim Z l cc own nL fr lc rt nm args QQ h0 h1 v0 pc' lo (.int v :: rest) h o) : Sim Z l cc own nL fr lc rt nm args QQ h0 h1 v0 pc lo st h o := by
  subst hp
  subst hst
  refine Sim.call1 (rv := some (.int v)) (a := (Value.ref (zK Z i) :: As).toArray) (rest := rest) (h2 := h) cM.1 (fun {p e R s m below meth c} C r1 r2 H locs ls hP hS hl => ?_) kk
  obtain ⟨mo, hM⟩ := cM
  have EW := C.2.2.2.2.1.1
  have hR9 := C.2.2.2.2.2.2.1
  obtain ⟨m1, m2, m3, m4, m5⟩ := ml
  have hrecv := vk_recv (EF.str C.2.2.2.2.1) hi hS
  have hcode := EW.use (args := args) m1 rfl
  have hpre : PreV s H "java/lang/String" (zK Z i) (Pcg Z (.ref (zK Z i) :: As) h) As := ⟨Pcg_blind, hrecv, Pcg_at C hP hS⟩
  have hrm : fr' + 1 ≤ R.frames ∧ 8 + (maxL + 11) + lc' ≤ R.locals := by rw [← hR9.1, ← hR9.2.1]; exact hR
  rcases m5 with m5 | ⟨host, m5⟩
  · exact va_runV (Ts := []) ⟨C.1, C.2.1, C.2.2.1, C.2.2.2.1, fun w hw => by cases hw⟩ hM ⟨⟨rfl, rfl, hrm.1, hrm.2, word1 hcode, List.mem_singleton.mpr rfl, hcode, EW.use m2 rfl, m3, ncount m4, EW.use m5 rfl⟩, EW.use mi.1 rfl, EW.use mi.2 rfl⟩ hpre rfl hn hl.1 rfl (lv_room hcat) hd ⟨r1, r2⟩
  · exact va_runVN (Ts := []) ⟨C.1, C.2.1, C.2.2.1, C.2.2.2.1, fun w hw => by cases hw⟩ hM ⟨⟨⟨rfl, rfl, hrm.1, hrm.2, word1 hcode, List.mem_singleton.mpr rfl⟩, hcode, EW.use m2 rfl, m3, ncount m4, EW.nest m5 rfl⟩, EW.use mi.1 rfl, EW.use mi.2 rfl⟩ hpre rfl hn hl.1 rfl (lv_room hcat) hd ⟨r1, r2⟩
/-- a row of the rows -/
theorem S_aaloadQ (hd : decode cc pc = .ok (.aaload, 1)) (hp : pc + 1 = pc') {a : Nat} {i : Int32} {f : Nat → Option (ρ × HP)}
    (kk : ∀ x, Sim Z l cc own nL fr lc rt nm args QQ h0 h1 v0 pc' lo (.ref (zb Z + x) :: st) h (f x)) : Sim Z l cc own nL fr lc rt nm args QQ h0 h1 v0 pc lo (.int i :: .ref (zb Z + a) :: st) h ((lR 10 a i h).bind f) := by
  subst hp
  intro ho
  unfold lR at ho
  by_cases g : oC 10 h a = true ∧ vpi i (hS h a).2 = true
  · rw [if_pos g] at ho
    obtain ⟨x, hx, ho⟩ := Option.bind_eq_some_iff.mp ho
    obtain ⟨m1, w1⟩ := kk _ ho
    obtain ⟨ga, gt⟩ := oC_spec g.1
    refine ⟨m1, fun C a1 H locs ls hP hS1 hl => ?_⟩
    have he := wsO_get Z h ga
    rw [ent_rows gt] at he
    have hin := vpi_spec g.2
    have hlt : i.toNatClampNeg < (hS h a).2 := Nat.not_le.mp fun q => hin (Or.inr q)
    have hK := C.2.2.2.2.1.2.1
    refine W.aald (v := rfv Z (hR h a i.toNatClampNeg)) (ty := .array .long) C.1 C.2.1 (hP.1 a _ he) ((hK.2 3 _ rfl).1 (hS h a).2 (fun j => va_rf ((hR h a j).map (zb Z + ·)))) rfl (fun q => by cases q) (by show ¬ (i < 0 ∨ (arrV _ _ _).slots.size ≤ _); rw [arrV_size]; exact hin) (by show (arrV _ _ _).slots[_]? = _; rw [arrV_read _ _ hlt]; rfl) rfl rfl hd ?_
    rw [hx]
    exact w1 C a1 H locs ls hP hS1 hl
  · rw [if_neg g] at ho
    cases ho
theorem outer_arr (c : ClassId) (N h0 : Nat) : ∀ i : Nat, i ≤ N → Jvm.Free.Multi.outerC c N h0 i = arrV c N (fun j => va_rf (if j < i then some (h0 + 1 + j) else none))
  | 0, _ => by
    show ({ cls := c, slots := Array.replicate N .null, vm := .none } : Cell) = _
    rw [arrV_new]
    refine congrArg (arrV c N) (funext fun j => ?_)
    simp [va_rf]
  | i + 1, hi => by
    show (Jvm.Free.Multi.outerC c N h0 i).setSlot i (.ref (h0 + 1 + i)) = _
    rw [outer_arr c N h0 i (by omega), arrV_store]
    refine congrArg (arrV c N) (funext fun j => ?_)
    by_cases e : j = i
    · subst e
      simp [updV, va_rf]
    · by_cases h : j < i
      · simp [updV, e, h, Nat.lt_succ_of_lt h]
      · simp [updV, e, h, show ¬ j < i + 1 by omega]
theorem S_multi {idx : Nat} (hw : Cond.classLink own idx "[[J" ∈ lw_tbl) (hwl : Cond.arrayClass (.long : FieldType) ∈ lw_tbl) (hd : decode cc pc = .ok (.multianewarray idx 2, 4)) (hp : pc + 4 = pc') {n k : Int32} {f : Nat → HP → Option (ρ × HP)}
    (kk : ∀ a h2, Sim Z l cc own nL fr lc rt nm args QQ h0 h1 v0 pc' lo (.ref (zb Z + a) :: st) h2 (f a h2)) : Sim Z l cc own nL fr lc rt nm args QQ h0 h1 v0 pc lo (.int k :: .int n :: st) h (ob (mkM n k h) f) := by
  subst hp
  intro ho
  unfold mkM at ho
  by_cases g : (¬ n < 0 ∧ n.toNatClampNeg ≤ 4096) ∧ (¬ k < 0 ∧ k.toNatClampNeg ≤ 4096)
  · rw [if_pos g] at ho
    replace ho : f (hN h) (nwM h n.toNatClampNeg k.toNatClampNeg) = some (v0, h1) := ho
    generalize hN9 : n.toNatClampNeg = N at ho g
    generalize hK9 : k.toNatClampNeg = K at ho g
    refine Sim.mk (h2 := nwM h N K) (k := 1 + N) (n := N + N * K) (by show h.1 + 1 + N = h.1 + (1 + N); omega) (by show h.2.1 + N + N * K = h.2.1 + (N + N * K); omega) (fun {p e R s m below meth c} C r1 r2 H locs ls hP hSt hl kk2 => ?_) (kk _ _) ho
    have EW := C.2.2.2.2.1.1
    have hK := C.2.2.2.2.1.2.1
    intro T hT X
    obtain ⟨vm₁, cA, comp, -, fA, fC, -, -, X', step⟩ := X.multianewarray2F C.1 (ty := .long) C.2.2.2.1 (EW.use (args := args) hw rfl) (show (Cond.arrayOver (.array .long)).before args s = true from C.2.2.2.2.1.2.2.2.1) (EW.use (args := args) hwl rfl) (g := F0 m pc ls (.int k :: .int n :: st)) rfl (by rw [C.2.1]; exact hd) rfl g.1.1 g.2.1 (by rw [hN9]; omega) (by rw [hK9]; simp only [componentBytes]; omega) (by rw [hK9]; omega) rfl rfl (by rw [hN9]; exact r1) (by rw [hN9, hK9]; exact r2)
    rw [hN9, hK9] at X' step
    have eA : cA = zcQ Z := by
      have h9 := (hK.2 3 _ rfl).2
      exact Option.some.inj (fA.symm.trans h9)
    have eB : comp = zcJ Z := by
      have h9 := (hK.2 1 _ rfl).2
      exact Option.some.inj (fC.symm.trans h9)
    subst eA
    subst eB
    have hTh : (T.setVm vm₁).heap = H := hT
    generalize hF : Jvm.Free.Multi.fill (T.setVm vm₁) (zcQ Z) (zcJ Z) N K (defaultValue .long) N = F at X' step
    obtain ⟨f1, f2, -, -⟩ := Jvm.Free.Multi.fill_facts (T.setVm vm₁) (zcQ Z) (zcJ Z) N K (defaultValue .long) N
    rw [hF, hTh, hP.2] at f1 f2
    have hold : ∀ x : Nat, x < zb Z + hN h → F.heap[x]? = H[x]? := fun x hx => by
      have := Jvm.Free.Multi.fill_old (T.setVm vm₁) (zcQ Z) (zcJ Z) N K (defaultValue .long) (a := x) (by rw [hTh, hP.2]; exact hx) N
      rw [hF, hTh] at this
      exact this
    have hrow : ∀ j : Nat, j < N → F.heap[zb Z + hN h + 1 + j]? = some (arrV (zcJ Z) K (fun _ => .long 0)) := fun j hj => by
      have := Jvm.Free.Multi.fill_inner (T.setVm vm₁) (zcQ Z) (zcJ Z) N K (defaultValue .long) N j hj
      rw [hF, hTh, hP.2] at this
      rw [this]
      show some ({ cls := zcJ Z, slots := Array.replicate K (.long 0), vm := .none } : Cell) = _
      rw [arrV_new]
    rw [outer_arr (zcQ Z) N (zb Z + hN h) N (Nat.le_refl _)] at f2
    have hRl : Rl Z (nwM h N K) F.heap := by
      refine ⟨fun q x hx => ?_, by rw [f1]; show zb Z + hN h + 1 + N = zb Z + (h.1 + 1 + N); show zb Z + h.1 + 1 + N = _; omega⟩
      obtain ⟨hq, rfl⟩ := wsO_lt hx
      have hq' : q < h.1 + 1 + N := hq
      by_cases c1 : q < h.1
      · have e9 : ent Z (nwM h N K) q = ent Z h q := by
          have e1 : hS (nwM h N K) q = hS h q := if_pos c1
          have e2 : hR (nwM h N K) q = hR h q := if_pos c1
          have e3 : hI (nwM h N K) q = hI h q := if_pos c1
          have e4 : hJ (nwM h N K) q = hJ h q := if_pos c1
          unfold ent
          have ef : ∀ c, fvl Z (nwM h N K) q c = fvl Z h q c := fun c => funext fun j => by unfold fvl; rw [e2, e3]
          rw [e1, e2, e3, e4, ef]
        rw [e9]
        exact (hP.1 q _ (wsO_get Z h c1)).kept (hold _ (by show zb Z + q < zb Z + h.1; omega))
      · by_cases c2 : q = h.1
        · subst c2
          have e1 : hS (nwM h N K) h.1 = (10, N) := by show (if h.1 < h.1 then _ else if h.1 = h.1 then _ else _) = _; rw [if_neg (Nat.lt_irrefl _), if_pos rfl]
          have e2 : hR (nwM h N K) h.1 = fun i => if i < N then some (h.1 + 1 + i) else none := by show (if h.1 < h.1 then _ else if h.1 = h.1 then _ else _) = _; rw [if_neg (Nat.lt_irrefl _), if_pos rfl]
          rw [ent_rows (by rw [e1]), e1, e2]
          show F.heap[zb Z + h.1]? = some (vp_cell _ _)
          rw [vp_cell_q]
          refine Eq.trans f2 (congrArg some (congrArg (arrV (zcQ Z) N) (funext fun j => ?_)))
          by_cases c3 : j < N
          · simp only [c3, if_true, Option.map_some]
            show va_rf (some (zb Z + h.1 + 1 + j)) = va_rf (some (zb Z + (h.1 + 1 + j)))
            rw [show zb Z + h.1 + 1 + j = zb Z + (h.1 + 1 + j) by omega]
          · simp only [c3, if_false, Option.map_none]
        · have e1 : hS (nwM h N K) q = (8, K) := by show (if q < h.1 then _ else if q = h.1 then _ else _) = _; rw [if_neg c1, if_neg c2]
          have e2 : hJ (nwM h N K) q = fun _ => 0 := if_neg c1
          rw [ent_long (by rw [e1]), e1, e2]
          show F.heap[zb Z + q]? = some (vp_cell (zcJ Z) (K, .inr (.inl fun _ => 0)))
          have := hrow (q - h.1 - 1) (by omega)
          rw [show zb Z + hN h + 1 + (q - h.1 - 1) = zb Z + q by show zb Z + h.1 + 1 + (q - h.1 - 1) = zb Z + q; omega] at this
          exact this
    have hS2 : va_S (zA Z) s.heap F.heap locs := ⟨Nat.le_trans hSt.1 (by rw [f1, hP.2]; omega), fun x h1 h2 => (hold x (by have := hSt.1; rw [hP.2] at this; omega)).trans (hSt.2.1 x h1 h2), hSt.2.2⟩
    rw [Nat.add_assoc (hN h - hN h0), Nat.add_assoc (hL h - hL h0)] at X'
    obtain ⟨t, a1, b1⟩ := kk2 F.heap hRl hS2 F rfl X'
    refine ⟨t, step t ?_, b1⟩
    have e : T.heap.size = zb Z + hN h := by rw [hT, hP.2]
    rw [e]
    exact a1
  · rw [if_neg g] at ho
    cases ho
end MORE
