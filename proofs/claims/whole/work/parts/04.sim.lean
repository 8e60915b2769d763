/-! FROM ONE STATE TO ANOTHER; a method's contract by what it answers in thought -/
theorem va_X_kept {b L : Nat} {xs : Nat → Int32} {U V : State} {H H1 : Heap} (hvm : U.vm.Alike V.vm) (h : va_X b L xs U H) (hq : H1[b]? = H[b]?) : va_X b L xs V H1 := by
  obtain ⟨scr, h1, h2, h3, h4, h5⟩ := h
  exact ⟨scr, hq.trans h1, State.isArrayOf_alike hvm h2, h3, h4, h5⟩
theorem EF.moved {Z : ZZ} {s U : State} (hW : s.WarmedH U.vm) (h : EF Z s) (hz : s.heap.size ≤ U.heap.size) (hk : ∀ q : Nat, q < s.heap.size → ¬ zA Z q → U.heap[q]? = s.heap[q]?) : EF Z U := by
  obtain ⟨h1, h2, h3, h4, h5, h6, h7, h8, h9, h10, h11, h12⟩ := h
  refine ⟨h1.warm hW, h2.moved hW.alike, h3.moved hW.alike, ?_, fun i q hq => (h5 i q hq).warm hW, (h6.moved hW.alike).kept hk, va_X_kept hW.alike h7 (hk _ h9 h8), h8, Nat.lt_of_lt_of_le h9 hz, h10, (h11.moved hW.alike).kept hk, (h12.moved hW.alike).kept hk⟩
  show (Cond.arrayOver (.array .long)).before #[] (s.setVm U.vm) = true
  rw [Cond.arrayOver_setVmC hW.alike]
  exact h4
theorem EF.str {Z : ZZ} {s : State} (h : EF Z s) : vk_S 10 (litB.map List.length) litB (zK Z) (zV Z) (zA Z) s s.heap := h.2.2.2.2.2.1
theorem EF.scr {Z : ZZ} {s : State} (h : EF Z s) : va_X (zsc Z) (zL Z) (zX Z) s s.heap ∧ ¬ zA Z (zsc Z) ∧ zsc Z < s.heap.size := ⟨h.2.2.2.2.2.2.1, h.2.2.2.2.2.2.2.1, h.2.2.2.2.2.2.2.2.1⟩
theorem EF.z1 {Z : ZZ} {s : State} (h : EF Z s) : va_Z "java/lang/String" "COMPACT_STRINGS" "Z" (.int 1) (zA Z) s s.heap := h.2.2.2.2.2.2.2.2.2.2.1
theorem EF.zf {Z : ZZ} {s : State} (h : EF Z s) : va_Zq "jdk/internal/util/Preconditions" "SIOOBE_FORMATTER" "Ljava/util/function/BiFunction;" (zA Z) s s.heap := h.2.2.2.2.2.2.2.2.2.2.2
/-- a contract's start: these arguments, the heap in thought h -/
def Pcg (Z : ZZ) (av : List Value) (h : HP) : Array Value → State → Prop := va_Pc av (fun U => EF Z U ∧ Rl Z h U.heap)
/-- its end: this answer, the heap in thought h1 -/
def Qg (Z : ZZ) (rv : Option Value) (h1 : HP) : Array Value → State → Outcome → State → Prop := fun _ st oc t => oc = .returned rv ∧ Rl Z h1 t.heap ∧ va_F (zA Z) st t
def Mono (h h1 : HP) : Prop := hN h ≤ hN h1 ∧ hL h ≤ hL h1
theorem Mono.rf (h : HP) : Mono h h := ⟨Nat.le_refl _, Nat.le_refl _⟩
theorem Mono.tr {a b c : HP} (h : Mono a b) (g : Mono b c) : Mono a c := ⟨Nat.le_trans h.1 g.1, Nat.le_trans h.2 g.2⟩
def MetP (Z : ZZ) (l : Launch) (y : MethodName) (cc : ByteArray) (nL : Nat) (rt : Option FieldType) (fr lc : Nat) (av : List Value) (h : HP) (rv : Option Value) (h1 : HP) : Prop :=
  Mono h h1 ∧ Met l y [Cond.code y cc nL rt] { frames := fr, cells := hN h1 - hN h, slots := hL h1 - hL h, locals := lc } (Pcg Z av h) (Qg Z rv h1) (hN h1 - hN h) (hL h1 - hL h) (zA Z)
/-- what a method's run stands on -/
def Cx (p : Program) (R : Room) (s : State) (m : MethodId) (meth : Method) (c : Code) (Z : ZZ) (cc : ByteArray) (own : String) (nL fr lc : Nat) (rt : Option FieldType) (nm : String) (h0 h1 : HP) : Prop :=
  p.tables.exec = Jvm.exec ∧ c.code = cc ∧ c.maxLocals = nL ∧ s.vm.findClass own = some m.cls ∧ EF Z s ∧ meth.locks = false ∧ (fr = R.frames ∧ lc = R.locals ∧ hN h1 - hN h0 ≤ R.cells ∧ hL h1 - hL h0 ≤ R.slots) ∧ s.heap.size = zb Z + hN h0 ∧ meth.sig.returnType = rt ∧ meth.name = nm
/-- from the pc on, with these locals and this stack, over the heap in thought h: if o is the answer and the heap that are due, the machine comes to Q -/
def Sim (Z : ZZ) (l : Launch) (cc : ByteArray) (own : String) (nL fr lc : Nat) (rt : Option FieldType) (nm : String) (args : Array Value) (QQ : State → List Frame → State → Prop) (h0 h1 : HP) {ρ : Type} (v0 : ρ) (pc : Nat) (lo : List (Nat × Value)) (st : List Value) (h : HP) (o : Option (ρ × HP)) : Prop :=
  o = some (v0, h1) → Mono h h1 ∧ ∀ {p : Program} {e : Env} {R : Room} {s : State} {m : MethodId} {below : List Frame} {meth : Method} {c : Code}, Cx p R s m meth c Z cc own nL fr lc rt nm h0 h1 → Mono h0 h → ∀ (H : Heap) (locs : List Loc) (ls : Array Slot), Rl Z h H → va_S (zA Z) s.heap H locs → lv_has ls nL lo →
    W p l e R s m args below meth c H locs (hN h - hN h0) (hL h - hL h0) (QQ s below) (F0 m pc ls st)
section SIM
variable {Z : ZZ} {l : Launch} {cc : ByteArray} {own : String} {nL fr lc : Nat} {rt : Option FieldType} {nm : String} {args : Array Value} {QQ : State → List Frame → State → Prop} {h0 h1 : HP} {ρ : Type} {v0 : ρ}
variable {pc pc' : Nat} {lo lo' : List (Nat × Value)} {st st' : List Value} {h : HP} {o : Option (ρ × HP)}
/-- one step that leaves the heap -/
theorem Sim.pure (hst : ∀ {p : Program} {e : Env} {R : Room} {s : State} {m : MethodId} {below : List Frame} {meth : Method} {c : Code}, Cx p R s m meth c Z cc own nL fr lc rt nm h0 h1 → ∀ (H : Heap) (locs : List Loc) (ls : Array Slot), Rl Z h H → va_S (zA Z) s.heap H locs → lv_has ls nL lo →
      (∀ ls', lv_has ls' nL lo' → W p l e R s m args below meth c H locs (hN h - hN h0) (hL h - hL h0) (QQ s below) (F0 m pc' ls' st')) → W p l e R s m args below meth c H locs (hN h - hN h0) (hL h - hL h0) (QQ s below) (F0 m pc ls st))
    (k : Sim Z l cc own nL fr lc rt nm args QQ h0 h1 v0 pc' lo' st' h o) : Sim Z l cc own nL fr lc rt nm args QQ h0 h1 v0 pc lo st h o := by
  intro ho
  obtain ⟨m1, w1⟩ := k ho
  exact ⟨m1, fun C a H locs ls hP hS hl => hst C H locs ls hP hS hl (fun ls' hl' => w1 C a H locs ls' hP hS hl')⟩
theorem Sim.none : Sim Z l cc own nL fr lc rt nm args QQ h0 h1 v0 pc lo st h (Option.none : Option (ρ × HP)) := fun ho => by cases ho
/-- fewer locals -/
theorem Sim.sub (ks : List Nat) (hl : lv_pick lo ks = lo') (k : Sim Z l cc own nL fr lc rt nm args QQ h0 h1 v0 pc lo' st h o) : Sim Z l cc own nL fr lc rt nm args QQ h0 h1 v0 pc lo st h o :=
  Sim.pure (fun _ _ _ _ _ _ hl0 kk => kk _ (lv_sub hl0 ks hl)) k
end SIM
