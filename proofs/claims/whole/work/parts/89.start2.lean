/-! THE START: the world of the law's entry -/
theorem arr_of {s : State} {cA : ClassId} {k : Class} {comp : ClassId} {ty : FieldType} (h1 : s.vm.classes[cA]? = some k) (h2 : k.kind = .array comp ty) : ArrOfT s cA ty := fun n z => ⟨(fun k h => by cases h), k, h1, comp, h2⟩
theorem EW_of {s : State} {args : Array Value} (hts : ∀ w ∈ lw_tbl, w.before args s = true) : EW s := by
  intro w hw hg
  rcases hg with hg | hg
  · exact word_at (State.WarmedH.refl s) (good_of_word hg) (hts w hw)
  · cases w with
    | fieldLinkNest => exact va_Nw.of rfl (hts _ hw)
    | methodLinkNest => exact va_Nw.of rfl (hts _ hw)
    | _ => cases hg
theorem NCL.known {own : String} {idx ci : Nat} (nc : NCL own idx ci) {s : State} {args : Array Value} (hts : ∀ w ∈ lw_tbl, w.before args s = true) : ∃ (q : vw_C) (cC : ClassId) (iS : Nat → Nat), vwCl[ci]? = some q ∧ u_Kn s q.1 q.2.1 q.2.2 cC iS := by
  obtain ⟨C, T, ty, N, h1, h2, h3, h4, h5, h6, h7, h8, h9⟩ := nc
  obtain ⟨cC, iS, k⟩ := u_known (n := N) hts h4 (hts _ h8)
  exact ⟨(C, T, N), cC, iS, h1, k⟩
theorem classes_known {s : State} {args : Array Value} (hts : ∀ w ∈ lw_tbl, w.before args s = true) : ∃ (dC : Nat → ClassId) (dI : Nat → Nat → Nat), ∀ (k : Nat) (q : vw_C), vwCl[k]? = some q → u_Kn s q.1 q.2.1 q.2.2 (dC k) (dI k) := by
  have one : ∀ k : Nat, ∃ (y : ClassId × (Nat → Nat)), ∀ (q : vw_C), vwCl[k]? = some q → u_Kn s q.1 q.2.1 q.2.2 y.1 y.2 := by
    intro k
    have go : ∀ {own : String} {idx ci : Nat}, NCL own idx ci → k = ci → ∃ (y : ClassId × (Nat → Nat)), ∀ (q : vw_C), vwCl[k]? = some q → u_Kn s q.1 q.2.1 q.2.2 y.1 y.2 := by
      intro own idx ci nc e
      subst e
      obtain ⟨q, cC, iS, h1, h2⟩ := nc.known hts
      refine ⟨(cC, iS), fun q' hq => ?_⟩
      rw [h1] at hq
      obtain rfl := Option.some.inj hq
      exact h2
    by_cases h : k < 7
    · have hc : k = 0 ∨ k = 1 ∨ k = 2 ∨ k = 3 ∨ k = 4 ∨ k = 5 ∨ k = 6 := by omega
      rcases hc with e | e | e | e | e | e | e
      · exact go nc_X5_9 e
      · exact go nc_X5_22 e
      · exact go nc_X5_36 e
      · exact go nc_X5_43 e
      · exact go nc_X5_29 e
      · exact go nc_L_7 e
      · exact go nc_L_10 e
    · have e0 : vwCl[k]? = none := List.getElem?_eq_none (show vwCl.length ≤ k from Nat.le_trans (show 7 ≤ 7 from Nat.le_refl 7) (by omega))
      exact ⟨((0 : Nat), fun _ => 0), fun q hq => by rw [e0] at hq; cases hq⟩
  obtain ⟨f, hf⟩ := Classical.axiomOfChoice one
  exact ⟨fun k => (f k).1, fun k => (f k).2, fun k q hq => hf k q hq⟩
theorem EF_start {s : State} {b L : Nat} {xs : Nat → Int32} (hL : L ≤ 3072) (hts : ∀ w ∈ lw_tbl, w.before #[Value.ref b] s = true) (hX : va_X b L xs s s.heap) (hbl : b < s.heap.size) (hgv : (Jvm.Cond.and given_1 narrow_1).before #[Value.ref b] s = true) : ∃ Z : ZZ, zb Z = s.heap.size ∧ zsc Z = b ∧ zL Z = L ∧ EF Z s := by
  have hs := flat_of_before _ hgv
  have hc : ∀ {i : Nat} {c : Cond}, ccL[i]? = some c → c.before #[Value.ref b] s = true := fun h => hs _ (List.mem_of_getElem? h)
  obtain ⟨dC, dI, hK⟩ := classes_known hts
  obtain ⟨cI, kI, pI, i1, i2, i3⟩ := Cond.arrayClass_spec (hts _ (List.mem_of_getElem? (i := 222) (show lw_tbl[222]? = some (Cond.arrayClass .int) by decide +kernel)))
  obtain ⟨cJ, kJ, pJ, j1, j2, j3⟩ := Cond.arrayClass_spec (hts _ (List.mem_of_getElem? (i := 306) (show lw_tbl[306]? = some (Cond.arrayClass .long) by decide +kernel)))
  have hAO := hts _ (List.mem_of_getElem? (i := 285) (show lw_tbl[285]? = some (Cond.arrayOver (.object "LostBeforeSung$Shelf")) by decide +kernel))
  have hAQ := hts _ (List.mem_of_getElem? (i := 1003) (show lw_tbl[1003]? = some (Cond.arrayOver (.array .long)) by decide +kernel))
  obtain ⟨pS', cS, kS, s1, s2, s3, s4, s5⟩ := Cond.arrayOver_spec hAO
  obtain ⟨pQ, cQ, kQ, q1, q2, q3, q4⟩ := Cond.arrayOver_specA hAQ
  have hA : ∀ a : Nat, a < s.heap.size → ¬ s.heap.size ≤ a := fun a h => Nat.not_le.mpr h
  obtain ⟨adK, adV, hV, hE⟩ := vk_Sof (N := 10) (tm := tmR) (len := litB.map List.length) (byt := litB) (A := fun q => s.heap.size ≤ q) fs_len (fun i hi => hc (fs_E i hi)) (fun i hi => hc (fs_C i hi)) (fun i hi => hc (fs_A i hi)) (fun i hi => hc (fs_Z i hi)) (fun i hi j hj => hc (fs_L i hi j hj)) (fun i j hi hj hij => by
    by_cases h : i < j
    · exact Or.inl (hc (fs_N j hj i hi h))
    · exact Or.inr (hc (fs_N i hi j hj (by omega)))) hA
  refine ⟨(s.heap.size, (dC, dI), (cI, cJ, cS, cQ), (b, L, xs), (adK, adV)), rfl, rfl, rfl, EW_of hts, ⟨hK, fun k q hq => ?_⟩, va_AO.of hAO, hAQ, fun i q hq => ?_, hV, hX, hA b hbl, hbl, hL, ?_, ?_⟩
  · match k, hq with
    | 0, hq => obtain rfl := Option.some.inj hq; exact ⟨arr_of i2 i3, i1⟩
    | 1, hq => obtain rfl := Option.some.inj hq; exact ⟨arr_of j2 j3, j1⟩
    | 2, hq => obtain rfl := Option.some.inj hq; exact ⟨arr_of s3 s4, kS, pS', s3, s4, s1, s5⟩
    | 3, hq => obtain rfl := Option.some.inj hq; exact ⟨arr_of q2 q3, q4⟩
    | k + 4, hq => simp [zT] at hq
  · have hi : i < 20 := (List.getElem?_eq_some_iff.mp hq).1
    have e : litD i = q := by unfold litD; rw [List.getD_eq_getElem?_getD, hq]; rfl
    have hS := hts _ (List.mem_of_getElem? (fs_S i hi))
    rw [e] at hS
    refine vk_R.of hS ?_
    by_cases h : i < 10
    · obtain ⟨r1, r2⟩ := fs_R i h
      rw [e] at r1 r2
      have := hE i h
      rw [r1, r2, Nat.mod_eq_of_lt h]
      exact this
    · obtain ⟨j, rfl⟩ : ∃ j, i = 10 + j := ⟨i - 10, by omega⟩
      obtain ⟨r1, r2⟩ := fs_Q j (by omega)
      rw [e] at r1 r2
      have := eq_other (hc (fs_M j (by omega))) (hE j (by omega))
      rw [r1, r2, show (10 + j) % 10 = j by omega]
      exact this
  · exact va_Zof (hts _ (List.mem_of_getElem? (i := 547) (show lw_tbl[547]? = some (Cond.laysStatic "java/lang/String" "COMPACT_STRINGS" "Z") by decide +kernel))) (hts _ (List.mem_of_getElem? (i := 125) (show lw_tbl[125]? = some (Cond.initialized "java/lang/String") by decide +kernel))) (va_eqt (hc fs_1.1)) hA
  · exact va_Zqof (hts _ (List.mem_of_getElem? (i := 563) (show lw_tbl[563]? = some (Cond.laysStatic "jdk/internal/util/Preconditions" "SIOOBE_FORMATTER" "Ljava/util/function/BiFunction;") by decide +kernel))) (hts _ (List.mem_of_getElem? (i := 127) (show lw_tbl[127]? = some (Cond.initialized "jdk/internal/util/Preconditions") by decide +kernel))) (hc fs_1.2) hA
