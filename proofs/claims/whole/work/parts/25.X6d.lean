theorem dX6_takeNotes_0 : decode cX6_takeNotes 0 = .ok (.iconst 0, 1) := by decide +kernel
theorem dX6_takeNotes_1 : decode cX6_takeNotes 1 = .ok (.istore_n 2, 1) := by decide +kernel
theorem dX6_takeNotes_2 : decode cX6_takeNotes 2 = .ok (.iload_n 2, 1) := by decide +kernel
theorem dX6_takeNotes_3 : decode cX6_takeNotes 3 = .ok (.bipush 8, 2) := by decide +kernel
theorem dX6_takeNotes_5 : decode cX6_takeNotes 5 = .ok (.if_icmp .ge 26, 3) := by decide +kernel
theorem dX6_takeNotes_8 : decode cX6_takeNotes 8 = .ok (.aload_n 0, 1) := by decide +kernel
theorem dX6_takeNotes_9 : decode cX6_takeNotes 9 = .ok (.getfield 83, 3) := by decide +kernel
theorem dX6_takeNotes_12 : decode cX6_takeNotes 12 = .ok (.iload_n 2, 1) := by decide +kernel
theorem dX6_takeNotes_13 : decode cX6_takeNotes 13 = .ok (.aload_n 0, 1) := by decide +kernel
theorem dX6_takeNotes_14 : decode cX6_takeNotes 14 = .ok (.getfield 65, 3) := by decide +kernel
theorem dX6_takeNotes_17 : decode cX6_takeNotes 17 = .ok (.iload_n 1, 1) := by decide +kernel
theorem dX6_takeNotes_18 : decode cX6_takeNotes 18 = .ok (.bipush 8, 2) := by decide +kernel
theorem dX6_takeNotes_20 : decode cX6_takeNotes 20 = .ok (.imul, 1) := by decide +kernel
theorem dX6_takeNotes_21 : decode cX6_takeNotes 21 = .ok (.iload_n 2, 1) := by decide +kernel
theorem dX6_takeNotes_22 : decode cX6_takeNotes 22 = .ok (.iadd, 1) := by decide +kernel
theorem dX6_takeNotes_23 : decode cX6_takeNotes 23 = .ok (.iaload, 1) := by decide +kernel
theorem dX6_takeNotes_24 : decode cX6_takeNotes 24 = .ok (.iastore, 1) := by decide +kernel
theorem dX6_takeNotes_25 : decode cX6_takeNotes 25 = .ok (.iinc 2 1, 3) := by decide +kernel
theorem dX6_takeNotes_28 : decode cX6_takeNotes 28 = .ok (.goto (-26), 3) := by decide +kernel
theorem dX6_takeNotes_31 : decode cX6_takeNotes 31 = .ok (.return_, 1) := by decide +kernel
set_option maxRecDepth 100000 in
set_option maxHeartbeats 4000000 in
theorem lc_X6_takeNotes_2 (Z : ZZ) (l : Launch) (a0 : Nat) (a1 : Int32) {args : Array Value} {h0 h1 : HP} {v0 : Unit} (K : HP → Option (Unit × HP)) (F : Int32 → HP → Option (Unit × HP))
    (hK : ∀ (h : HP), Sim Z l cX6_takeNotes RX6 3 0 0 (none) "takeNotes" args (Mq Z args h0 h1 (none)) h0 h1 v0 31 [] [] h (K h))
    (hF : ∀ (b2 : Int32) (h : HP), Sim Z l cX6_takeNotes RX6 3 0 0 (none) "takeNotes" args (Mq Z args h0 h1 (none)) h0 h1 v0 2 [(0, .ref (zb Z + a0)), (1, .int a1), (2, .int b2)] [] h (F b2 h)) :
    ∀ (b2 : Int32) (h : HP), Sim Z l cX6_takeNotes RX6 3 0 0 (none) "takeNotes" args (Mq Z args h0 h1 (none)) h0 h1 v0 2 [(0, .ref (zb Z + a0)), (1, .int a1), (2, .int b2)] [] h (lb_X6_takeNotes_2 a0 a1 K F b2 h) := by
  intro b2 h
  unfold lb_X6_takeNotes_2
  refine S_iload_n dX6_takeNotes_2 rfl 2 rfl (pc' := 3) rfl ?_
  refine S_bipush dX6_takeNotes_3 (v := 8) rfl (pc' := 5) rfl ?_
  refine S_icmp_ge dX6_takeNotes_5 31 rfl (pc' := 8) rfl (fun g5 => ?_) (fun g5 => ?_)
  · refine Sim.sub [] rfl ?_
    exact hK _
  · refine S_aload_n dX6_takeNotes_8 rfl 0 rfl (pc' := 9) rfl ?_
    refine S_getR fl_X6_83 rfl dX6_takeNotes_9 (pc' := 12) rfl (fun x9 => ?_)
    refine S_iload_n dX6_takeNotes_12 rfl 2 rfl (pc' := 13) rfl ?_
    refine S_aload_n dX6_takeNotes_13 rfl 0 rfl (pc' := 14) rfl ?_
    refine S_getR fl_X6_65 rfl dX6_takeNotes_14 (pc' := 17) rfl (fun x14 => ?_)
    refine S_iload_n dX6_takeNotes_17 rfl 1 rfl (pc' := 18) rfl ?_
    refine S_bipush dX6_takeNotes_18 (v := 8) rfl (pc' := 20) rfl ?_
    refine S_imul dX6_takeNotes_20 (pc' := 21) rfl ?_
    refine S_iload_n dX6_takeNotes_21 rfl 2 rfl (pc' := 22) rfl ?_
    refine S_iadd dX6_takeNotes_22 (pc' := 23) rfl ?_
    refine S_iaload dX6_takeNotes_23 (pc' := 24) rfl (fun x23 => ?_)
    refine S_iastore dX6_takeNotes_24 (pc' := 25) rfl (fun h24 => ?_)
    refine S_iinc dX6_takeNotes_25 (q := 2) rfl (v := b2 + 1) rfl (by decide) (lo' := [(2, .int (b2 + 1)), (0, .ref (zb Z + a0)), (1, .int a1)]) rfl (pc' := 28) rfl ?_
    refine S_goto dX6_takeNotes_28 2 rfl ?_
    refine Sim.sub [1, 2, 0] rfl ?_
    exact hF _ _
theorem lq_X6_takeNotes_2 (Z : ZZ) (l : Launch) (a0 : Nat) (a1 : Int32) {args : Array Value} {h0 h1 : HP} {v0 : Unit} (K : HP → Option (Unit × HP))
    (hK : ∀ (h : HP), Sim Z l cX6_takeNotes RX6 3 0 0 (none) "takeNotes" args (Mq Z args h0 h1 (none)) h0 h1 v0 31 [] [] h (K h)) :
    ∀ (k : Nat) (b2 : Int32) (h : HP), Sim Z l cX6_takeNotes RX6 3 0 0 (none) "takeNotes" args (Mq Z args h0 h1 (none)) h0 h1 v0 2 [(0, .ref (zb Z + a0)), (1, .int a1), (2, .int b2)] [] h (lp_X6_takeNotes_2 a0 a1 K k b2 h) := by
  intro k
  induction k with
  | zero => exact fun _ _ => Sim.none
  | succ k ih => exact lc_X6_takeNotes_2 Z l a0 a1 K _ hK ih
set_option maxRecDepth 100000 in
set_option maxHeartbeats 4000000 in
theorem c_X6_takeNotes (Z : ZZ) (l : Launch) (t : Nat) (a1 : Int32) (h : HP) {v : Unit} {h1 : HP} (ho : f_X6_takeNotes t a1 h = some (v, h1)) : MetP Z l yX6_takeNotes cX6_takeNotes 3 (none) 0 0 [.ref (zb Z + t), .int a1] h (none) h1 := by
  refine MetP_of ho (by decide +kernel) (Nat.le_of_ble_eq_true rfl) [(0, .ref (zb Z + t)), (1, .int a1)] rfl (own := RX6) rfl (nm := "takeNotes") rfl ?_
  unfold f_X6_takeNotes
  refine S_iconst dX6_takeNotes_0 (v := 0) rfl (pc' := 1) rfl ?_
  refine S_istore_n dX6_takeNotes_1 rfl (by decide) (lo' := [(2, .int 0), (0, .ref (zb Z + t)), (1, .int a1)]) rfl (pc' := 2) rfl ?_
  refine Sim.sub [1, 2, 0] rfl ?_
  refine lq_X6_takeNotes_2 Z l t a1 _ ?_ 1000 _ _
  intro h2_
  exact S_vret rfl dX6_takeNotes_31
theorem dX6_changes_0 : decode cX6_changes 0 = .ok (.aload_n 0, 1) := by decide +kernel
theorem dX6_changes_1 : decode cX6_changes 1 = .ok (.iload_n 1, 1) := by decide +kernel
theorem dX6_changes_2 : decode cX6_changes 2 = .ok (.invokevirtual 148, 3) := by decide +kernel
theorem dX6_changes_5 : decode cX6_changes 5 = .ok (.ifCond .eq 11, 3) := by decide +kernel
theorem dX6_changes_8 : decode cX6_changes 8 = .ok (.aload_n 0, 1) := by decide +kernel
theorem dX6_changes_9 : decode cX6_changes 9 = .ok (.iload_n 2, 1) := by decide +kernel
theorem dX6_changes_10 : decode cX6_changes 10 = .ok (.invokevirtual 148, 3) := by decide +kernel
theorem dX6_changes_13 : decode cX6_changes 13 = .ok (.ifCond .ne 10, 3) := by decide +kernel
theorem dX6_changes_16 : decode cX6_changes 16 = .ok (.aload_n 0, 1) := by decide +kernel
theorem dX6_changes_17 : decode cX6_changes 17 = .ok (.bipush (-2), 2) := by decide +kernel
theorem dX6_changes_19 : decode cX6_changes 19 = .ok (.invokevirtual 108, 3) := by decide +kernel
theorem dX6_changes_22 : decode cX6_changes 22 = .ok (.ireturn, 1) := by decide +kernel
theorem dX6_changes_23 : decode cX6_changes 23 = .ok (.aload_n 0, 1) := by decide +kernel
theorem dX6_changes_24 : decode cX6_changes 24 = .ok (.iload_n 1, 1) := by decide +kernel
theorem dX6_changes_25 : decode cX6_changes 25 = .ok (.invokevirtual 334, 3) := by decide +kernel
theorem dX6_changes_28 : decode cX6_changes 28 = .ok (.aload_n 0, 1) := by decide +kernel
theorem dX6_changes_29 : decode cX6_changes 29 = .ok (.iload_n 2, 1) := by decide +kernel
theorem dX6_changes_30 : decode cX6_changes 30 = .ok (.bipush 8, 2) := by decide +kernel
theorem dX6_changes_32 : decode cX6_changes 32 = .ok (.invokevirtual 338, 3) := by decide +kernel
theorem dX6_changes_35 : decode cX6_changes 35 = .ok (.ireturn, 1) := by decide +kernel
set_option maxRecDepth 100000 in
set_option maxHeartbeats 4000000 in
theorem c_X6_changes (Z : ZZ) (l : Launch) (t : Nat) (a1 : Int32) (a2 : Int32) (h : HP) {v : Int32} {h1 : HP} (ho : f_X6_changes t a1 a2 h = some (v, h1)) : MetP Z l yX6_changes cX6_changes 3 (some .int) 2 48 [.ref (zb Z + t), .int a1, .int a2] h (some (.int v)) h1 := by
  refine MetP_of ho (by decide +kernel) (Nat.le_of_ble_eq_true rfl) [(0, .ref (zb Z + t)), (1, .int a1), (2, .int a2)] rfl (own := RX6) rfl (nm := "changes") rfl ?_
  unfold f_X6_changes
  refine S_aload_n dX6_changes_0 rfl 0 rfl (pc' := 1) rfl ?_
  refine S_iload_n dX6_changes_1 rfl 1 rfl (pc' := 2) rfl ?_
  refine S_invi ml_X6_148 mi_X6_isSong (ci := 6) ⟨_, rfl, rfl⟩ (by decide) dX6_changes_2 [.int a1] rfl (fun v h2 q => c_X6_isSong Z l _ _ _ q) ⟨Nat.le_of_ble_eq_true rfl, Nat.le_of_ble_eq_true rfl⟩ (rest := []) (Nat.le_of_ble_eq_true rfl) rfl (pc' := 5) rfl (fun x2 h2 => ?_)
  refine S_if_eq dX6_changes_5 16 rfl (pc' := 8) rfl (fun g5 => ?_) (fun g5 => ?_)
  · refine S_aload_n dX6_changes_16 rfl 0 rfl (pc' := 17) rfl ?_
    refine S_bipush dX6_changes_17 (v := (-2)) rfl (pc' := 19) rfl ?_
    refine S_invi ml_X6_108 mi_X6_refuse (ci := 6) ⟨_, rfl, rfl⟩ (by decide) dX6_changes_19 [.int (-2)] rfl (fun v h2 q => c_X6_refuse Z l _ _ _ q) ⟨Nat.le_of_ble_eq_true rfl, Nat.le_of_ble_eq_true rfl⟩ (rest := []) (Nat.le_of_ble_eq_true rfl) rfl (pc' := 22) rfl (fun x19 h19 => ?_)
    exact S_iret rfl dX6_changes_22
  · refine S_aload_n dX6_changes_8 rfl 0 rfl (pc' := 9) rfl ?_
    refine S_iload_n dX6_changes_9 rfl 2 rfl (pc' := 10) rfl ?_
    refine S_invi ml_X6_148 mi_X6_isSong (ci := 6) ⟨_, rfl, rfl⟩ (by decide) dX6_changes_10 [.int a2] rfl (fun v h2 q => c_X6_isSong Z l _ _ _ q) ⟨Nat.le_of_ble_eq_true rfl, Nat.le_of_ble_eq_true rfl⟩ (rest := []) (Nat.le_of_ble_eq_true rfl) rfl (pc' := 13) rfl (fun x10 h10 => ?_)
    refine S_if_ne dX6_changes_13 23 rfl (pc' := 16) rfl (fun g13 => ?_) (fun g13 => ?_)
    · refine S_aload_n dX6_changes_23 rfl 0 rfl (pc' := 24) rfl ?_
      refine S_iload_n dX6_changes_24 rfl 1 rfl (pc' := 25) rfl ?_
      refine S_invv ml_X6_334 mi_X6_takeNotes (ci := 6) ⟨_, rfl, rfl⟩ (by decide) dX6_changes_25 [.int a1] rfl (fun v h2 q => c_X6_takeNotes Z l _ _ _ q) ⟨Nat.le_of_ble_eq_true rfl, Nat.le_of_ble_eq_true rfl⟩ (rest := []) (Nat.le_of_ble_eq_true rfl) rfl (pc' := 28) rfl (fun _ h25 => ?_)
      refine S_aload_n dX6_changes_28 rfl 0 rfl (pc' := 29) rfl ?_
      refine S_iload_n dX6_changes_29 rfl 2 rfl (pc' := 30) rfl ?_
      refine S_bipush dX6_changes_30 (v := 8) rfl (pc' := 32) rfl ?_
      refine S_invi ml_X6_338 mi_X6_changesTo (ci := 6) ⟨_, rfl, rfl⟩ (by decide) dX6_changes_32 [.int a2, .int 8] rfl (fun v h2 q => c_X6_changesTo Z l _ _ _ _ q) ⟨Nat.le_of_ble_eq_true rfl, Nat.le_of_ble_eq_true rfl⟩ (rest := []) (Nat.le_of_ble_eq_true rfl) rfl (pc' := 35) rfl (fun x32 h32 => ?_)
      exact S_iret rfl dX6_changes_35
    · refine S_aload_n dX6_changes_16 rfl 0 rfl (pc' := 17) rfl ?_
      refine S_bipush dX6_changes_17 (v := (-2)) rfl (pc' := 19) rfl ?_
      refine S_invi ml_X6_108 mi_X6_refuse (ci := 6) ⟨_, rfl, rfl⟩ (by decide) dX6_changes_19 [.int (-2)] rfl (fun v h2 q => c_X6_refuse Z l _ _ _ q) ⟨Nat.le_of_ble_eq_true rfl, Nat.le_of_ble_eq_true rfl⟩ (rest := []) (Nat.le_of_ble_eq_true rfl) rfl (pc' := 22) rfl (fun x19 h19 => ?_)
      exact S_iret rfl dX6_changes_22
theorem dX6_isEnd_0 : decode cX6_isEnd 0 = .ok (.iconst 0, 1) := by decide +kernel
theorem dX6_isEnd_1 : decode cX6_isEnd 1 = .ok (.istore 4, 2) := by decide +kernel
theorem dX6_isEnd_3 : decode cX6_isEnd 3 = .ok (.iload 4, 2) := by decide +kernel
theorem dX6_isEnd_5 : decode cX6_isEnd 5 = .ok (.iload_n 3, 1) := by decide +kernel
theorem dX6_isEnd_6 : decode cX6_isEnd 6 = .ok (.if_icmp .ge 43, 3) := by decide +kernel
theorem dX6_isEnd_9 : decode cX6_isEnd 9 = .ok (.aload_n 0, 1) := by decide +kernel
theorem dX6_isEnd_10 : decode cX6_isEnd 10 = .ok (.getfield 65, 3) := by decide +kernel
theorem dX6_isEnd_13 : decode cX6_isEnd 13 = .ok (.iload_n 1, 1) := by decide +kernel
theorem dX6_isEnd_14 : decode cX6_isEnd 14 = .ok (.bipush 8, 2) := by decide +kernel
theorem dX6_isEnd_16 : decode cX6_isEnd 16 = .ok (.imul, 1) := by decide +kernel
theorem dX6_isEnd_17 : decode cX6_isEnd 17 = .ok (.bipush 8, 2) := by decide +kernel
theorem dX6_isEnd_19 : decode cX6_isEnd 19 = .ok (.iadd, 1) := by decide +kernel
theorem dX6_isEnd_20 : decode cX6_isEnd 20 = .ok (.iload_n 3, 1) := by decide +kernel
theorem dX6_isEnd_21 : decode cX6_isEnd 21 = .ok (.isub, 1) := by decide +kernel
theorem dX6_isEnd_22 : decode cX6_isEnd 22 = .ok (.iload 4, 2) := by decide +kernel
theorem dX6_isEnd_24 : decode cX6_isEnd 24 = .ok (.iadd, 1) := by decide +kernel
theorem dX6_isEnd_25 : decode cX6_isEnd 25 = .ok (.iaload, 1) := by decide +kernel
theorem dX6_isEnd_26 : decode cX6_isEnd 26 = .ok (.aload_n 0, 1) := by decide +kernel
theorem dX6_isEnd_27 : decode cX6_isEnd 27 = .ok (.getfield 65, 3) := by decide +kernel
theorem dX6_isEnd_30 : decode cX6_isEnd 30 = .ok (.iload_n 2, 1) := by decide +kernel
theorem dX6_isEnd_31 : decode cX6_isEnd 31 = .ok (.bipush 8, 2) := by decide +kernel
theorem dX6_isEnd_33 : decode cX6_isEnd 33 = .ok (.imul, 1) := by decide +kernel
theorem dX6_isEnd_34 : decode cX6_isEnd 34 = .ok (.iload 4, 2) := by decide +kernel
theorem dX6_isEnd_36 : decode cX6_isEnd 36 = .ok (.iadd, 1) := by decide +kernel
theorem dX6_isEnd_37 : decode cX6_isEnd 37 = .ok (.iaload, 1) := by decide +kernel
theorem dX6_isEnd_38 : decode cX6_isEnd 38 = .ok (.if_icmp .eq 5, 3) := by decide +kernel
theorem dX6_isEnd_41 : decode cX6_isEnd 41 = .ok (.iconst 0, 1) := by decide +kernel
theorem dX6_isEnd_42 : decode cX6_isEnd 42 = .ok (.ireturn, 1) := by decide +kernel
theorem dX6_isEnd_43 : decode cX6_isEnd 43 = .ok (.iinc 4 1, 3) := by decide +kernel
theorem dX6_isEnd_46 : decode cX6_isEnd 46 = .ok (.goto (-43), 3) := by decide +kernel
theorem dX6_isEnd_49 : decode cX6_isEnd 49 = .ok (.iconst 1, 1) := by decide +kernel
theorem dX6_isEnd_50 : decode cX6_isEnd 50 = .ok (.ireturn, 1) := by decide +kernel
set_option maxRecDepth 100000 in
set_option maxHeartbeats 4000000 in
theorem lc_X6_isEnd_3 (Z : ZZ) (l : Launch) (a0 : Nat) (a1 : Int32) (a2 : Int32) (a3 : Int32) {args : Array Value} {h0 h1 : HP} {v0 : Int32} (K : HP → Option (Int32 × HP)) (F : Int32 → HP → Option (Int32 × HP))
    (hK : ∀ (h : HP), Sim Z l cX6_isEnd RX6 5 0 0 (some .boolean) "isEnd" args (Mq Z args h0 h1 (some (.int v0))) h0 h1 v0 49 [] [] h (K h))
    (hF : ∀ (b4 : Int32) (h : HP), Sim Z l cX6_isEnd RX6 5 0 0 (some .boolean) "isEnd" args (Mq Z args h0 h1 (some (.int v0))) h0 h1 v0 3 [(0, .ref (zb Z + a0)), (1, .int a1), (2, .int a2), (3, .int a3), (4, .int b4)] [] h (F b4 h)) :
    ∀ (b4 : Int32) (h : HP), Sim Z l cX6_isEnd RX6 5 0 0 (some .boolean) "isEnd" args (Mq Z args h0 h1 (some (.int v0))) h0 h1 v0 3 [(0, .ref (zb Z + a0)), (1, .int a1), (2, .int a2), (3, .int a3), (4, .int b4)] [] h (lb_X6_isEnd_3 a0 a1 a2 a3 K F b4 h) := by
  intro b4 h
  unfold lb_X6_isEnd_3
  refine S_iload dX6_isEnd_3 4 rfl (pc' := 5) rfl ?_
  refine S_iload_n dX6_isEnd_5 rfl 3 rfl (pc' := 6) rfl ?_
  refine S_icmp_ge dX6_isEnd_6 49 rfl (pc' := 9) rfl (fun g6 => ?_) (fun g6 => ?_)
  · refine Sim.sub [] rfl ?_
    exact hK _
  · refine S_aload_n dX6_isEnd_9 rfl 0 rfl (pc' := 10) rfl ?_
    refine S_getR fl_X6_65 rfl dX6_isEnd_10 (pc' := 13) rfl (fun x10 => ?_)
    refine S_iload_n dX6_isEnd_13 rfl 1 rfl (pc' := 14) rfl ?_
    refine S_bipush dX6_isEnd_14 (v := 8) rfl (pc' := 16) rfl ?_
    refine S_imul dX6_isEnd_16 (pc' := 17) rfl ?_
    refine S_bipush dX6_isEnd_17 (v := 8) rfl (pc' := 19) rfl ?_
    refine S_iadd dX6_isEnd_19 (pc' := 20) rfl ?_
    refine S_iload_n dX6_isEnd_20 rfl 3 rfl (pc' := 21) rfl ?_
    refine S_isub dX6_isEnd_21 (pc' := 22) rfl ?_
    refine S_iload dX6_isEnd_22 4 rfl (pc' := 24) rfl ?_
    refine S_iadd dX6_isEnd_24 (pc' := 25) rfl ?_
    refine S_iaload dX6_isEnd_25 (pc' := 26) rfl (fun x25 => ?_)
    refine S_aload_n dX6_isEnd_26 rfl 0 rfl (pc' := 27) rfl ?_
    refine S_getR fl_X6_65 rfl dX6_isEnd_27 (pc' := 30) rfl (fun x27 => ?_)
    refine S_iload_n dX6_isEnd_30 rfl 2 rfl (pc' := 31) rfl ?_
    refine S_bipush dX6_isEnd_31 (v := 8) rfl (pc' := 33) rfl ?_
    refine S_imul dX6_isEnd_33 (pc' := 34) rfl ?_
    refine S_iload dX6_isEnd_34 4 rfl (pc' := 36) rfl ?_
    refine S_iadd dX6_isEnd_36 (pc' := 37) rfl ?_
    refine S_iaload dX6_isEnd_37 (pc' := 38) rfl (fun x37 => ?_)
    refine S_icmp_eq dX6_isEnd_38 43 rfl (pc' := 41) rfl (fun g38 => ?_) (fun g38 => ?_)
    · refine S_iinc dX6_isEnd_43 (q := 4) rfl (v := b4 + 1) rfl (by decide) (lo' := [(4, .int (b4 + 1)), (0, .ref (zb Z + a0)), (1, .int a1), (2, .int a2), (3, .int a3)]) rfl (pc' := 46) rfl ?_
      refine S_goto dX6_isEnd_46 3 rfl ?_
      refine Sim.sub [1, 2, 3, 4, 0] rfl ?_
      exact hF _ _
    · refine S_iconst dX6_isEnd_41 (v := 0) rfl (pc' := 42) rfl ?_
      exact S_zret rfl dX6_isEnd_42
theorem lq_X6_isEnd_3 (Z : ZZ) (l : Launch) (a0 : Nat) (a1 : Int32) (a2 : Int32) (a3 : Int32) {args : Array Value} {h0 h1 : HP} {v0 : Int32} (K : HP → Option (Int32 × HP))
    (hK : ∀ (h : HP), Sim Z l cX6_isEnd RX6 5 0 0 (some .boolean) "isEnd" args (Mq Z args h0 h1 (some (.int v0))) h0 h1 v0 49 [] [] h (K h)) :
    ∀ (k : Nat) (b4 : Int32) (h : HP), Sim Z l cX6_isEnd RX6 5 0 0 (some .boolean) "isEnd" args (Mq Z args h0 h1 (some (.int v0))) h0 h1 v0 3 [(0, .ref (zb Z + a0)), (1, .int a1), (2, .int a2), (3, .int a3), (4, .int b4)] [] h (lp_X6_isEnd_3 a0 a1 a2 a3 K k b4 h) := by
  intro k
  induction k with
  | zero => exact fun _ _ => Sim.none
  | succ k ih => exact lc_X6_isEnd_3 Z l a0 a1 a2 a3 K _ hK ih
set_option maxRecDepth 100000 in
set_option maxHeartbeats 4000000 in
theorem c_X6_isEnd (Z : ZZ) (l : Launch) (t : Nat) (a1 : Int32) (a2 : Int32) (a3 : Int32) (h : HP) {v : Int32} {h1 : HP} (ho : f_X6_isEnd t a1 a2 a3 h = some (v, h1)) : MetP Z l yX6_isEnd cX6_isEnd 5 (some .boolean) 0 0 [.ref (zb Z + t), .int a1, .int a2, .int a3] h (some (.int v)) h1 := by
  refine MetP_of ho (by decide +kernel) (Nat.le_of_ble_eq_true rfl) [(0, .ref (zb Z + t)), (1, .int a1), (2, .int a2), (3, .int a3)] rfl (own := RX6) rfl (nm := "isEnd") rfl ?_
  unfold f_X6_isEnd
  refine S_iconst dX6_isEnd_0 (v := 0) rfl (pc' := 1) rfl ?_
  refine S_istore dX6_isEnd_1 (by decide) (lo' := [(4, .int 0), (0, .ref (zb Z + t)), (1, .int a1), (2, .int a2), (3, .int a3)]) rfl (pc' := 3) rfl ?_
  refine Sim.sub [1, 2, 3, 4, 0] rfl ?_
  refine lq_X6_isEnd_3 Z l t a1 a2 a3 _ ?_ 1000 _ _
  intro h3_
  refine S_iconst dX6_isEnd_49 (v := 1) rfl (pc' := 50) rfl ?_
  exact S_zret rfl dX6_isEnd_50
theorem dX6_join_0 : decode cX6_join 0 = .ok (.aload_n 0, 1) := by decide +kernel
theorem dX6_join_1 : decode cX6_join 1 = .ok (.iload_n 1, 1) := by decide +kernel
theorem dX6_join_2 : decode cX6_join 2 = .ok (.invokevirtual 148, 3) := by decide +kernel
theorem dX6_join_5 : decode cX6_join 5 = .ok (.ifCond .eq 11, 3) := by decide +kernel
theorem dX6_join_8 : decode cX6_join 8 = .ok (.aload_n 0, 1) := by decide +kernel
theorem dX6_join_9 : decode cX6_join 9 = .ok (.iload_n 2, 1) := by decide +kernel
theorem dX6_join_10 : decode cX6_join 10 = .ok (.invokevirtual 148, 3) := by decide +kernel
theorem dX6_join_13 : decode cX6_join 13 = .ok (.ifCond .ne 10, 3) := by decide +kernel
theorem dX6_join_16 : decode cX6_join 16 = .ok (.aload_n 0, 1) := by decide +kernel
theorem dX6_join_17 : decode cX6_join 17 = .ok (.bipush (-2), 2) := by decide +kernel
theorem dX6_join_19 : decode cX6_join 19 = .ok (.invokevirtual 108, 3) := by decide +kernel
theorem dX6_join_22 : decode cX6_join 22 = .ok (.ireturn, 1) := by decide +kernel
theorem dX6_join_23 : decode cX6_join 23 = .ok (.bipush 8, 2) := by decide +kernel
theorem dX6_join_25 : decode cX6_join 25 = .ok (.istore_n 3, 1) := by decide +kernel
theorem dX6_join_26 : decode cX6_join 26 = .ok (.aload_n 0, 1) := by decide +kernel
theorem dX6_join_27 : decode cX6_join 27 = .ok (.iload_n 1, 1) := by decide +kernel
theorem dX6_join_28 : decode cX6_join 28 = .ok (.iload_n 2, 1) := by decide +kernel
theorem dX6_join_29 : decode cX6_join 29 = .ok (.iload_n 3, 1) := by decide +kernel
theorem dX6_join_30 : decode cX6_join 30 = .ok (.invokevirtual 341, 3) := by decide +kernel
theorem dX6_join_33 : decode cX6_join 33 = .ok (.ifCond .ne 9, 3) := by decide +kernel
theorem dX6_join_36 : decode cX6_join 36 = .ok (.iinc 3 (-1), 3) := by decide +kernel
theorem dX6_join_39 : decode cX6_join 39 = .ok (.goto (-13), 3) := by decide +kernel
theorem dX6_join_42 : decode cX6_join 42 = .ok (.bipush 16, 2) := by decide +kernel
theorem dX6_join_44 : decode cX6_join 44 = .ok (.iload_n 3, 1) := by decide +kernel
theorem dX6_join_45 : decode cX6_join 45 = .ok (.isub, 1) := by decide +kernel
theorem dX6_join_46 : decode cX6_join 46 = .ok (.ireturn, 1) := by decide +kernel
set_option maxRecDepth 100000 in
set_option maxHeartbeats 4000000 in
theorem lc_X6_join_26 (Z : ZZ) (l : Launch) (a0 : Nat) (a1 : Int32) (a2 : Int32) {args : Array Value} {h0 h1 : HP} {v0 : Int32} (K : Int32 → HP → Option (Int32 × HP)) (F : Int32 → HP → Option (Int32 × HP))
    (hK : ∀ (b3 : Int32) (h : HP), Sim Z l cX6_join RX6 4 2 46 (some .int) "join" args (Mq Z args h0 h1 (some (.int v0))) h0 h1 v0 42 [(3, .int b3)] [] h (K b3 h))
    (hF : ∀ (b3 : Int32) (h : HP), Sim Z l cX6_join RX6 4 2 46 (some .int) "join" args (Mq Z args h0 h1 (some (.int v0))) h0 h1 v0 26 [(0, .ref (zb Z + a0)), (1, .int a1), (2, .int a2), (3, .int b3)] [] h (F b3 h)) :
    ∀ (b3 : Int32) (h : HP), Sim Z l cX6_join RX6 4 2 46 (some .int) "join" args (Mq Z args h0 h1 (some (.int v0))) h0 h1 v0 26 [(0, .ref (zb Z + a0)), (1, .int a1), (2, .int a2), (3, .int b3)] [] h (lb_X6_join_26 a0 a1 a2 K F b3 h) := by
  intro b3 h
  unfold lb_X6_join_26
  refine S_aload_n dX6_join_26 rfl 0 rfl (pc' := 27) rfl ?_
  refine S_iload_n dX6_join_27 rfl 1 rfl (pc' := 28) rfl ?_
  refine S_iload_n dX6_join_28 rfl 2 rfl (pc' := 29) rfl ?_
  refine S_iload_n dX6_join_29 rfl 3 rfl (pc' := 30) rfl ?_
  refine S_invi ml_X6_341 mi_X6_isEnd (ci := 6) ⟨_, rfl, rfl⟩ (by decide) dX6_join_30 [.int a1, .int a2, .int b3] rfl (fun v h2 q => c_X6_isEnd Z l _ _ _ _ _ q) ⟨Nat.le_of_ble_eq_true rfl, Nat.le_of_ble_eq_true rfl⟩ (rest := []) (Nat.le_of_ble_eq_true rfl) rfl (pc' := 33) rfl (fun x30 h30 => ?_)
  refine S_if_ne dX6_join_33 42 rfl (pc' := 36) rfl (fun g33 => ?_) (fun g33 => ?_)
  · refine Sim.sub [3] rfl ?_
    exact hK _ _
  · refine S_iinc dX6_join_36 (q := 3) rfl (v := b3 + (-1)) rfl (by decide) (lo' := [(3, .int (b3 + (-1))), (0, .ref (zb Z + a0)), (1, .int a1), (2, .int a2)]) rfl (pc' := 39) rfl ?_
    refine S_goto dX6_join_39 26 rfl ?_
    refine Sim.sub [1, 2, 3, 0] rfl ?_
    exact hF _ _
theorem lq_X6_join_26 (Z : ZZ) (l : Launch) (a0 : Nat) (a1 : Int32) (a2 : Int32) {args : Array Value} {h0 h1 : HP} {v0 : Int32} (K : Int32 → HP → Option (Int32 × HP))
    (hK : ∀ (b3 : Int32) (h : HP), Sim Z l cX6_join RX6 4 2 46 (some .int) "join" args (Mq Z args h0 h1 (some (.int v0))) h0 h1 v0 42 [(3, .int b3)] [] h (K b3 h)) :
    ∀ (k : Nat) (b3 : Int32) (h : HP), Sim Z l cX6_join RX6 4 2 46 (some .int) "join" args (Mq Z args h0 h1 (some (.int v0))) h0 h1 v0 26 [(0, .ref (zb Z + a0)), (1, .int a1), (2, .int a2), (3, .int b3)] [] h (lp_X6_join_26 a0 a1 a2 K k b3 h) := by
  intro k
  induction k with
  | zero => exact fun _ _ => Sim.none
  | succ k ih => exact lc_X6_join_26 Z l a0 a1 a2 K _ hK ih
set_option maxRecDepth 100000 in
set_option maxHeartbeats 4000000 in
theorem c_X6_join (Z : ZZ) (l : Launch) (t : Nat) (a1 : Int32) (a2 : Int32) (h : HP) {v : Int32} {h1 : HP} (ho : f_X6_join t a1 a2 h = some (v, h1)) : MetP Z l yX6_join cX6_join 4 (some .int) 2 46 [.ref (zb Z + t), .int a1, .int a2] h (some (.int v)) h1 := by
  refine MetP_of ho (by decide +kernel) (Nat.le_of_ble_eq_true rfl) [(0, .ref (zb Z + t)), (1, .int a1), (2, .int a2)] rfl (own := RX6) rfl (nm := "join") rfl ?_
  unfold f_X6_join
  refine S_aload_n dX6_join_0 rfl 0 rfl (pc' := 1) rfl ?_
  refine S_iload_n dX6_join_1 rfl 1 rfl (pc' := 2) rfl ?_
  refine S_invi ml_X6_148 mi_X6_isSong (ci := 6) ⟨_, rfl, rfl⟩ (by decide) dX6_join_2 [.int a1] rfl (fun v h2 q => c_X6_isSong Z l _ _ _ q) ⟨Nat.le_of_ble_eq_true rfl, Nat.le_of_ble_eq_true rfl⟩ (rest := []) (Nat.le_of_ble_eq_true rfl) rfl (pc' := 5) rfl (fun x2 h2 => ?_)
  refine S_if_eq dX6_join_5 16 rfl (pc' := 8) rfl (fun g5 => ?_) (fun g5 => ?_)
  · refine S_aload_n dX6_join_16 rfl 0 rfl (pc' := 17) rfl ?_
    refine S_bipush dX6_join_17 (v := (-2)) rfl (pc' := 19) rfl ?_
    refine S_invi ml_X6_108 mi_X6_refuse (ci := 6) ⟨_, rfl, rfl⟩ (by decide) dX6_join_19 [.int (-2)] rfl (fun v h2 q => c_X6_refuse Z l _ _ _ q) ⟨Nat.le_of_ble_eq_true rfl, Nat.le_of_ble_eq_true rfl⟩ (rest := []) (Nat.le_of_ble_eq_true rfl) rfl (pc' := 22) rfl (fun x19 h19 => ?_)
    exact S_iret rfl dX6_join_22
  · refine S_aload_n dX6_join_8 rfl 0 rfl (pc' := 9) rfl ?_
    refine S_iload_n dX6_join_9 rfl 2 rfl (pc' := 10) rfl ?_
    refine S_invi ml_X6_148 mi_X6_isSong (ci := 6) ⟨_, rfl, rfl⟩ (by decide) dX6_join_10 [.int a2] rfl (fun v h2 q => c_X6_isSong Z l _ _ _ q) ⟨Nat.le_of_ble_eq_true rfl, Nat.le_of_ble_eq_true rfl⟩ (rest := []) (Nat.le_of_ble_eq_true rfl) rfl (pc' := 13) rfl (fun x10 h10 => ?_)
    refine S_if_ne dX6_join_13 23 rfl (pc' := 16) rfl (fun g13 => ?_) (fun g13 => ?_)
    · refine S_bipush dX6_join_23 (v := 8) rfl (pc' := 25) rfl ?_
      refine S_istore_n dX6_join_25 rfl (by decide) (lo' := [(3, .int 8), (0, .ref (zb Z + t)), (1, .int a1), (2, .int a2)]) rfl (pc' := 26) rfl ?_
      refine Sim.sub [1, 2, 3, 0] rfl ?_
      refine lq_X6_join_26 Z l t a1 a2 _ ?_ 1000 _ _
      intro b3_26 h26_
      refine S_bipush dX6_join_42 (v := 16) rfl (pc' := 44) rfl ?_
      refine S_iload_n dX6_join_44 rfl 0 rfl (pc' := 45) rfl ?_
      refine S_isub dX6_join_45 (pc' := 46) rfl ?_
      exact S_iret rfl dX6_join_46
    · refine S_aload_n dX6_join_16 rfl 0 rfl (pc' := 17) rfl ?_
      refine S_bipush dX6_join_17 (v := (-2)) rfl (pc' := 19) rfl ?_
      refine S_invi ml_X6_108 mi_X6_refuse (ci := 6) ⟨_, rfl, rfl⟩ (by decide) dX6_join_19 [.int (-2)] rfl (fun v h2 q => c_X6_refuse Z l _ _ _ q) ⟨Nat.le_of_ble_eq_true rfl, Nat.le_of_ble_eq_true rfl⟩ (rest := []) (Nat.le_of_ble_eq_true rfl) rfl (pc' := 22) rfl (fun x19 h19 => ?_)
      exact S_iret rfl dX6_join_22
theorem dX6_like_0 : decode cX6_like 0 = .ok (.aload_n 0, 1) := by decide +kernel
theorem dX6_like_1 : decode cX6_like 1 = .ok (.iload_n 1, 1) := by decide +kernel
theorem dX6_like_2 : decode cX6_like 2 = .ok (.invokevirtual 148, 3) := by decide +kernel
theorem dX6_like_5 : decode cX6_like 5 = .ok (.ifCond .eq 11, 3) := by decide +kernel
theorem dX6_like_8 : decode cX6_like 8 = .ok (.aload_n 0, 1) := by decide +kernel
theorem dX6_like_9 : decode cX6_like 9 = .ok (.iload_n 2, 1) := by decide +kernel
theorem dX6_like_10 : decode cX6_like 10 = .ok (.invokevirtual 148, 3) := by decide +kernel
theorem dX6_like_13 : decode cX6_like 13 = .ok (.ifCond .ne 10, 3) := by decide +kernel
theorem dX6_like_16 : decode cX6_like 16 = .ok (.aload_n 0, 1) := by decide +kernel
theorem dX6_like_17 : decode cX6_like 17 = .ok (.bipush (-2), 2) := by decide +kernel
theorem dX6_like_19 : decode cX6_like 19 = .ok (.invokevirtual 108, 3) := by decide +kernel
theorem dX6_like_22 : decode cX6_like 22 = .ok (.ireturn, 1) := by decide +kernel
theorem dX6_like_23 : decode cX6_like 23 = .ok (.iconst 0, 1) := by decide +kernel
theorem dX6_like_24 : decode cX6_like 24 = .ok (.istore_n 3, 1) := by decide +kernel
theorem dX6_like_25 : decode cX6_like 25 = .ok (.iconst 0, 1) := by decide +kernel
theorem dX6_like_26 : decode cX6_like 26 = .ok (.istore 4, 2) := by decide +kernel
theorem dX6_like_28 : decode cX6_like 28 = .ok (.iload 4, 2) := by decide +kernel
theorem dX6_like_30 : decode cX6_like 30 = .ok (.bipush 8, 2) := by decide +kernel
theorem dX6_like_32 : decode cX6_like 32 = .ok (.if_icmp .ge 44, 3) := by decide +kernel
theorem dX6_like_35 : decode cX6_like 35 = .ok (.iload_n 3, 1) := by decide +kernel
theorem dX6_like_36 : decode cX6_like 36 = .ok (.aload_n 0, 1) := by decide +kernel
theorem dX6_like_37 : decode cX6_like 37 = .ok (.getfield 65, 3) := by decide +kernel
theorem dX6_like_40 : decode cX6_like 40 = .ok (.iload_n 1, 1) := by decide +kernel
theorem dX6_like_41 : decode cX6_like 41 = .ok (.bipush 8, 2) := by decide +kernel
theorem dX6_like_43 : decode cX6_like 43 = .ok (.imul, 1) := by decide +kernel
theorem dX6_like_44 : decode cX6_like 44 = .ok (.iload 4, 2) := by decide +kernel
theorem dX6_like_46 : decode cX6_like 46 = .ok (.iadd, 1) := by decide +kernel
theorem dX6_like_47 : decode cX6_like 47 = .ok (.iaload, 1) := by decide +kernel
theorem dX6_like_48 : decode cX6_like 48 = .ok (.aload_n 0, 1) := by decide +kernel
theorem dX6_like_49 : decode cX6_like 49 = .ok (.getfield 65, 3) := by decide +kernel
theorem dX6_like_52 : decode cX6_like 52 = .ok (.iload_n 2, 1) := by decide +kernel
theorem dX6_like_53 : decode cX6_like 53 = .ok (.bipush 8, 2) := by decide +kernel
theorem dX6_like_55 : decode cX6_like 55 = .ok (.imul, 1) := by decide +kernel
theorem dX6_like_56 : decode cX6_like 56 = .ok (.iload 4, 2) := by decide +kernel
theorem dX6_like_58 : decode cX6_like 58 = .ok (.iadd, 1) := by decide +kernel
theorem dX6_like_59 : decode cX6_like 59 = .ok (.iaload, 1) := by decide +kernel
theorem dX6_like_60 : decode cX6_like 60 = .ok (.if_icmp .ne 7, 3) := by decide +kernel
theorem dX6_like_63 : decode cX6_like 63 = .ok (.iconst 1, 1) := by decide +kernel
theorem dX6_like_64 : decode cX6_like 64 = .ok (.goto 4, 3) := by decide +kernel
theorem dX6_like_67 : decode cX6_like 67 = .ok (.iconst 0, 1) := by decide +kernel
theorem dX6_like_68 : decode cX6_like 68 = .ok (.iadd, 1) := by decide +kernel
theorem dX6_like_69 : decode cX6_like 69 = .ok (.istore_n 3, 1) := by decide +kernel
theorem dX6_like_70 : decode cX6_like 70 = .ok (.iinc 4 1, 3) := by decide +kernel
theorem dX6_like_73 : decode cX6_like 73 = .ok (.goto (-45), 3) := by decide +kernel
theorem dX6_like_76 : decode cX6_like 76 = .ok (.iload_n 3, 1) := by decide +kernel
theorem dX6_like_77 : decode cX6_like 77 = .ok (.ireturn, 1) := by decide +kernel
set_option maxRecDepth 100000 in
set_option maxHeartbeats 4000000 in
theorem lc_X6_like_28 (Z : ZZ) (l : Launch) (a0 : Nat) (a1 : Int32) (a2 : Int32) {args : Array Value} {h0 h1 : HP} {v0 : Int32} (K : Int32 → HP → Option (Int32 × HP)) (F : Int32 → Int32 → HP → Option (Int32 × HP))
    (hK : ∀ (b3 : Int32) (h : HP), Sim Z l cX6_like RX6 5 2 46 (some .int) "like" args (Mq Z args h0 h1 (some (.int v0))) h0 h1 v0 76 [(3, .int b3)] [] h (K b3 h))
    (hF : ∀ (b3 : Int32) (b4 : Int32) (h : HP), Sim Z l cX6_like RX6 5 2 46 (some .int) "like" args (Mq Z args h0 h1 (some (.int v0))) h0 h1 v0 28 [(0, .ref (zb Z + a0)), (1, .int a1), (2, .int a2), (3, .int b3), (4, .int b4)] [] h (F b3 b4 h)) :
    ∀ (b3 : Int32) (b4 : Int32) (h : HP), Sim Z l cX6_like RX6 5 2 46 (some .int) "like" args (Mq Z args h0 h1 (some (.int v0))) h0 h1 v0 28 [(0, .ref (zb Z + a0)), (1, .int a1), (2, .int a2), (3, .int b3), (4, .int b4)] [] h (lb_X6_like_28 a0 a1 a2 K F b3 b4 h) := by
  intro b3 b4 h
  unfold lb_X6_like_28
  refine S_iload dX6_like_28 4 rfl (pc' := 30) rfl ?_
  refine S_bipush dX6_like_30 (v := 8) rfl (pc' := 32) rfl ?_
  refine S_icmp_ge dX6_like_32 76 rfl (pc' := 35) rfl (fun g32 => ?_) (fun g32 => ?_)
  · refine Sim.sub [3] rfl ?_
    exact hK _ _
  · refine S_iload_n dX6_like_35 rfl 3 rfl (pc' := 36) rfl ?_
    refine S_aload_n dX6_like_36 rfl 0 rfl (pc' := 37) rfl ?_
    refine S_getR fl_X6_65 rfl dX6_like_37 (pc' := 40) rfl (fun x37 => ?_)
    refine S_iload_n dX6_like_40 rfl 1 rfl (pc' := 41) rfl ?_
    refine S_bipush dX6_like_41 (v := 8) rfl (pc' := 43) rfl ?_
    refine S_imul dX6_like_43 (pc' := 44) rfl ?_
    refine S_iload dX6_like_44 4 rfl (pc' := 46) rfl ?_
    refine S_iadd dX6_like_46 (pc' := 47) rfl ?_
    refine S_iaload dX6_like_47 (pc' := 48) rfl (fun x47 => ?_)
    refine S_aload_n dX6_like_48 rfl 0 rfl (pc' := 49) rfl ?_
    refine S_getR fl_X6_65 rfl dX6_like_49 (pc' := 52) rfl (fun x49 => ?_)
    refine S_iload_n dX6_like_52 rfl 2 rfl (pc' := 53) rfl ?_
    refine S_bipush dX6_like_53 (v := 8) rfl (pc' := 55) rfl ?_
    refine S_imul dX6_like_55 (pc' := 56) rfl ?_
    refine S_iload dX6_like_56 4 rfl (pc' := 58) rfl ?_
    refine S_iadd dX6_like_58 (pc' := 59) rfl ?_
    refine S_iaload dX6_like_59 (pc' := 60) rfl (fun x59 => ?_)
    refine S_icmp_ne dX6_like_60 67 rfl (pc' := 63) rfl (fun g60 => ?_) (fun g60 => ?_)
    · refine S_iconst dX6_like_67 (v := 0) rfl (pc' := 68) rfl ?_
      refine S_iadd dX6_like_68 (pc' := 69) rfl ?_
      refine S_istore_n dX6_like_69 rfl (by decide) (lo' := [(3, .int (b3 + 0)), (0, .ref (zb Z + a0)), (1, .int a1), (2, .int a2), (4, .int b4)]) rfl (pc' := 70) rfl ?_
      refine S_iinc dX6_like_70 (q := 4) rfl (v := b4 + 1) rfl (by decide) (lo' := [(4, .int (b4 + 1)), (3, .int (b3 + 0)), (0, .ref (zb Z + a0)), (1, .int a1), (2, .int a2)]) rfl (pc' := 73) rfl ?_
      refine S_goto dX6_like_73 28 rfl ?_
      refine Sim.sub [2, 3, 4, 1, 0] rfl ?_
      exact hF _ _ _
    · refine S_iconst dX6_like_63 (v := 1) rfl (pc' := 64) rfl ?_
      refine S_goto dX6_like_64 68 rfl ?_
      refine S_iadd dX6_like_68 (pc' := 69) rfl ?_
      refine S_istore_n dX6_like_69 rfl (by decide) (lo' := [(3, .int (b3 + 1)), (0, .ref (zb Z + a0)), (1, .int a1), (2, .int a2), (4, .int b4)]) rfl (pc' := 70) rfl ?_
      refine S_iinc dX6_like_70 (q := 4) rfl (v := b4 + 1) rfl (by decide) (lo' := [(4, .int (b4 + 1)), (3, .int (b3 + 1)), (0, .ref (zb Z + a0)), (1, .int a1), (2, .int a2)]) rfl (pc' := 73) rfl ?_
      refine S_goto dX6_like_73 28 rfl ?_
      refine Sim.sub [2, 3, 4, 1, 0] rfl ?_
      exact hF _ _ _
theorem lq_X6_like_28 (Z : ZZ) (l : Launch) (a0 : Nat) (a1 : Int32) (a2 : Int32) {args : Array Value} {h0 h1 : HP} {v0 : Int32} (K : Int32 → HP → Option (Int32 × HP))
    (hK : ∀ (b3 : Int32) (h : HP), Sim Z l cX6_like RX6 5 2 46 (some .int) "like" args (Mq Z args h0 h1 (some (.int v0))) h0 h1 v0 76 [(3, .int b3)] [] h (K b3 h)) :
    ∀ (k : Nat) (b3 : Int32) (b4 : Int32) (h : HP), Sim Z l cX6_like RX6 5 2 46 (some .int) "like" args (Mq Z args h0 h1 (some (.int v0))) h0 h1 v0 28 [(0, .ref (zb Z + a0)), (1, .int a1), (2, .int a2), (3, .int b3), (4, .int b4)] [] h (lp_X6_like_28 a0 a1 a2 K k b3 b4 h) := by
  intro k
  induction k with
  | zero => exact fun _ _ _ => Sim.none
  | succ k ih => exact lc_X6_like_28 Z l a0 a1 a2 K _ hK ih
set_option maxRecDepth 100000 in
set_option maxHeartbeats 4000000 in
theorem c_X6_like (Z : ZZ) (l : Launch) (t : Nat) (a1 : Int32) (a2 : Int32) (h : HP) {v : Int32} {h1 : HP} (ho : f_X6_like t a1 a2 h = some (v, h1)) : MetP Z l yX6_like cX6_like 5 (some .int) 2 46 [.ref (zb Z + t), .int a1, .int a2] h (some (.int v)) h1 := by
  refine MetP_of ho (by decide +kernel) (Nat.le_of_ble_eq_true rfl) [(0, .ref (zb Z + t)), (1, .int a1), (2, .int a2)] rfl (own := RX6) rfl (nm := "like") rfl ?_
  unfold f_X6_like
  refine S_aload_n dX6_like_0 rfl 0 rfl (pc' := 1) rfl ?_
  refine S_iload_n dX6_like_1 rfl 1 rfl (pc' := 2) rfl ?_
  refine S_invi ml_X6_148 mi_X6_isSong (ci := 6) ⟨_, rfl, rfl⟩ (by decide) dX6_like_2 [.int a1] rfl (fun v h2 q => c_X6_isSong Z l _ _ _ q) ⟨Nat.le_of_ble_eq_true rfl, Nat.le_of_ble_eq_true rfl⟩ (rest := []) (Nat.le_of_ble_eq_true rfl) rfl (pc' := 5) rfl (fun x2 h2 => ?_)
  refine S_if_eq dX6_like_5 16 rfl (pc' := 8) rfl (fun g5 => ?_) (fun g5 => ?_)
  · refine S_aload_n dX6_like_16 rfl 0 rfl (pc' := 17) rfl ?_
    refine S_bipush dX6_like_17 (v := (-2)) rfl (pc' := 19) rfl ?_
    refine S_invi ml_X6_108 mi_X6_refuse (ci := 6) ⟨_, rfl, rfl⟩ (by decide) dX6_like_19 [.int (-2)] rfl (fun v h2 q => c_X6_refuse Z l _ _ _ q) ⟨Nat.le_of_ble_eq_true rfl, Nat.le_of_ble_eq_true rfl⟩ (rest := []) (Nat.le_of_ble_eq_true rfl) rfl (pc' := 22) rfl (fun x19 h19 => ?_)
    exact S_iret rfl dX6_like_22
  · refine S_aload_n dX6_like_8 rfl 0 rfl (pc' := 9) rfl ?_
    refine S_iload_n dX6_like_9 rfl 2 rfl (pc' := 10) rfl ?_
    refine S_invi ml_X6_148 mi_X6_isSong (ci := 6) ⟨_, rfl, rfl⟩ (by decide) dX6_like_10 [.int a2] rfl (fun v h2 q => c_X6_isSong Z l _ _ _ q) ⟨Nat.le_of_ble_eq_true rfl, Nat.le_of_ble_eq_true rfl⟩ (rest := []) (Nat.le_of_ble_eq_true rfl) rfl (pc' := 13) rfl (fun x10 h10 => ?_)
    refine S_if_ne dX6_like_13 23 rfl (pc' := 16) rfl (fun g13 => ?_) (fun g13 => ?_)
    · refine S_iconst dX6_like_23 (v := 0) rfl (pc' := 24) rfl ?_
      refine S_istore_n dX6_like_24 rfl (by decide) (lo' := [(3, .int 0), (0, .ref (zb Z + t)), (1, .int a1), (2, .int a2)]) rfl (pc' := 25) rfl ?_
      refine S_iconst dX6_like_25 (v := 0) rfl (pc' := 26) rfl ?_
      refine S_istore dX6_like_26 (by decide) (lo' := [(4, .int 0), (3, .int 0), (0, .ref (zb Z + t)), (1, .int a1), (2, .int a2)]) rfl (pc' := 28) rfl ?_
      refine Sim.sub [2, 3, 4, 1, 0] rfl ?_
      refine lq_X6_like_28 Z l t a1 a2 _ ?_ 1000 _ _ _
      intro b3_28 h28_
      refine S_iload_n dX6_like_76 rfl 0 rfl (pc' := 77) rfl ?_
      exact S_iret rfl dX6_like_77
    · refine S_aload_n dX6_like_16 rfl 0 rfl (pc' := 17) rfl ?_
      refine S_bipush dX6_like_17 (v := (-2)) rfl (pc' := 19) rfl ?_
      refine S_invi ml_X6_108 mi_X6_refuse (ci := 6) ⟨_, rfl, rfl⟩ (by decide) dX6_like_19 [.int (-2)] rfl (fun v h2 q => c_X6_refuse Z l _ _ _ q) ⟨Nat.le_of_ble_eq_true rfl, Nat.le_of_ble_eq_true rfl⟩ (rest := []) (Nat.le_of_ble_eq_true rfl) rfl (pc' := 22) rfl (fun x19 h19 => ?_)
      exact S_iret rfl dX6_like_22
theorem dX6_noTold_0 : decode cX6_noTold 0 = .ok (.iload_n 1, 1) := by decide +kernel
theorem dX6_noTold_1 : decode cX6_noTold 1 = .ok (.i2l, 1) := by decide +kernel
theorem dX6_noTold_2 : decode cX6_noTold 2 = .ok (.lconst 0, 1) := by decide +kernel
theorem dX6_noTold_3 : decode cX6_noTold 3 = .ok (.ldc2_w 102, 3) := by decide +kernel
theorem dX6_noTold_6 : decode cX6_noTold 6 = .ok (.invokestatic 95, 3) := by decide +kernel
theorem dX6_noTold_9 : decode cX6_noTold 9 = .ok (.ifCond .eq 19, 3) := by decide +kernel
theorem dX6_noTold_12 : decode cX6_noTold 12 = .ok (.iload_n 2, 1) := by decide +kernel
theorem dX6_noTold_13 : decode cX6_noTold 13 = .ok (.i2l, 1) := by decide +kernel
theorem dX6_noTold_14 : decode cX6_noTold 14 = .ok (.lconst 0, 1) := by decide +kernel
theorem dX6_noTold_15 : decode cX6_noTold 15 = .ok (.iload_n 3, 1) := by decide +kernel
theorem dX6_noTold_16 : decode cX6_noTold 16 = .ok (.i2l, 1) := by decide +kernel
theorem dX6_noTold_17 : decode cX6_noTold 17 = .ok (.invokestatic 95, 3) := by decide +kernel
theorem dX6_noTold_20 : decode cX6_noTold 20 = .ok (.ifCond .eq 8, 3) := by decide +kernel
theorem dX6_noTold_23 : decode cX6_noTold 23 = .ok (.iload 4, 2) := by decide +kernel
theorem dX6_noTold_25 : decode cX6_noTold 25 = .ok (.ifCond .ne 10, 3) := by decide +kernel
theorem dX6_noTold_28 : decode cX6_noTold 28 = .ok (.aload_n 0, 1) := by decide +kernel
theorem dX6_noTold_29 : decode cX6_noTold 29 = .ok (.bipush (-2), 2) := by decide +kernel
theorem dX6_noTold_31 : decode cX6_noTold 31 = .ok (.invokevirtual 108, 3) := by decide +kernel
theorem dX6_noTold_34 : decode cX6_noTold 34 = .ok (.ireturn, 1) := by decide +kernel
theorem dX6_noTold_35 : decode cX6_noTold 35 = .ok (.aload_n 0, 1) := by decide +kernel
theorem dX6_noTold_36 : decode cX6_noTold 36 = .ok (.iload_n 1, 1) := by decide +kernel
theorem dX6_noTold_37 : decode cX6_noTold 37 = .ok (.invokevirtual 112, 3) := by decide +kernel
theorem dX6_noTold_40 : decode cX6_noTold 40 = .ok (.istore 5, 2) := by decide +kernel
theorem dX6_noTold_42 : decode cX6_noTold 42 = .ok (.iload 5, 2) := by decide +kernel
theorem dX6_noTold_44 : decode cX6_noTold 44 = .ok (.ifCond .eq 6, 3) := by decide +kernel
theorem dX6_noTold_47 : decode cX6_noTold 47 = .ok (.iload 5, 2) := by decide +kernel
theorem dX6_noTold_49 : decode cX6_noTold 49 = .ok (.ireturn, 1) := by decide +kernel
theorem dX6_noTold_50 : decode cX6_noTold 50 = .ok (.aload_n 0, 1) := by decide +kernel
theorem dX6_noTold_51 : decode cX6_noTold 51 = .ok (.getfield 16, 3) := by decide +kernel
theorem dX6_noTold_54 : decode cX6_noTold 54 = .ok (.iload_n 1, 1) := by decide +kernel
theorem dX6_noTold_55 : decode cX6_noTold 55 = .ok (.iaload, 1) := by decide +kernel
theorem dX6_noTold_56 : decode cX6_noTold 56 = .ok (.iload_n 2, 1) := by decide +kernel
theorem dX6_noTold_57 : decode cX6_noTold 57 = .ok (.if_icmp .ge 12, 3) := by decide +kernel
theorem dX6_noTold_60 : decode cX6_noTold 60 = .ok (.aload_n 0, 1) := by decide +kernel
theorem dX6_noTold_61 : decode cX6_noTold 61 = .ok (.bipush (-2), 2) := by decide +kernel
theorem dX6_noTold_63 : decode cX6_noTold 63 = .ok (.invokevirtual 108, 3) := by decide +kernel
theorem dX6_noTold_66 : decode cX6_noTold 66 = .ok (.goto 4, 3) := by decide +kernel
theorem dX6_noTold_69 : decode cX6_noTold 69 = .ok (.iconst 0, 1) := by decide +kernel
theorem dX6_noTold_70 : decode cX6_noTold 70 = .ok (.ireturn, 1) := by decide +kernel
set_option maxRecDepth 100000 in
set_option maxHeartbeats 4000000 in
theorem c_X6_noTold (Z : ZZ) (l : Launch) (t : Nat) (a1 : Int32) (a2 : Int32) (a3 : Int32) (a4 : Int32) (h : HP) {v : Int32} {h1 : HP} (ho : f_X6_noTold t a1 a2 a3 a4 h = some (v, h1)) : MetP Z l yX6_noTold cX6_noTold 6 (some .int) 2 46 [.ref (zb Z + t), .int a1, .int a2, .int a3, .int a4] h (some (.int v)) h1 := by
  refine MetP_of ho (by decide +kernel) (Nat.le_of_ble_eq_true rfl) [(0, .ref (zb Z + t)), (1, .int a1), (2, .int a2), (3, .int a3), (4, .int a4)] rfl (own := RX6) rfl (nm := "noTold") rfl ?_
  unfold f_X6_noTold
  refine S_iload_n dX6_noTold_0 rfl 1 rfl (pc' := 1) rfl ?_
  refine S_i2l dX6_noTold_1 (pc' := 2) rfl ?_
  refine S_lconst dX6_noTold_2 (v := 0) rfl (pc' := 3) rfl ?_
  refine S_ldc2 dX6_noTold_3 kc_X6_102 (pc' := 6) rfl ?_
  refine S_stai ml_X6_95 ms_X6_in dX6_noTold_6 [.long a1.toInt64, .long 0, .long 7] rfl (fun v h2 q => c_X6_in Z l _ _ _ _ q) ⟨Nat.le_of_ble_eq_true rfl, Nat.le_of_ble_eq_true rfl⟩ (rest := []) (Nat.le_of_ble_eq_true rfl) rfl (pc' := 9) rfl (fun x6 h6 => ?_)
  refine S_if_eq dX6_noTold_9 28 rfl (pc' := 12) rfl (fun g9 => ?_) (fun g9 => ?_)
  · refine S_aload_n dX6_noTold_28 rfl 0 rfl (pc' := 29) rfl ?_
    refine S_bipush dX6_noTold_29 (v := (-2)) rfl (pc' := 31) rfl ?_
    refine S_invi ml_X6_108 mi_X6_refuse (ci := 6) ⟨_, rfl, rfl⟩ (by decide) dX6_noTold_31 [.int (-2)] rfl (fun v h2 q => c_X6_refuse Z l _ _ _ q) ⟨Nat.le_of_ble_eq_true rfl, Nat.le_of_ble_eq_true rfl⟩ (rest := []) (Nat.le_of_ble_eq_true rfl) rfl (pc' := 34) rfl (fun x31 h31 => ?_)
    exact S_iret rfl dX6_noTold_34
  · refine S_iload_n dX6_noTold_12 rfl 2 rfl (pc' := 13) rfl ?_
    refine S_i2l dX6_noTold_13 (pc' := 14) rfl ?_
    refine S_lconst dX6_noTold_14 (v := 0) rfl (pc' := 15) rfl ?_
    refine S_iload_n dX6_noTold_15 rfl 3 rfl (pc' := 16) rfl ?_
    refine S_i2l dX6_noTold_16 (pc' := 17) rfl ?_
    refine S_stai ml_X6_95 ms_X6_in dX6_noTold_17 [.long a2.toInt64, .long 0, .long a3.toInt64] rfl (fun v h2 q => c_X6_in Z l _ _ _ _ q) ⟨Nat.le_of_ble_eq_true rfl, Nat.le_of_ble_eq_true rfl⟩ (rest := []) (Nat.le_of_ble_eq_true rfl) rfl (pc' := 20) rfl (fun x17 h17 => ?_)
    refine S_if_eq dX6_noTold_20 28 rfl (pc' := 23) rfl (fun g20 => ?_) (fun g20 => ?_)
    · refine S_aload_n dX6_noTold_28 rfl 0 rfl (pc' := 29) rfl ?_
      refine S_bipush dX6_noTold_29 (v := (-2)) rfl (pc' := 31) rfl ?_
      refine S_invi ml_X6_108 mi_X6_refuse (ci := 6) ⟨_, rfl, rfl⟩ (by decide) dX6_noTold_31 [.int (-2)] rfl (fun v h2 q => c_X6_refuse Z l _ _ _ q) ⟨Nat.le_of_ble_eq_true rfl, Nat.le_of_ble_eq_true rfl⟩ (rest := []) (Nat.le_of_ble_eq_true rfl) rfl (pc' := 34) rfl (fun x31 h31 => ?_)
      exact S_iret rfl dX6_noTold_34
    · refine S_iload dX6_noTold_23 4 rfl (pc' := 25) rfl ?_
      refine S_if_ne dX6_noTold_25 35 rfl (pc' := 28) rfl (fun g25 => ?_) (fun g25 => ?_)
      · refine S_aload_n dX6_noTold_35 rfl 0 rfl (pc' := 36) rfl ?_
        refine S_iload_n dX6_noTold_36 rfl 1 rfl (pc' := 37) rfl ?_
        refine S_invi ml_X6_112 mi_X6_noRow (ci := 6) ⟨_, rfl, rfl⟩ (by decide) dX6_noTold_37 [.int a1] rfl (fun v h2 q => c_X6_noRow Z l _ _ _ q) ⟨Nat.le_of_ble_eq_true rfl, Nat.le_of_ble_eq_true rfl⟩ (rest := []) (Nat.le_of_ble_eq_true rfl) rfl (pc' := 40) rfl (fun x37 h37 => ?_)
        refine S_istore dX6_noTold_40 (by decide) (lo' := [(5, .int x37), (0, .ref (zb Z + t)), (1, .int a1), (2, .int a2), (3, .int a3), (4, .int a4)]) rfl (pc' := 42) rfl ?_
        refine S_iload dX6_noTold_42 0 rfl (pc' := 44) rfl ?_
        refine S_if_eq dX6_noTold_44 50 rfl (pc' := 47) rfl (fun g44 => ?_) (fun g44 => ?_)
        · refine S_aload_n dX6_noTold_50 rfl 1 rfl (pc' := 51) rfl ?_
          refine S_getR fl_X6_16 rfl dX6_noTold_51 (pc' := 54) rfl (fun x51 => ?_)
          refine S_iload_n dX6_noTold_54 rfl 2 rfl (pc' := 55) rfl ?_
          refine S_iaload dX6_noTold_55 (pc' := 56) rfl (fun x55 => ?_)
          refine S_iload_n dX6_noTold_56 rfl 3 rfl (pc' := 57) rfl ?_
          refine S_icmp_ge dX6_noTold_57 69 rfl (pc' := 60) rfl (fun g57 => ?_) (fun g57 => ?_)
          · refine S_iconst dX6_noTold_69 (v := 0) rfl (pc' := 70) rfl ?_
            exact S_iret rfl dX6_noTold_70
          · refine S_aload_n dX6_noTold_60 rfl 1 rfl (pc' := 61) rfl ?_
            refine S_bipush dX6_noTold_61 (v := (-2)) rfl (pc' := 63) rfl ?_
            refine S_invi ml_X6_108 mi_X6_refuse (ci := 6) ⟨_, rfl, rfl⟩ (by decide) dX6_noTold_63 [.int (-2)] rfl (fun v h2 q => c_X6_refuse Z l _ _ _ q) ⟨Nat.le_of_ble_eq_true rfl, Nat.le_of_ble_eq_true rfl⟩ (rest := []) (Nat.le_of_ble_eq_true rfl) rfl (pc' := 66) rfl (fun x63 h63 => ?_)
            refine S_goto dX6_noTold_66 70 rfl ?_
            exact S_iret rfl dX6_noTold_70
        · refine S_iload dX6_noTold_47 0 rfl (pc' := 49) rfl ?_
          exact S_iret rfl dX6_noTold_49
      · refine S_aload_n dX6_noTold_28 rfl 0 rfl (pc' := 29) rfl ?_
        refine S_bipush dX6_noTold_29 (v := (-2)) rfl (pc' := 31) rfl ?_
        refine S_invi ml_X6_108 mi_X6_refuse (ci := 6) ⟨_, rfl, rfl⟩ (by decide) dX6_noTold_31 [.int (-2)] rfl (fun v h2 q => c_X6_refuse Z l _ _ _ q) ⟨Nat.le_of_ble_eq_true rfl, Nat.le_of_ble_eq_true rfl⟩ (rest := []) (Nat.le_of_ble_eq_true rfl) rfl (pc' := 34) rfl (fun x31 h31 => ?_)
        exact S_iret rfl dX6_noTold_34
theorem dX6_nearest_0 : decode cX6_nearest 0 = .ok (.aload_n 0, 1) := by decide +kernel
theorem dX6_nearest_1 : decode cX6_nearest 1 = .ok (.iload_n 1, 1) := by decide +kernel
theorem dX6_nearest_2 : decode cX6_nearest 2 = .ok (.iload_n 2, 1) := by decide +kernel
theorem dX6_nearest_3 : decode cX6_nearest 3 = .ok (.bipush 8, 2) := by decide +kernel
theorem dX6_nearest_5 : decode cX6_nearest 5 = .ok (.iload_n 3, 1) := by decide +kernel
theorem dX6_nearest_6 : decode cX6_nearest 6 = .ok (.i2l, 1) := by decide +kernel
theorem dX6_nearest_7 : decode cX6_nearest 7 = .ok (.lconst 0, 1) := by decide +kernel
theorem dX6_nearest_8 : decode cX6_nearest 8 = .ok (.lconst 1, 1) := by decide +kernel
theorem dX6_nearest_9 : decode cX6_nearest 9 = .ok (.invokestatic 95, 3) := by decide +kernel
theorem dX6_nearest_12 : decode cX6_nearest 12 = .ok (.invokevirtual 344, 3) := by decide +kernel
theorem dX6_nearest_15 : decode cX6_nearest 15 = .ok (.istore 4, 2) := by decide +kernel
theorem dX6_nearest_17 : decode cX6_nearest 17 = .ok (.iload 4, 2) := by decide +kernel
theorem dX6_nearest_19 : decode cX6_nearest 19 = .ok (.ifCond .eq 6, 3) := by decide +kernel
theorem dX6_nearest_22 : decode cX6_nearest 22 = .ok (.iload 4, 2) := by decide +kernel
theorem dX6_nearest_24 : decode cX6_nearest 24 = .ok (.ireturn, 1) := by decide +kernel
theorem dX6_nearest_25 : decode cX6_nearest 25 = .ok (.iconst 0, 1) := by decide +kernel
theorem dX6_nearest_26 : decode cX6_nearest 26 = .ok (.istore 5, 2) := by decide +kernel
theorem dX6_nearest_28 : decode cX6_nearest 28 = .ok (.iload 5, 2) := by decide +kernel
theorem dX6_nearest_30 : decode cX6_nearest 30 = .ok (.iload_n 2, 1) := by decide +kernel
theorem dX6_nearest_31 : decode cX6_nearest 31 = .ok (.if_icmp .ge 52, 3) := by decide +kernel
theorem dX6_nearest_34 : decode cX6_nearest 34 = .ok (.aload_n 0, 1) := by decide +kernel
theorem dX6_nearest_35 : decode cX6_nearest 35 = .ok (.getfield 21, 3) := by decide +kernel
theorem dX6_nearest_38 : decode cX6_nearest 38 = .ok (.iload_n 1, 1) := by decide +kernel
theorem dX6_nearest_39 : decode cX6_nearest 39 = .ok (.aaload, 1) := by decide +kernel
theorem dX6_nearest_40 : decode cX6_nearest 40 = .ok (.iload 5, 2) := by decide +kernel
theorem dX6_nearest_42 : decode cX6_nearest 42 = .ok (.laload, 1) := by decide +kernel
theorem dX6_nearest_43 : decode cX6_nearest 43 = .ok (.lconst 0, 1) := by decide +kernel
theorem dX6_nearest_44 : decode cX6_nearest 44 = .ok (.ldc2_w 104, 3) := by decide +kernel
theorem dX6_nearest_47 : decode cX6_nearest 47 = .ok (.invokestatic 95, 3) := by decide +kernel
theorem dX6_nearest_50 : decode cX6_nearest 50 = .ok (.ifCond .ne 10, 3) := by decide +kernel
theorem dX6_nearest_53 : decode cX6_nearest 53 = .ok (.aload_n 0, 1) := by decide +kernel
theorem dX6_nearest_54 : decode cX6_nearest 54 = .ok (.bipush (-5), 2) := by decide +kernel
theorem dX6_nearest_56 : decode cX6_nearest 56 = .ok (.invokevirtual 108, 3) := by decide +kernel
theorem dX6_nearest_59 : decode cX6_nearest 59 = .ok (.ireturn, 1) := by decide +kernel
theorem dX6_nearest_60 : decode cX6_nearest 60 = .ok (.aload_n 0, 1) := by decide +kernel
theorem dX6_nearest_61 : decode cX6_nearest 61 = .ok (.getfield 83, 3) := by decide +kernel
theorem dX6_nearest_64 : decode cX6_nearest 64 = .ok (.iload 5, 2) := by decide +kernel
theorem dX6_nearest_66 : decode cX6_nearest 66 = .ok (.aload_n 0, 1) := by decide +kernel
theorem dX6_nearest_67 : decode cX6_nearest 67 = .ok (.getfield 21, 3) := by decide +kernel
theorem dX6_nearest_70 : decode cX6_nearest 70 = .ok (.iload_n 1, 1) := by decide +kernel
theorem dX6_nearest_71 : decode cX6_nearest 71 = .ok (.aaload, 1) := by decide +kernel
theorem dX6_nearest_72 : decode cX6_nearest 72 = .ok (.iload 5, 2) := by decide +kernel
theorem dX6_nearest_74 : decode cX6_nearest 74 = .ok (.laload, 1) := by decide +kernel
theorem dX6_nearest_75 : decode cX6_nearest 75 = .ok (.l2i, 1) := by decide +kernel
theorem dX6_nearest_76 : decode cX6_nearest 76 = .ok (.iastore, 1) := by decide +kernel
theorem dX6_nearest_77 : decode cX6_nearest 77 = .ok (.iinc 5 1, 3) := by decide +kernel
theorem dX6_nearest_80 : decode cX6_nearest 80 = .ok (.goto (-52), 3) := by decide +kernel
theorem dX6_nearest_83 : decode cX6_nearest 83 = .ok (.iconst (-1), 1) := by decide +kernel
theorem dX6_nearest_84 : decode cX6_nearest 84 = .ok (.istore 5, 2) := by decide +kernel
theorem dX6_nearest_86 : decode cX6_nearest 86 = .ok (.iconst (-1), 1) := by decide +kernel
theorem dX6_nearest_87 : decode cX6_nearest 87 = .ok (.istore 6, 2) := by decide +kernel
theorem dX6_nearest_89 : decode cX6_nearest 89 = .ok (.iconst 0, 1) := by decide +kernel
theorem dX6_nearest_90 : decode cX6_nearest 90 = .ok (.istore 7, 2) := by decide +kernel
theorem dX6_nearest_92 : decode cX6_nearest 92 = .ok (.iload 7, 2) := by decide +kernel
theorem dX6_nearest_94 : decode cX6_nearest 94 = .ok (.aload_n 0, 1) := by decide +kernel
theorem dX6_nearest_95 : decode cX6_nearest 95 = .ok (.getfield 99, 3) := by decide +kernel
theorem dX6_nearest_98 : decode cX6_nearest 98 = .ok (.if_icmp .ge 56, 3) := by decide +kernel
theorem dX6_nearest_101 : decode cX6_nearest 101 = .ok (.aload_n 0, 1) := by decide +kernel
theorem dX6_nearest_102 : decode cX6_nearest 102 = .ok (.iload 7, 2) := by decide +kernel
theorem dX6_nearest_104 : decode cX6_nearest 104 = .ok (.iload_n 2, 1) := by decide +kernel
theorem dX6_nearest_105 : decode cX6_nearest 105 = .ok (.invokevirtual 338, 3) := by decide +kernel
theorem dX6_nearest_108 : decode cX6_nearest 108 = .ok (.istore 8, 2) := by decide +kernel
theorem dX6_nearest_110 : decode cX6_nearest 110 = .ok (.iload 5, 2) := by decide +kernel
theorem dX6_nearest_112 : decode cX6_nearest 112 = .ok (.iconst (-1), 1) := by decide +kernel
theorem dX6_nearest_113 : decode cX6_nearest 113 = .ok (.if_icmp .eq 10, 3) := by decide +kernel
theorem dX6_nearest_116 : decode cX6_nearest 116 = .ok (.iload 8, 2) := by decide +kernel
theorem dX6_nearest_118 : decode cX6_nearest 118 = .ok (.iload 6, 2) := by decide +kernel
theorem dX6_nearest_120 : decode cX6_nearest 120 = .ok (.if_icmp .ge 8, 3) := by decide +kernel
theorem dX6_nearest_123 : decode cX6_nearest 123 = .ok (.iload 7, 2) := by decide +kernel
theorem dX6_nearest_125 : decode cX6_nearest 125 = .ok (.goto 5, 3) := by decide +kernel
theorem dX6_nearest_128 : decode cX6_nearest 128 = .ok (.iload 5, 2) := by decide +kernel
theorem dX6_nearest_130 : decode cX6_nearest 130 = .ok (.istore 5, 2) := by decide +kernel
theorem dX6_nearest_132 : decode cX6_nearest 132 = .ok (.iload 5, 2) := by decide +kernel
theorem dX6_nearest_134 : decode cX6_nearest 134 = .ok (.iload 7, 2) := by decide +kernel
theorem dX6_nearest_136 : decode cX6_nearest 136 = .ok (.if_icmp .ne 8, 3) := by decide +kernel
theorem dX6_nearest_139 : decode cX6_nearest 139 = .ok (.iload 8, 2) := by decide +kernel
theorem dX6_nearest_141 : decode cX6_nearest 141 = .ok (.goto 5, 3) := by decide +kernel
theorem dX6_nearest_144 : decode cX6_nearest 144 = .ok (.iload 6, 2) := by decide +kernel
theorem dX6_nearest_146 : decode cX6_nearest 146 = .ok (.istore 6, 2) := by decide +kernel
theorem dX6_nearest_148 : decode cX6_nearest 148 = .ok (.iinc 7 1, 3) := by decide +kernel
theorem dX6_nearest_151 : decode cX6_nearest 151 = .ok (.goto (-59), 3) := by decide +kernel
theorem dX6_nearest_154 : decode cX6_nearest 154 = .ok (.iload_n 3, 1) := by decide +kernel
theorem dX6_nearest_155 : decode cX6_nearest 155 = .ok (.ifCond .ne 8, 3) := by decide +kernel
theorem dX6_nearest_158 : decode cX6_nearest 158 = .ok (.iload 5, 2) := by decide +kernel
theorem dX6_nearest_160 : decode cX6_nearest 160 = .ok (.goto 5, 3) := by decide +kernel
theorem dX6_nearest_163 : decode cX6_nearest 163 = .ok (.iload 6, 2) := by decide +kernel
theorem dX6_nearest_165 : decode cX6_nearest 165 = .ok (.ireturn, 1) := by decide +kernel
set_option maxRecDepth 100000 in
set_option maxHeartbeats 4000000 in
theorem lc_X6_nearest_28 (Z : ZZ) (l : Launch) (a0 : Nat) (a1 : Int32) (a2 : Int32) (a3 : Int32) {args : Array Value} {h0 h1 : HP} {v0 : Int32} (K : HP → Option (Int32 × HP)) (F : Int32 → HP → Option (Int32 × HP))
    (hK : ∀ (h : HP), Sim Z l cX6_nearest RX6 9 3 71 (some .int) "nearest" args (Mq Z args h0 h1 (some (.int v0))) h0 h1 v0 83 [(0, .ref (zb Z + a0)), (2, .int a2), (3, .int a3)] [] h (K h))
    (hF : ∀ (b5 : Int32) (h : HP), Sim Z l cX6_nearest RX6 9 3 71 (some .int) "nearest" args (Mq Z args h0 h1 (some (.int v0))) h0 h1 v0 28 [(0, .ref (zb Z + a0)), (1, .int a1), (2, .int a2), (3, .int a3), (5, .int b5)] [] h (F b5 h)) :
    ∀ (b5 : Int32) (h : HP), Sim Z l cX6_nearest RX6 9 3 71 (some .int) "nearest" args (Mq Z args h0 h1 (some (.int v0))) h0 h1 v0 28 [(0, .ref (zb Z + a0)), (1, .int a1), (2, .int a2), (3, .int a3), (5, .int b5)] [] h (lb_X6_nearest_28 a0 a1 a2 a3 K F b5 h) := by
  intro b5 h
  unfold lb_X6_nearest_28
  refine S_iload dX6_nearest_28 4 rfl (pc' := 30) rfl ?_
  refine S_iload_n dX6_nearest_30 rfl 2 rfl (pc' := 31) rfl ?_
  refine S_icmp_ge dX6_nearest_31 83 rfl (pc' := 34) rfl (fun g31 => ?_) (fun g31 => ?_)
  · refine Sim.sub [0, 2, 3] rfl ?_
    exact hK _
  · refine S_aload_n dX6_nearest_34 rfl 0 rfl (pc' := 35) rfl ?_
    refine S_getR fl_X6_21 rfl dX6_nearest_35 (pc' := 38) rfl (fun x35 => ?_)
    refine S_iload_n dX6_nearest_38 rfl 1 rfl (pc' := 39) rfl ?_
    refine S_aaloadQ dX6_nearest_39 (pc' := 40) rfl (fun x39 => ?_)
    refine S_iload dX6_nearest_40 4 rfl (pc' := 42) rfl ?_
    refine S_laload dX6_nearest_42 (pc' := 43) rfl (fun x42 => ?_)
    refine S_lconst dX6_nearest_43 (v := 0) rfl (pc' := 44) rfl ?_
    refine S_ldc2 dX6_nearest_44 kc_X6_104 (pc' := 47) rfl ?_
    refine S_stai ml_X6_95 ms_X6_in dX6_nearest_47 [.long x42, .long 0, .long 4] rfl (fun v h2 q => c_X6_in Z l _ _ _ _ q) ⟨Nat.le_of_ble_eq_true rfl, Nat.le_of_ble_eq_true rfl⟩ (rest := []) (Nat.le_of_ble_eq_true rfl) rfl (pc' := 50) rfl (fun x47 h47 => ?_)
    refine S_if_ne dX6_nearest_50 60 rfl (pc' := 53) rfl (fun g50 => ?_) (fun g50 => ?_)
    · refine S_aload_n dX6_nearest_60 rfl 0 rfl (pc' := 61) rfl ?_
      refine S_getR fl_X6_83 rfl dX6_nearest_61 (pc' := 64) rfl (fun x61 => ?_)
      refine S_iload dX6_nearest_64 4 rfl (pc' := 66) rfl ?_
      refine S_aload_n dX6_nearest_66 rfl 0 rfl (pc' := 67) rfl ?_
      refine S_getR fl_X6_21 rfl dX6_nearest_67 (pc' := 70) rfl (fun x67 => ?_)
      refine S_iload_n dX6_nearest_70 rfl 1 rfl (pc' := 71) rfl ?_
      refine S_aaloadQ dX6_nearest_71 (pc' := 72) rfl (fun x71 => ?_)
      refine S_iload dX6_nearest_72 4 rfl (pc' := 74) rfl ?_
      refine S_laload dX6_nearest_74 (pc' := 75) rfl (fun x74 => ?_)
      refine S_l2i dX6_nearest_75 (pc' := 76) rfl ?_
      refine S_iastore dX6_nearest_76 (pc' := 77) rfl (fun h76 => ?_)
      refine S_iinc dX6_nearest_77 (q := 4) rfl (v := b5 + 1) rfl (by decide) (lo' := [(5, .int (b5 + 1)), (0, .ref (zb Z + a0)), (1, .int a1), (2, .int a2), (3, .int a3)]) rfl (pc' := 80) rfl ?_
      refine S_goto dX6_nearest_80 28 rfl ?_
      refine Sim.sub [1, 2, 3, 4, 0] rfl ?_
      exact hF _ _
    · refine S_aload_n dX6_nearest_53 rfl 0 rfl (pc' := 54) rfl ?_
      refine S_bipush dX6_nearest_54 (v := (-5)) rfl (pc' := 56) rfl ?_
      refine S_invi ml_X6_108 mi_X6_refuse (ci := 6) ⟨_, rfl, rfl⟩ (by decide) dX6_nearest_56 [.int (-5)] rfl (fun v h2 q => c_X6_refuse Z l _ _ _ q) ⟨Nat.le_of_ble_eq_true rfl, Nat.le_of_ble_eq_true rfl⟩ (rest := []) (Nat.le_of_ble_eq_true rfl) rfl (pc' := 59) rfl (fun x56 h56 => ?_)
      exact S_iret rfl dX6_nearest_59
theorem lq_X6_nearest_28 (Z : ZZ) (l : Launch) (a0 : Nat) (a1 : Int32) (a2 : Int32) (a3 : Int32) {args : Array Value} {h0 h1 : HP} {v0 : Int32} (K : HP → Option (Int32 × HP))
    (hK : ∀ (h : HP), Sim Z l cX6_nearest RX6 9 3 71 (some .int) "nearest" args (Mq Z args h0 h1 (some (.int v0))) h0 h1 v0 83 [(0, .ref (zb Z + a0)), (2, .int a2), (3, .int a3)] [] h (K h)) :
    ∀ (k : Nat) (b5 : Int32) (h : HP), Sim Z l cX6_nearest RX6 9 3 71 (some .int) "nearest" args (Mq Z args h0 h1 (some (.int v0))) h0 h1 v0 28 [(0, .ref (zb Z + a0)), (1, .int a1), (2, .int a2), (3, .int a3), (5, .int b5)] [] h (lp_X6_nearest_28 a0 a1 a2 a3 K k b5 h) := by
  intro k
  induction k with
  | zero => exact fun _ _ => Sim.none
  | succ k ih => exact lc_X6_nearest_28 Z l a0 a1 a2 a3 K _ hK ih
set_option maxRecDepth 100000 in
set_option maxHeartbeats 4000000 in
theorem lc_X6_nearest_92 (Z : ZZ) (l : Launch) (a0 : Nat) (a2 : Int32) (a3 : Int32) {args : Array Value} {h0 h1 : HP} {v0 : Int32} (K : Int32 → Int32 → HP → Option (Int32 × HP)) (F : Int32 → Int32 → Int32 → HP → Option (Int32 × HP))
    (hK : ∀ (b5 : Int32) (b6 : Int32) (h : HP), Sim Z l cX6_nearest RX6 9 3 71 (some .int) "nearest" args (Mq Z args h0 h1 (some (.int v0))) h0 h1 v0 154 [(3, .int a3), (5, .int b5), (6, .int b6)] [] h (K b5 b6 h))
    (hF : ∀ (b5 : Int32) (b6 : Int32) (b7 : Int32) (h : HP), Sim Z l cX6_nearest RX6 9 3 71 (some .int) "nearest" args (Mq Z args h0 h1 (some (.int v0))) h0 h1 v0 92 [(0, .ref (zb Z + a0)), (2, .int a2), (3, .int a3), (5, .int b5), (6, .int b6), (7, .int b7)] [] h (F b5 b6 b7 h)) :
    ∀ (b5 : Int32) (b6 : Int32) (b7 : Int32) (h : HP), Sim Z l cX6_nearest RX6 9 3 71 (some .int) "nearest" args (Mq Z args h0 h1 (some (.int v0))) h0 h1 v0 92 [(0, .ref (zb Z + a0)), (2, .int a2), (3, .int a3), (5, .int b5), (6, .int b6), (7, .int b7)] [] h (lb_X6_nearest_92 a0 a2 a3 K F b5 b6 b7 h) := by
  intro b5 b6 b7 h
  unfold lb_X6_nearest_92
  refine S_iload dX6_nearest_92 5 rfl (pc' := 94) rfl ?_
  refine S_aload_n dX6_nearest_94 rfl 0 rfl (pc' := 95) rfl ?_
  refine S_getI fl_X6_99 rfl dX6_nearest_95 (pc' := 98) rfl (fun x95 => ?_)
  refine S_icmp_ge dX6_nearest_98 154 rfl (pc' := 101) rfl (fun g98 => ?_) (fun g98 => ?_)
  · refine Sim.sub [2, 3, 4] rfl ?_
    exact hK _ _ _
  · refine S_aload_n dX6_nearest_101 rfl 0 rfl (pc' := 102) rfl ?_
    refine S_iload dX6_nearest_102 5 rfl (pc' := 104) rfl ?_
    refine S_iload_n dX6_nearest_104 rfl 1 rfl (pc' := 105) rfl ?_
    refine S_invi ml_X6_338 mi_X6_changesTo (ci := 6) ⟨_, rfl, rfl⟩ (by decide) dX6_nearest_105 [.int b7, .int a2] rfl (fun v h2 q => c_X6_changesTo Z l _ _ _ _ q) ⟨Nat.le_of_ble_eq_true rfl, Nat.le_of_ble_eq_true rfl⟩ (rest := []) (Nat.le_of_ble_eq_true rfl) rfl (pc' := 108) rfl (fun x105 h105 => ?_)
    refine S_istore dX6_nearest_108 (by decide) (lo' := [(8, .int x105), (0, .ref (zb Z + a0)), (2, .int a2), (3, .int a3), (5, .int b5), (6, .int b6), (7, .int b7)]) rfl (pc' := 110) rfl ?_
    refine S_iload dX6_nearest_110 4 rfl (pc' := 112) rfl ?_
    refine S_iconst dX6_nearest_112 (v := (-1)) rfl (pc' := 113) rfl ?_
    refine S_icmp_eq dX6_nearest_113 123 rfl (pc' := 116) rfl (fun g113 => ?_) (fun g113 => ?_)
    · refine S_iload dX6_nearest_123 6 rfl (pc' := 125) rfl ?_
      refine S_goto dX6_nearest_125 130 rfl ?_
      refine S_istore dX6_nearest_130 (by decide) (lo' := [(5, .int b7), (8, .int x105), (0, .ref (zb Z + a0)), (2, .int a2), (3, .int a3), (6, .int b6), (7, .int b7)]) rfl (pc' := 132) rfl ?_
      refine S_iload dX6_nearest_132 0 rfl (pc' := 134) rfl ?_
      refine S_iload dX6_nearest_134 6 rfl (pc' := 136) rfl ?_
      refine S_icmp_ne dX6_nearest_136 144 rfl (pc' := 139) rfl (fun g136 => ?_) (fun g136 => ?_)
      · refine S_iload dX6_nearest_144 5 rfl (pc' := 146) rfl ?_
        refine S_istore dX6_nearest_146 (by decide) (lo' := [(6, .int b6), (5, .int b7), (8, .int x105), (0, .ref (zb Z + a0)), (2, .int a2), (3, .int a3), (7, .int b7)]) rfl (pc' := 148) rfl ?_
        refine S_iinc dX6_nearest_148 (q := 6) rfl (v := b7 + 1) rfl (by decide) (lo' := [(7, .int (b7 + 1)), (6, .int b6), (5, .int b7), (8, .int x105), (0, .ref (zb Z + a0)), (2, .int a2), (3, .int a3)]) rfl (pc' := 151) rfl ?_
        refine S_goto dX6_nearest_151 92 rfl ?_
        refine Sim.sub [4, 5, 6, 2, 1, 0] rfl ?_
        exact hF _ _ _ _
      · refine S_iload dX6_nearest_139 1 rfl (pc' := 141) rfl ?_
        refine S_goto dX6_nearest_141 146 rfl ?_
        refine S_istore dX6_nearest_146 (by decide) (lo' := [(6, .int x105), (5, .int b7), (8, .int x105), (0, .ref (zb Z + a0)), (2, .int a2), (3, .int a3), (7, .int b7)]) rfl (pc' := 148) rfl ?_
        refine S_iinc dX6_nearest_148 (q := 6) rfl (v := b7 + 1) rfl (by decide) (lo' := [(7, .int (b7 + 1)), (6, .int x105), (5, .int b7), (8, .int x105), (0, .ref (zb Z + a0)), (2, .int a2), (3, .int a3)]) rfl (pc' := 151) rfl ?_
        refine S_goto dX6_nearest_151 92 rfl ?_
        refine Sim.sub [4, 5, 6, 2, 1, 0] rfl ?_
        exact hF _ _ _ _
    · refine S_iload dX6_nearest_116 0 rfl (pc' := 118) rfl ?_
      refine S_iload dX6_nearest_118 5 rfl (pc' := 120) rfl ?_
      refine S_icmp_ge dX6_nearest_120 128 rfl (pc' := 123) rfl (fun g120 => ?_) (fun g120 => ?_)
      · refine S_iload dX6_nearest_128 4 rfl (pc' := 130) rfl ?_
        refine S_istore dX6_nearest_130 (by decide) (lo' := [(5, .int b5), (8, .int x105), (0, .ref (zb Z + a0)), (2, .int a2), (3, .int a3), (6, .int b6), (7, .int b7)]) rfl (pc' := 132) rfl ?_
        refine S_iload dX6_nearest_132 0 rfl (pc' := 134) rfl ?_
        refine S_iload dX6_nearest_134 6 rfl (pc' := 136) rfl ?_
        refine S_icmp_ne dX6_nearest_136 144 rfl (pc' := 139) rfl (fun g136 => ?_) (fun g136 => ?_)
        · refine S_iload dX6_nearest_144 5 rfl (pc' := 146) rfl ?_
          refine S_istore dX6_nearest_146 (by decide) (lo' := [(6, .int b6), (5, .int b5), (8, .int x105), (0, .ref (zb Z + a0)), (2, .int a2), (3, .int a3), (7, .int b7)]) rfl (pc' := 148) rfl ?_
          refine S_iinc dX6_nearest_148 (q := 6) rfl (v := b7 + 1) rfl (by decide) (lo' := [(7, .int (b7 + 1)), (6, .int b6), (5, .int b5), (8, .int x105), (0, .ref (zb Z + a0)), (2, .int a2), (3, .int a3)]) rfl (pc' := 151) rfl ?_
          refine S_goto dX6_nearest_151 92 rfl ?_
          refine Sim.sub [4, 5, 6, 2, 1, 0] rfl ?_
          exact hF _ _ _ _
        · refine S_iload dX6_nearest_139 1 rfl (pc' := 141) rfl ?_
          refine S_goto dX6_nearest_141 146 rfl ?_
          refine S_istore dX6_nearest_146 (by decide) (lo' := [(6, .int x105), (5, .int b5), (8, .int x105), (0, .ref (zb Z + a0)), (2, .int a2), (3, .int a3), (7, .int b7)]) rfl (pc' := 148) rfl ?_
          refine S_iinc dX6_nearest_148 (q := 6) rfl (v := b7 + 1) rfl (by decide) (lo' := [(7, .int (b7 + 1)), (6, .int x105), (5, .int b5), (8, .int x105), (0, .ref (zb Z + a0)), (2, .int a2), (3, .int a3)]) rfl (pc' := 151) rfl ?_
          refine S_goto dX6_nearest_151 92 rfl ?_
          refine Sim.sub [4, 5, 6, 2, 1, 0] rfl ?_
          exact hF _ _ _ _
      · refine S_iload dX6_nearest_123 6 rfl (pc' := 125) rfl ?_
        refine S_goto dX6_nearest_125 130 rfl ?_
        refine S_istore dX6_nearest_130 (by decide) (lo' := [(5, .int b7), (8, .int x105), (0, .ref (zb Z + a0)), (2, .int a2), (3, .int a3), (6, .int b6), (7, .int b7)]) rfl (pc' := 132) rfl ?_
        refine S_iload dX6_nearest_132 0 rfl (pc' := 134) rfl ?_
        refine S_iload dX6_nearest_134 6 rfl (pc' := 136) rfl ?_
        refine S_icmp_ne dX6_nearest_136 144 rfl (pc' := 139) rfl (fun g136 => ?_) (fun g136 => ?_)
        · refine S_iload dX6_nearest_144 5 rfl (pc' := 146) rfl ?_
          refine S_istore dX6_nearest_146 (by decide) (lo' := [(6, .int b6), (5, .int b7), (8, .int x105), (0, .ref (zb Z + a0)), (2, .int a2), (3, .int a3), (7, .int b7)]) rfl (pc' := 148) rfl ?_
          refine S_iinc dX6_nearest_148 (q := 6) rfl (v := b7 + 1) rfl (by decide) (lo' := [(7, .int (b7 + 1)), (6, .int b6), (5, .int b7), (8, .int x105), (0, .ref (zb Z + a0)), (2, .int a2), (3, .int a3)]) rfl (pc' := 151) rfl ?_
          refine S_goto dX6_nearest_151 92 rfl ?_
          refine Sim.sub [4, 5, 6, 2, 1, 0] rfl ?_
          exact hF _ _ _ _
        · refine S_iload dX6_nearest_139 1 rfl (pc' := 141) rfl ?_
          refine S_goto dX6_nearest_141 146 rfl ?_
          refine S_istore dX6_nearest_146 (by decide) (lo' := [(6, .int x105), (5, .int b7), (8, .int x105), (0, .ref (zb Z + a0)), (2, .int a2), (3, .int a3), (7, .int b7)]) rfl (pc' := 148) rfl ?_
          refine S_iinc dX6_nearest_148 (q := 6) rfl (v := b7 + 1) rfl (by decide) (lo' := [(7, .int (b7 + 1)), (6, .int x105), (5, .int b7), (8, .int x105), (0, .ref (zb Z + a0)), (2, .int a2), (3, .int a3)]) rfl (pc' := 151) rfl ?_
          refine S_goto dX6_nearest_151 92 rfl ?_
          refine Sim.sub [4, 5, 6, 2, 1, 0] rfl ?_
          exact hF _ _ _ _
theorem lq_X6_nearest_92 (Z : ZZ) (l : Launch) (a0 : Nat) (a2 : Int32) (a3 : Int32) {args : Array Value} {h0 h1 : HP} {v0 : Int32} (K : Int32 → Int32 → HP → Option (Int32 × HP))
    (hK : ∀ (b5 : Int32) (b6 : Int32) (h : HP), Sim Z l cX6_nearest RX6 9 3 71 (some .int) "nearest" args (Mq Z args h0 h1 (some (.int v0))) h0 h1 v0 154 [(3, .int a3), (5, .int b5), (6, .int b6)] [] h (K b5 b6 h)) :
    ∀ (k : Nat) (b5 : Int32) (b6 : Int32) (b7 : Int32) (h : HP), Sim Z l cX6_nearest RX6 9 3 71 (some .int) "nearest" args (Mq Z args h0 h1 (some (.int v0))) h0 h1 v0 92 [(0, .ref (zb Z + a0)), (2, .int a2), (3, .int a3), (5, .int b5), (6, .int b6), (7, .int b7)] [] h (lp_X6_nearest_92 a0 a2 a3 K k b5 b6 b7 h) := by
  intro k
  induction k with
  | zero => exact fun _ _ _ _ => Sim.none
  | succ k ih => exact lc_X6_nearest_92 Z l a0 a2 a3 K _ hK ih
set_option maxRecDepth 100000 in
set_option maxHeartbeats 4000000 in
theorem c_X6_nearest (Z : ZZ) (l : Launch) (t : Nat) (a1 : Int32) (a2 : Int32) (a3 : Int32) (h : HP) {v : Int32} {h1 : HP} (ho : f_X6_nearest t a1 a2 a3 h = some (v, h1)) : MetP Z l yX6_nearest cX6_nearest 9 (some .int) 3 71 [.ref (zb Z + t), .int a1, .int a2, .int a3] h (some (.int v)) h1 := by
  refine MetP_of ho (by decide +kernel) (Nat.le_of_ble_eq_true rfl) [(0, .ref (zb Z + t)), (1, .int a1), (2, .int a2), (3, .int a3)] rfl (own := RX6) rfl (nm := "nearest") rfl ?_
  unfold f_X6_nearest
  refine S_aload_n dX6_nearest_0 rfl 0 rfl (pc' := 1) rfl ?_
  refine S_iload_n dX6_nearest_1 rfl 1 rfl (pc' := 2) rfl ?_
  refine S_iload_n dX6_nearest_2 rfl 2 rfl (pc' := 3) rfl ?_
  refine S_bipush dX6_nearest_3 (v := 8) rfl (pc' := 5) rfl ?_
  refine S_iload_n dX6_nearest_5 rfl 3 rfl (pc' := 6) rfl ?_
  refine S_i2l dX6_nearest_6 (pc' := 7) rfl ?_
  refine S_lconst dX6_nearest_7 (v := 0) rfl (pc' := 8) rfl ?_
  refine S_lconst dX6_nearest_8 (v := 1) rfl (pc' := 9) rfl ?_
  refine S_stai ml_X6_95 ms_X6_in dX6_nearest_9 [.long a3.toInt64, .long 0, .long 1] rfl (fun v h2 q => c_X6_in Z l _ _ _ _ q) ⟨Nat.le_of_ble_eq_true rfl, Nat.le_of_ble_eq_true rfl⟩ (rest := [.int 8, .int a2, .int a1, .ref (zb Z + t)]) (Nat.le_of_ble_eq_true rfl) rfl (pc' := 12) rfl (fun x9 h9 => ?_)
  refine S_invi ml_X6_344 mi_X6_noTold (ci := 6) ⟨_, rfl, rfl⟩ (by decide) dX6_nearest_12 [.int a1, .int a2, .int 8, .int x9] rfl (fun v h2 q => c_X6_noTold Z l _ _ _ _ _ _ q) ⟨Nat.le_of_ble_eq_true rfl, Nat.le_of_ble_eq_true rfl⟩ (rest := []) (Nat.le_of_ble_eq_true rfl) rfl (pc' := 15) rfl (fun x12 h12 => ?_)
  refine S_istore dX6_nearest_15 (by decide) (lo' := [(4, .int x12), (0, .ref (zb Z + t)), (1, .int a1), (2, .int a2), (3, .int a3)]) rfl (pc' := 17) rfl ?_
  refine S_iload dX6_nearest_17 0 rfl (pc' := 19) rfl ?_
  refine S_if_eq dX6_nearest_19 25 rfl (pc' := 22) rfl (fun g19 => ?_) (fun g19 => ?_)
  · refine S_iconst dX6_nearest_25 (v := 0) rfl (pc' := 26) rfl ?_
    refine S_istore dX6_nearest_26 (by decide) (lo' := [(5, .int 0), (4, .int x12), (0, .ref (zb Z + t)), (1, .int a1), (2, .int a2), (3, .int a3)]) rfl (pc' := 28) rfl ?_
    refine Sim.sub [2, 3, 4, 5, 0] rfl ?_
    refine lq_X6_nearest_28 Z l t a1 a2 a3 _ ?_ 1000 _ _
    intro h28_
    refine S_iconst dX6_nearest_83 (v := (-1)) rfl (pc' := 84) rfl ?_
    refine S_istore dX6_nearest_84 (by decide) (lo' := [(5, .int (-1)), (0, .ref (zb Z + t)), (2, .int a2), (3, .int a3)]) rfl (pc' := 86) rfl ?_
    refine S_iconst dX6_nearest_86 (v := (-1)) rfl (pc' := 87) rfl ?_
    refine S_istore dX6_nearest_87 (by decide) (lo' := [(6, .int (-1)), (5, .int (-1)), (0, .ref (zb Z + t)), (2, .int a2), (3, .int a3)]) rfl (pc' := 89) rfl ?_
    refine S_iconst dX6_nearest_89 (v := 0) rfl (pc' := 90) rfl ?_
    refine S_istore dX6_nearest_90 (by decide) (lo' := [(7, .int 0), (6, .int (-1)), (5, .int (-1)), (0, .ref (zb Z + t)), (2, .int a2), (3, .int a3)]) rfl (pc' := 92) rfl ?_
    refine Sim.sub [3, 4, 5, 2, 1, 0] rfl ?_
    refine lq_X6_nearest_92 Z l t a2 a3 _ ?_ 1000 _ _ _ _
    intro b5_92 b6_92 h92_
    refine S_iload_n dX6_nearest_154 rfl 0 rfl (pc' := 155) rfl ?_
    refine S_if_ne dX6_nearest_155 163 rfl (pc' := 158) rfl (fun g155 => ?_) (fun g155 => ?_)
    · refine S_iload dX6_nearest_163 2 rfl (pc' := 165) rfl ?_
      exact S_iret rfl dX6_nearest_165
    · refine S_iload dX6_nearest_158 1 rfl (pc' := 160) rfl ?_
      refine S_goto dX6_nearest_160 165 rfl ?_
      exact S_iret rfl dX6_nearest_165
  · refine S_iload dX6_nearest_22 0 rfl (pc' := 24) rfl ?_
    exact S_iret rfl dX6_nearest_24
theorem dX6_isSo_0 : decode cX6_isSo 0 = .ok (.iconst 0, 1) := by decide +kernel
theorem dX6_isSo_1 : decode cX6_isSo 1 = .ok (.istore 4, 2) := by decide +kernel
theorem dX6_isSo_3 : decode cX6_isSo 3 = .ok (.iload 4, 2) := by decide +kernel
theorem dX6_isSo_5 : decode cX6_isSo 5 = .ok (.iload_n 2, 1) := by decide +kernel
theorem dX6_isSo_6 : decode cX6_isSo 6 = .ok (.if_icmp .ge 30, 3) := by decide +kernel
theorem dX6_isSo_9 : decode cX6_isSo 9 = .ok (.aload_n 0, 1) := by decide +kernel
theorem dX6_isSo_10 : decode cX6_isSo 10 = .ok (.invokevirtual 310, 3) := by decide +kernel
theorem dX6_isSo_13 : decode cX6_isSo 13 = .ok (.pop, 1) := by decide +kernel
theorem dX6_isSo_14 : decode cX6_isSo 14 = .ok (.aload_n 0, 1) := by decide +kernel
theorem dX6_isSo_15 : decode cX6_isSo 15 = .ok (.iload_n 3, 1) := by decide +kernel
theorem dX6_isSo_16 : decode cX6_isSo 16 = .ok (.invokevirtual 270, 3) := by decide +kernel
theorem dX6_isSo_19 : decode cX6_isSo 19 = .ok (.i2l, 1) := by decide +kernel
theorem dX6_isSo_20 : decode cX6_isSo 20 = .ok (.aload_n 1, 1) := by decide +kernel
theorem dX6_isSo_21 : decode cX6_isSo 21 = .ok (.iload 4, 2) := by decide +kernel
theorem dX6_isSo_23 : decode cX6_isSo 23 = .ok (.laload, 1) := by decide +kernel
theorem dX6_isSo_24 : decode cX6_isSo 24 = .ok (.lcmp, 1) := by decide +kernel
theorem dX6_isSo_25 : decode cX6_isSo 25 = .ok (.ifCond .eq 5, 3) := by decide +kernel
theorem dX6_isSo_28 : decode cX6_isSo 28 = .ok (.iconst 0, 1) := by decide +kernel
theorem dX6_isSo_29 : decode cX6_isSo 29 = .ok (.ireturn, 1) := by decide +kernel
theorem dX6_isSo_30 : decode cX6_isSo 30 = .ok (.iinc 4 1, 3) := by decide +kernel
theorem dX6_isSo_33 : decode cX6_isSo 33 = .ok (.goto (-30), 3) := by decide +kernel
theorem dX6_isSo_36 : decode cX6_isSo 36 = .ok (.iconst 1, 1) := by decide +kernel
theorem dX6_isSo_37 : decode cX6_isSo 37 = .ok (.ireturn, 1) := by decide +kernel
set_option maxRecDepth 100000 in
set_option maxHeartbeats 4000000 in
theorem lc_X6_isSo_3 (Z : ZZ) (l : Launch) (a0 : Nat) (a1 : Nat) (a2 : Int32) (a3 : Int32) {args : Array Value} {h0 h1 : HP} {v0 : Int32} (K : HP → Option (Int32 × HP)) (F : Int32 → HP → Option (Int32 × HP))
    (hK : ∀ (h : HP), Sim Z l cX6_isSo RX6 5 5 111 (some .boolean) "isSo" args (Mq Z args h0 h1 (some (.int v0))) h0 h1 v0 36 [] [] h (K h))
    (hF : ∀ (b4 : Int32) (h : HP), Sim Z l cX6_isSo RX6 5 5 111 (some .boolean) "isSo" args (Mq Z args h0 h1 (some (.int v0))) h0 h1 v0 3 [(0, .ref (zb Z + a0)), (1, .ref (zb Z + a1)), (2, .int a2), (3, .int a3), (4, .int b4)] [] h (F b4 h)) :
    ∀ (b4 : Int32) (h : HP), Sim Z l cX6_isSo RX6 5 5 111 (some .boolean) "isSo" args (Mq Z args h0 h1 (some (.int v0))) h0 h1 v0 3 [(0, .ref (zb Z + a0)), (1, .ref (zb Z + a1)), (2, .int a2), (3, .int a3), (4, .int b4)] [] h (lb_X6_isSo_3 a0 a1 a2 a3 K F b4 h) := by
  intro b4 h
  unfold lb_X6_isSo_3
  refine S_iload dX6_isSo_3 4 rfl (pc' := 5) rfl ?_
  refine S_iload_n dX6_isSo_5 rfl 2 rfl (pc' := 6) rfl ?_
  refine S_icmp_ge dX6_isSo_6 36 rfl (pc' := 9) rfl (fun g6 => ?_) (fun g6 => ?_)
  · refine Sim.sub [] rfl ?_
    exact hK _
  · refine S_aload_n dX6_isSo_9 rfl 0 rfl (pc' := 10) rfl ?_
    refine S_invi ml_X6_310 mi_X6_passes (ci := 6) ⟨_, rfl, rfl⟩ (by decide) dX6_isSo_10 [] rfl (fun v h2 q => c_X6_passes Z l _ _ q) ⟨Nat.le_of_ble_eq_true rfl, Nat.le_of_ble_eq_true rfl⟩ (rest := []) (Nat.le_of_ble_eq_true rfl) rfl (pc' := 13) rfl (fun x10 h10 => ?_)
    refine S_pop dX6_isSo_13 rfl (pc' := 14) rfl ?_
    refine S_aload_n dX6_isSo_14 rfl 0 rfl (pc' := 15) rfl ?_
    refine S_iload_n dX6_isSo_15 rfl 3 rfl (pc' := 16) rfl ?_
    refine S_invi ml_X6_270 mi_X6_songsOf (ci := 6) ⟨_, rfl, rfl⟩ (by decide) dX6_isSo_16 [.int a3] rfl (fun v h2 q => c_X6_songsOf Z l _ _ _ q) ⟨Nat.le_of_ble_eq_true rfl, Nat.le_of_ble_eq_true rfl⟩ (rest := []) (Nat.le_of_ble_eq_true rfl) rfl (pc' := 19) rfl (fun x16 h16 => ?_)
    refine S_i2l dX6_isSo_19 (pc' := 20) rfl ?_
    refine S_aload_n dX6_isSo_20 rfl 1 rfl (pc' := 21) rfl ?_
    refine S_iload dX6_isSo_21 4 rfl (pc' := 23) rfl ?_
    refine S_laload dX6_isSo_23 (pc' := 24) rfl (fun x23 => ?_)
    refine S_lcmp dX6_isSo_24 (pc' := 25) rfl ?_
    refine S_if_eq dX6_isSo_25 30 rfl (pc' := 28) rfl (fun g25 => ?_) (fun g25 => ?_)
    · refine S_iinc dX6_isSo_30 (q := 4) rfl (v := b4 + 1) rfl (by decide) (lo' := [(4, .int (b4 + 1)), (0, .ref (zb Z + a0)), (1, .ref (zb Z + a1)), (2, .int a2), (3, .int a3)]) rfl (pc' := 33) rfl ?_
      refine S_goto dX6_isSo_33 3 rfl ?_
      refine Sim.sub [1, 2, 3, 4, 0] rfl ?_
      exact hF _ _
    · refine S_iconst dX6_isSo_28 (v := 0) rfl (pc' := 29) rfl ?_
      exact S_zret rfl dX6_isSo_29
theorem lq_X6_isSo_3 (Z : ZZ) (l : Launch) (a0 : Nat) (a1 : Nat) (a2 : Int32) (a3 : Int32) {args : Array Value} {h0 h1 : HP} {v0 : Int32} (K : HP → Option (Int32 × HP))
    (hK : ∀ (h : HP), Sim Z l cX6_isSo RX6 5 5 111 (some .boolean) "isSo" args (Mq Z args h0 h1 (some (.int v0))) h0 h1 v0 36 [] [] h (K h)) :
    ∀ (k : Nat) (b4 : Int32) (h : HP), Sim Z l cX6_isSo RX6 5 5 111 (some .boolean) "isSo" args (Mq Z args h0 h1 (some (.int v0))) h0 h1 v0 3 [(0, .ref (zb Z + a0)), (1, .ref (zb Z + a1)), (2, .int a2), (3, .int a3), (4, .int b4)] [] h (lp_X6_isSo_3 a0 a1 a2 a3 K k b4 h) := by
  intro k
  induction k with
  | zero => exact fun _ _ => Sim.none
  | succ k ih => exact lc_X6_isSo_3 Z l a0 a1 a2 a3 K _ hK ih
set_option maxRecDepth 100000 in
set_option maxHeartbeats 4000000 in
theorem c_X6_isSo (Z : ZZ) (l : Launch) (a0 : Nat) (a1 : Nat) (a2 : Int32) (a3 : Int32) (h : HP) {v : Int32} {h1 : HP} (ho : f_X6_isSo a0 a1 a2 a3 h = some (v, h1)) : MetP Z l yX6_isSo cX6_isSo 5 (some .boolean) 5 111 [.ref (zb Z + a0), .ref (zb Z + a1), .int a2, .int a3] h (some (.int v)) h1 := by
  refine MetP_of ho (by decide +kernel) (Nat.le_of_ble_eq_true rfl) [(0, .ref (zb Z + a0)), (1, .ref (zb Z + a1)), (2, .int a2), (3, .int a3)] rfl (own := RX6) rfl (nm := "isSo") rfl ?_
  unfold f_X6_isSo
  refine S_iconst dX6_isSo_0 (v := 0) rfl (pc' := 1) rfl ?_
  refine S_istore dX6_isSo_1 (by decide) (lo' := [(4, .int 0), (0, .ref (zb Z + a0)), (1, .ref (zb Z + a1)), (2, .int a2), (3, .int a3)]) rfl (pc' := 3) rfl ?_
  refine Sim.sub [1, 2, 3, 4, 0] rfl ?_
  refine lq_X6_isSo_3 Z l a0 a1 a2 a3 _ ?_ 1000 _ _
  intro h3_
  refine S_iconst dX6_isSo_36 (v := 1) rfl (pc' := 37) rfl ?_
  exact S_zret rfl dX6_isSo_37
theorem dX6_fits_0 : decode cX6_fits 0 = .ok (.aload_n 0, 1) := by decide +kernel
theorem dX6_fits_1 : decode cX6_fits 1 = .ok (.iload_n 1, 1) := by decide +kernel
theorem dX6_fits_2 : decode cX6_fits 2 = .ok (.iload_n 2, 1) := by decide +kernel
theorem dX6_fits_3 : decode cX6_fits 3 = .ok (.bipush 12, 2) := by decide +kernel
theorem dX6_fits_5 : decode cX6_fits 5 = .ok (.aload_n 0, 1) := by decide +kernel
theorem dX6_fits_6 : decode cX6_fits 6 = .ok (.iload_n 3, 1) := by decide +kernel
theorem dX6_fits_7 : decode cX6_fits 7 = .ok (.invokevirtual 119, 3) := by decide +kernel
theorem dX6_fits_10 : decode cX6_fits 10 = .ok (.ifCond .eq 18, 3) := by decide +kernel
theorem dX6_fits_13 : decode cX6_fits 13 = .ok (.iload 4, 2) := by decide +kernel
theorem dX6_fits_15 : decode cX6_fits 15 = .ok (.i2l, 1) := by decide +kernel
theorem dX6_fits_16 : decode cX6_fits 16 = .ok (.lconst 0, 1) := by decide +kernel
theorem dX6_fits_17 : decode cX6_fits 17 = .ok (.lconst 1, 1) := by decide +kernel
theorem dX6_fits_18 : decode cX6_fits 18 = .ok (.invokestatic 95, 3) := by decide +kernel
theorem dX6_fits_21 : decode cX6_fits 21 = .ok (.ifCond .eq 7, 3) := by decide +kernel
theorem dX6_fits_24 : decode cX6_fits 24 = .ok (.iconst 1, 1) := by decide +kernel
theorem dX6_fits_25 : decode cX6_fits 25 = .ok (.goto 4, 3) := by decide +kernel
theorem dX6_fits_28 : decode cX6_fits 28 = .ok (.iconst 0, 1) := by decide +kernel
theorem dX6_fits_29 : decode cX6_fits 29 = .ok (.invokevirtual 344, 3) := by decide +kernel
theorem dX6_fits_32 : decode cX6_fits 32 = .ok (.istore 5, 2) := by decide +kernel
theorem dX6_fits_34 : decode cX6_fits 34 = .ok (.iload 5, 2) := by decide +kernel
theorem dX6_fits_36 : decode cX6_fits 36 = .ok (.ifCond .eq 6, 3) := by decide +kernel
theorem dX6_fits_39 : decode cX6_fits 39 = .ok (.iload 5, 2) := by decide +kernel
theorem dX6_fits_41 : decode cX6_fits 41 = .ok (.ireturn, 1) := by decide +kernel
theorem dX6_fits_42 : decode cX6_fits 42 = .ok (.iconst 0, 1) := by decide +kernel
theorem dX6_fits_43 : decode cX6_fits 43 = .ok (.istore 6, 2) := by decide +kernel
theorem dX6_fits_45 : decode cX6_fits 45 = .ok (.iconst 0, 1) := by decide +kernel
theorem dX6_fits_46 : decode cX6_fits 46 = .ok (.istore 7, 2) := by decide +kernel
theorem dX6_fits_48 : decode cX6_fits 48 = .ok (.iload 7, 2) := by decide +kernel
theorem dX6_fits_50 : decode cX6_fits 50 = .ok (.iload 4, 2) := by decide +kernel
theorem dX6_fits_52 : decode cX6_fits 52 = .ok (.ifCond .ne 8, 3) := by decide +kernel
theorem dX6_fits_55 : decode cX6_fits 55 = .ok (.bipush 9, 2) := by decide +kernel
theorem dX6_fits_57 : decode cX6_fits 57 = .ok (.goto 4, 3) := by decide +kernel
theorem dX6_fits_60 : decode cX6_fits 60 = .ok (.iconst 5, 1) := by decide +kernel
theorem dX6_fits_61 : decode cX6_fits 61 = .ok (.if_icmp .gt 93, 3) := by decide +kernel
theorem dX6_fits_64 : decode cX6_fits 64 = .ok (.aload_n 0, 1) := by decide +kernel
theorem dX6_fits_65 : decode cX6_fits 65 = .ok (.invokevirtual 306, 3) := by decide +kernel
theorem dX6_fits_68 : decode cX6_fits 68 = .ok (.astore 8, 2) := by decide +kernel
theorem dX6_fits_70 : decode cX6_fits 70 = .ok (.aload 8, 2) := by decide +kernel
theorem dX6_fits_72 : decode cX6_fits 72 = .ok (.getfield 47, 3) := by decide +kernel
theorem dX6_fits_75 : decode cX6_fits 75 = .ok (.iload_n 3, 1) := by decide +kernel
theorem dX6_fits_76 : decode cX6_fits 76 = .ok (.iload 4, 2) := by decide +kernel
theorem dX6_fits_78 : decode cX6_fits 78 = .ok (.ifCond .ne 8, 3) := by decide +kernel
theorem dX6_fits_81 : decode cX6_fits 81 = .ok (.iload 7, 2) := by decide +kernel
theorem dX6_fits_83 : decode cX6_fits 83 = .ok (.goto 10, 3) := by decide +kernel
theorem dX6_fits_86 : decode cX6_fits 86 = .ok (.aload 8, 2) := by decide +kernel
theorem dX6_fits_88 : decode cX6_fits 88 = .ok (.getfield 47, 3) := by decide +kernel
theorem dX6_fits_91 : decode cX6_fits 91 = .ok (.iload_n 3, 1) := by decide +kernel
theorem dX6_fits_92 : decode cX6_fits 92 = .ok (.iaload, 1) := by decide +kernel
theorem dX6_fits_93 : decode cX6_fits 93 = .ok (.iastore, 1) := by decide +kernel
theorem dX6_fits_94 : decode cX6_fits 94 = .ok (.aload 8, 2) := by decide +kernel
theorem dX6_fits_96 : decode cX6_fits 96 = .ok (.getfield 41, 3) := by decide +kernel
theorem dX6_fits_99 : decode cX6_fits 99 = .ok (.iload_n 3, 1) := by decide +kernel
theorem dX6_fits_100 : decode cX6_fits 100 = .ok (.iload 4, 2) := by decide +kernel
theorem dX6_fits_102 : decode cX6_fits 102 = .ok (.iconst 1, 1) := by decide +kernel
theorem dX6_fits_103 : decode cX6_fits 103 = .ok (.if_icmp .ne 8, 3) := by decide +kernel
theorem dX6_fits_106 : decode cX6_fits 106 = .ok (.iload 7, 2) := by decide +kernel
theorem dX6_fits_108 : decode cX6_fits 108 = .ok (.goto 10, 3) := by decide +kernel
theorem dX6_fits_111 : decode cX6_fits 111 = .ok (.aload 8, 2) := by decide +kernel
theorem dX6_fits_113 : decode cX6_fits 113 = .ok (.getfield 41, 3) := by decide +kernel
theorem dX6_fits_116 : decode cX6_fits 116 = .ok (.iload_n 3, 1) := by decide +kernel
theorem dX6_fits_117 : decode cX6_fits 117 = .ok (.iaload, 1) := by decide +kernel
theorem dX6_fits_118 : decode cX6_fits 118 = .ok (.iastore, 1) := by decide +kernel
theorem dX6_fits_119 : decode cX6_fits 119 = .ok (.iload 6, 2) := by decide +kernel
theorem dX6_fits_121 : decode cX6_fits 121 = .ok (.aload 8, 2) := by decide +kernel
theorem dX6_fits_123 : decode cX6_fits 123 = .ok (.aload_n 0, 1) := by decide +kernel
theorem dX6_fits_124 : decode cX6_fits 124 = .ok (.getfield 21, 3) := by decide +kernel
theorem dX6_fits_127 : decode cX6_fits 127 = .ok (.iload_n 1, 1) := by decide +kernel
theorem dX6_fits_128 : decode cX6_fits 128 = .ok (.aaload, 1) := by decide +kernel
theorem dX6_fits_129 : decode cX6_fits 129 = .ok (.iload_n 2, 1) := by decide +kernel
theorem dX6_fits_130 : decode cX6_fits 130 = .ok (.iload_n 3, 1) := by decide +kernel
theorem dX6_fits_131 : decode cX6_fits 131 = .ok (.invokestatic 348, 3) := by decide +kernel
theorem dX6_fits_134 : decode cX6_fits 134 = .ok (.ifCond .eq 10, 3) := by decide +kernel
theorem dX6_fits_137 : decode cX6_fits 137 = .ok (.iconst 1, 1) := by decide +kernel
theorem dX6_fits_138 : decode cX6_fits 138 = .ok (.iload 7, 2) := by decide +kernel
theorem dX6_fits_140 : decode cX6_fits 140 = .ok (.ishl, 1) := by decide +kernel
theorem dX6_fits_141 : decode cX6_fits 141 = .ok (.goto 4, 3) := by decide +kernel
theorem dX6_fits_144 : decode cX6_fits 144 = .ok (.iconst 0, 1) := by decide +kernel
theorem dX6_fits_145 : decode cX6_fits 145 = .ok (.ior, 1) := by decide +kernel
theorem dX6_fits_146 : decode cX6_fits 146 = .ok (.istore 6, 2) := by decide +kernel
theorem dX6_fits_148 : decode cX6_fits 148 = .ok (.iinc 7 1, 3) := by decide +kernel
theorem dX6_fits_151 : decode cX6_fits 151 = .ok (.goto (-103), 3) := by decide +kernel
theorem dX6_fits_154 : decode cX6_fits 154 = .ok (.iload 6, 2) := by decide +kernel
theorem dX6_fits_156 : decode cX6_fits 156 = .ok (.ireturn, 1) := by decide +kernel
set_option maxRecDepth 100000 in
set_option maxHeartbeats 4000000 in
theorem lc_X6_fits_48 (Z : ZZ) (l : Launch) (a0 : Nat) (a1 : Int32) (a2 : Int32) (a3 : Int32) (a4 : Int32) {args : Array Value} {h0 h1 : HP} {v0 : Int32} (K : Int32 → HP → Option (Int32 × HP)) (F : Int32 → Int32 → HP → Option (Int32 × HP))
    (hK : ∀ (b6 : Int32) (h : HP), Sim Z l cX6_fits RX6 9 6 135 (some .int) "fits" args (Mq Z args h0 h1 (some (.int v0))) h0 h1 v0 154 [(6, .int b6)] [] h (K b6 h))
    (hF : ∀ (b6 : Int32) (b7 : Int32) (h : HP), Sim Z l cX6_fits RX6 9 6 135 (some .int) "fits" args (Mq Z args h0 h1 (some (.int v0))) h0 h1 v0 48 [(0, .ref (zb Z + a0)), (1, .int a1), (2, .int a2), (3, .int a3), (4, .int a4), (6, .int b6), (7, .int b7)] [] h (F b6 b7 h)) :
    ∀ (b6 : Int32) (b7 : Int32) (h : HP), Sim Z l cX6_fits RX6 9 6 135 (some .int) "fits" args (Mq Z args h0 h1 (some (.int v0))) h0 h1 v0 48 [(0, .ref (zb Z + a0)), (1, .int a1), (2, .int a2), (3, .int a3), (4, .int a4), (6, .int b6), (7, .int b7)] [] h (lb_X6_fits_48 a0 a1 a2 a3 a4 K F b6 b7 h) := by
  intro b6 b7 h
  unfold lb_X6_fits_48
  refine S_iload dX6_fits_48 6 rfl (pc' := 50) rfl ?_
  refine S_iload dX6_fits_50 4 rfl (pc' := 52) rfl ?_
  refine S_if_ne dX6_fits_52 60 rfl (pc' := 55) rfl (fun g52 => ?_) (fun g52 => ?_)
  · refine S_iconst dX6_fits_60 (v := 5) rfl (pc' := 61) rfl ?_
    refine S_icmp_gt dX6_fits_61 154 rfl (pc' := 64) rfl (fun g61 => ?_) (fun g61 => ?_)
    · refine Sim.sub [5] rfl ?_
      exact hK _ _
    · refine S_aload_n dX6_fits_64 rfl 0 rfl (pc' := 65) rfl ?_
      refine S_invr ml_X6_306 mi_X6_thought (ci := 6) ⟨_, rfl, rfl⟩ (by decide) dX6_fits_65 [] rfl (fun v h2 q => c_X6_thought Z l _ _ q) ⟨Nat.le_of_ble_eq_true rfl, Nat.le_of_ble_eq_true rfl⟩ (rest := []) (Nat.le_of_ble_eq_true rfl) rfl (pc' := 68) rfl (fun x65 h65 => ?_)
      refine S_astore dX6_fits_68 (by decide) (lo' := [(8, .ref (zb Z + x65)), (0, .ref (zb Z + a0)), (1, .int a1), (2, .int a2), (3, .int a3), (4, .int a4), (6, .int b6), (7, .int b7)]) rfl (pc' := 70) rfl ?_
      refine S_aload dX6_fits_70 0 rfl (pc' := 72) rfl ?_
      refine S_getR fl_X6_47 rfl dX6_fits_72 (pc' := 75) rfl (fun x72 => ?_)
      refine S_iload_n dX6_fits_75 rfl 4 rfl (pc' := 76) rfl ?_
      refine S_iload dX6_fits_76 5 rfl (pc' := 78) rfl ?_
      refine S_if_ne_J dX6_fits_78 86 rfl (pc' := 81) rfl g52 ?_
      refine S_aload dX6_fits_86 0 rfl (pc' := 88) rfl ?_
      refine S_getR fl_X6_47 rfl dX6_fits_88 (pc' := 91) rfl (fun x88 => ?_)
      refine S_iload_n dX6_fits_91 rfl 4 rfl (pc' := 92) rfl ?_
      refine S_iaload dX6_fits_92 (pc' := 93) rfl (fun x92 => ?_)
      refine S_iastore dX6_fits_93 (pc' := 94) rfl (fun h93 => ?_)
      refine S_aload dX6_fits_94 0 rfl (pc' := 96) rfl ?_
      refine S_getR fl_X6_41 rfl dX6_fits_96 (pc' := 99) rfl (fun x96 => ?_)
      refine S_iload_n dX6_fits_99 rfl 4 rfl (pc' := 100) rfl ?_
      refine S_iload dX6_fits_100 5 rfl (pc' := 102) rfl ?_
      refine S_iconst dX6_fits_102 (v := 1) rfl (pc' := 103) rfl ?_
      refine S_icmp_ne dX6_fits_103 111 rfl (pc' := 106) rfl (fun g103 => ?_) (fun g103 => ?_)
      · refine S_aload dX6_fits_111 0 rfl (pc' := 113) rfl ?_
        refine S_getR fl_X6_41 rfl dX6_fits_113 (pc' := 116) rfl (fun x113 => ?_)
        refine S_iload_n dX6_fits_116 rfl 4 rfl (pc' := 117) rfl ?_
        refine S_iaload dX6_fits_117 (pc' := 118) rfl (fun x117 => ?_)
        refine S_iastore dX6_fits_118 (pc' := 119) rfl (fun h118 => ?_)
        refine S_iload dX6_fits_119 6 rfl (pc' := 121) rfl ?_
        refine S_aload dX6_fits_121 0 rfl (pc' := 123) rfl ?_
        refine S_aload_n dX6_fits_123 rfl 1 rfl (pc' := 124) rfl ?_
        refine S_getR fl_X6_21 rfl dX6_fits_124 (pc' := 127) rfl (fun x124 => ?_)
        refine S_iload_n dX6_fits_127 rfl 2 rfl (pc' := 128) rfl ?_
        refine S_aaloadQ dX6_fits_128 (pc' := 129) rfl (fun x128 => ?_)
        refine S_iload_n dX6_fits_129 rfl 3 rfl (pc' := 130) rfl ?_
        refine S_iload_n dX6_fits_130 rfl 4 rfl (pc' := 131) rfl ?_
        refine S_stai ml_X6_348 ms_X6_isSo dX6_fits_131 [.ref (zb Z + x65), .ref (zb Z + x128), .int a2, .int a3] rfl (fun v h2 q => c_X6_isSo Z l _ _ _ _ _ q) ⟨Nat.le_of_ble_eq_true rfl, Nat.le_of_ble_eq_true rfl⟩ (rest := [.int b6]) (Nat.le_of_ble_eq_true rfl) rfl (pc' := 134) rfl (fun x131 h131 => ?_)
        refine S_if_eq dX6_fits_134 144 rfl (pc' := 137) rfl (fun g134 => ?_) (fun g134 => ?_)
        · refine S_iconst dX6_fits_144 (v := 0) rfl (pc' := 145) rfl ?_
          refine S_ior dX6_fits_145 (pc' := 146) rfl ?_
          refine S_istore dX6_fits_146 (by decide) (lo' := [(6, .int (b6 ||| 0)), (8, .ref (zb Z + x65)), (0, .ref (zb Z + a0)), (1, .int a1), (2, .int a2), (3, .int a3), (4, .int a4), (7, .int b7)]) rfl (pc' := 148) rfl ?_
          refine S_iinc dX6_fits_148 (q := 7) rfl (v := b7 + 1) rfl (by decide) (lo' := [(7, .int (b7 + 1)), (6, .int (b6 ||| 0)), (8, .ref (zb Z + x65)), (0, .ref (zb Z + a0)), (1, .int a1), (2, .int a2), (3, .int a3), (4, .int a4)]) rfl (pc' := 151) rfl ?_
          refine S_goto dX6_fits_151 48 rfl ?_
          refine Sim.sub [3, 4, 5, 6, 7, 1, 0] rfl ?_
          exact hF _ _ _
        · refine S_iconst dX6_fits_137 (v := 1) rfl (pc' := 138) rfl ?_
          refine S_iload dX6_fits_138 7 rfl (pc' := 140) rfl ?_
          refine S_ishl dX6_fits_140 (pc' := 141) rfl ?_
          refine S_goto dX6_fits_141 145 rfl ?_
          refine S_ior dX6_fits_145 (pc' := 146) rfl ?_
          refine S_istore dX6_fits_146 (by decide) (lo' := [(6, .int (b6 ||| (1 <<< (b7 &&& 31)))), (8, .ref (zb Z + x65)), (0, .ref (zb Z + a0)), (1, .int a1), (2, .int a2), (3, .int a3), (4, .int a4), (7, .int b7)]) rfl (pc' := 148) rfl ?_
          refine S_iinc dX6_fits_148 (q := 7) rfl (v := b7 + 1) rfl (by decide) (lo' := [(7, .int (b7 + 1)), (6, .int (b6 ||| (1 <<< (b7 &&& 31)))), (8, .ref (zb Z + x65)), (0, .ref (zb Z + a0)), (1, .int a1), (2, .int a2), (3, .int a3), (4, .int a4)]) rfl (pc' := 151) rfl ?_
          refine S_goto dX6_fits_151 48 rfl ?_
          refine Sim.sub [3, 4, 5, 6, 7, 1, 0] rfl ?_
          exact hF _ _ _
      · refine S_iload dX6_fits_106 7 rfl (pc' := 108) rfl ?_
        refine S_goto dX6_fits_108 118 rfl ?_
        refine S_iastore dX6_fits_118 (pc' := 119) rfl (fun h118 => ?_)
        refine S_iload dX6_fits_119 6 rfl (pc' := 121) rfl ?_
        refine S_aload dX6_fits_121 0 rfl (pc' := 123) rfl ?_
        refine S_aload_n dX6_fits_123 rfl 1 rfl (pc' := 124) rfl ?_
        refine S_getR fl_X6_21 rfl dX6_fits_124 (pc' := 127) rfl (fun x124 => ?_)
        refine S_iload_n dX6_fits_127 rfl 2 rfl (pc' := 128) rfl ?_
        refine S_aaloadQ dX6_fits_128 (pc' := 129) rfl (fun x128 => ?_)
        refine S_iload_n dX6_fits_129 rfl 3 rfl (pc' := 130) rfl ?_
        refine S_iload_n dX6_fits_130 rfl 4 rfl (pc' := 131) rfl ?_
        refine S_stai ml_X6_348 ms_X6_isSo dX6_fits_131 [.ref (zb Z + x65), .ref (zb Z + x128), .int a2, .int a3] rfl (fun v h2 q => c_X6_isSo Z l _ _ _ _ _ q) ⟨Nat.le_of_ble_eq_true rfl, Nat.le_of_ble_eq_true rfl⟩ (rest := [.int b6]) (Nat.le_of_ble_eq_true rfl) rfl (pc' := 134) rfl (fun x131 h131 => ?_)
        refine S_if_eq dX6_fits_134 144 rfl (pc' := 137) rfl (fun g134 => ?_) (fun g134 => ?_)
        · refine S_iconst dX6_fits_144 (v := 0) rfl (pc' := 145) rfl ?_
          refine S_ior dX6_fits_145 (pc' := 146) rfl ?_
          refine S_istore dX6_fits_146 (by decide) (lo' := [(6, .int (b6 ||| 0)), (8, .ref (zb Z + x65)), (0, .ref (zb Z + a0)), (1, .int a1), (2, .int a2), (3, .int a3), (4, .int a4), (7, .int b7)]) rfl (pc' := 148) rfl ?_
          refine S_iinc dX6_fits_148 (q := 7) rfl (v := b7 + 1) rfl (by decide) (lo' := [(7, .int (b7 + 1)), (6, .int (b6 ||| 0)), (8, .ref (zb Z + x65)), (0, .ref (zb Z + a0)), (1, .int a1), (2, .int a2), (3, .int a3), (4, .int a4)]) rfl (pc' := 151) rfl ?_
          refine S_goto dX6_fits_151 48 rfl ?_
          refine Sim.sub [3, 4, 5, 6, 7, 1, 0] rfl ?_
          exact hF _ _ _
        · refine S_iconst dX6_fits_137 (v := 1) rfl (pc' := 138) rfl ?_
          refine S_iload dX6_fits_138 7 rfl (pc' := 140) rfl ?_
          refine S_ishl dX6_fits_140 (pc' := 141) rfl ?_
          refine S_goto dX6_fits_141 145 rfl ?_
          refine S_ior dX6_fits_145 (pc' := 146) rfl ?_
          refine S_istore dX6_fits_146 (by decide) (lo' := [(6, .int (b6 ||| (1 <<< (b7 &&& 31)))), (8, .ref (zb Z + x65)), (0, .ref (zb Z + a0)), (1, .int a1), (2, .int a2), (3, .int a3), (4, .int a4), (7, .int b7)]) rfl (pc' := 148) rfl ?_
          refine S_iinc dX6_fits_148 (q := 7) rfl (v := b7 + 1) rfl (by decide) (lo' := [(7, .int (b7 + 1)), (6, .int (b6 ||| (1 <<< (b7 &&& 31)))), (8, .ref (zb Z + x65)), (0, .ref (zb Z + a0)), (1, .int a1), (2, .int a2), (3, .int a3), (4, .int a4)]) rfl (pc' := 151) rfl ?_
          refine S_goto dX6_fits_151 48 rfl ?_
          refine Sim.sub [3, 4, 5, 6, 7, 1, 0] rfl ?_
          exact hF _ _ _
  · refine S_bipush dX6_fits_55 (v := 9) rfl (pc' := 57) rfl ?_
    refine S_goto dX6_fits_57 61 rfl ?_
    refine S_icmp_gt dX6_fits_61 154 rfl (pc' := 64) rfl (fun g61 => ?_) (fun g61 => ?_)
    · refine Sim.sub [5] rfl ?_
      exact hK _ _
    · refine S_aload_n dX6_fits_64 rfl 0 rfl (pc' := 65) rfl ?_
      refine S_invr ml_X6_306 mi_X6_thought (ci := 6) ⟨_, rfl, rfl⟩ (by decide) dX6_fits_65 [] rfl (fun v h2 q => c_X6_thought Z l _ _ q) ⟨Nat.le_of_ble_eq_true rfl, Nat.le_of_ble_eq_true rfl⟩ (rest := []) (Nat.le_of_ble_eq_true rfl) rfl (pc' := 68) rfl (fun x65 h65 => ?_)
      refine S_astore dX6_fits_68 (by decide) (lo' := [(8, .ref (zb Z + x65)), (0, .ref (zb Z + a0)), (1, .int a1), (2, .int a2), (3, .int a3), (4, .int a4), (6, .int b6), (7, .int b7)]) rfl (pc' := 70) rfl ?_
      refine S_aload dX6_fits_70 0 rfl (pc' := 72) rfl ?_
      refine S_getR fl_X6_47 rfl dX6_fits_72 (pc' := 75) rfl (fun x72 => ?_)
      refine S_iload_n dX6_fits_75 rfl 4 rfl (pc' := 76) rfl ?_
      refine S_iload dX6_fits_76 5 rfl (pc' := 78) rfl ?_
      refine S_if_ne_N dX6_fits_78 86 rfl (pc' := 81) rfl g52 ?_
      refine S_iload dX6_fits_81 7 rfl (pc' := 83) rfl ?_
      refine S_goto dX6_fits_83 93 rfl ?_
      refine S_iastore dX6_fits_93 (pc' := 94) rfl (fun h93 => ?_)
      refine S_aload dX6_fits_94 0 rfl (pc' := 96) rfl ?_
      refine S_getR fl_X6_41 rfl dX6_fits_96 (pc' := 99) rfl (fun x96 => ?_)
      refine S_iload_n dX6_fits_99 rfl 4 rfl (pc' := 100) rfl ?_
      refine S_iload dX6_fits_100 5 rfl (pc' := 102) rfl ?_
      refine S_iconst dX6_fits_102 (v := 1) rfl (pc' := 103) rfl ?_
      refine S_icmp_ne_J dX6_fits_103 111 rfl (pc' := 106) rfl (fun q9 => absurd (g52.symm.trans q9) (by decide)) ?_
      refine S_aload dX6_fits_111 0 rfl (pc' := 113) rfl ?_
      refine S_getR fl_X6_41 rfl dX6_fits_113 (pc' := 116) rfl (fun x113 => ?_)
      refine S_iload_n dX6_fits_116 rfl 4 rfl (pc' := 117) rfl ?_
      refine S_iaload dX6_fits_117 (pc' := 118) rfl (fun x117 => ?_)
      refine S_iastore dX6_fits_118 (pc' := 119) rfl (fun h118 => ?_)
      refine S_iload dX6_fits_119 6 rfl (pc' := 121) rfl ?_
      refine S_aload dX6_fits_121 0 rfl (pc' := 123) rfl ?_
      refine S_aload_n dX6_fits_123 rfl 1 rfl (pc' := 124) rfl ?_
      refine S_getR fl_X6_21 rfl dX6_fits_124 (pc' := 127) rfl (fun x124 => ?_)
      refine S_iload_n dX6_fits_127 rfl 2 rfl (pc' := 128) rfl ?_
      refine S_aaloadQ dX6_fits_128 (pc' := 129) rfl (fun x128 => ?_)
      refine S_iload_n dX6_fits_129 rfl 3 rfl (pc' := 130) rfl ?_
      refine S_iload_n dX6_fits_130 rfl 4 rfl (pc' := 131) rfl ?_
      refine S_stai ml_X6_348 ms_X6_isSo dX6_fits_131 [.ref (zb Z + x65), .ref (zb Z + x128), .int a2, .int a3] rfl (fun v h2 q => c_X6_isSo Z l _ _ _ _ _ q) ⟨Nat.le_of_ble_eq_true rfl, Nat.le_of_ble_eq_true rfl⟩ (rest := [.int b6]) (Nat.le_of_ble_eq_true rfl) rfl (pc' := 134) rfl (fun x131 h131 => ?_)
      refine S_if_eq dX6_fits_134 144 rfl (pc' := 137) rfl (fun g134 => ?_) (fun g134 => ?_)
      · refine S_iconst dX6_fits_144 (v := 0) rfl (pc' := 145) rfl ?_
        refine S_ior dX6_fits_145 (pc' := 146) rfl ?_
        refine S_istore dX6_fits_146 (by decide) (lo' := [(6, .int (b6 ||| 0)), (8, .ref (zb Z + x65)), (0, .ref (zb Z + a0)), (1, .int a1), (2, .int a2), (3, .int a3), (4, .int a4), (7, .int b7)]) rfl (pc' := 148) rfl ?_
        refine S_iinc dX6_fits_148 (q := 7) rfl (v := b7 + 1) rfl (by decide) (lo' := [(7, .int (b7 + 1)), (6, .int (b6 ||| 0)), (8, .ref (zb Z + x65)), (0, .ref (zb Z + a0)), (1, .int a1), (2, .int a2), (3, .int a3), (4, .int a4)]) rfl (pc' := 151) rfl ?_
        refine S_goto dX6_fits_151 48 rfl ?_
        refine Sim.sub [3, 4, 5, 6, 7, 1, 0] rfl ?_
        exact hF _ _ _
      · refine S_iconst dX6_fits_137 (v := 1) rfl (pc' := 138) rfl ?_
        refine S_iload dX6_fits_138 7 rfl (pc' := 140) rfl ?_
        refine S_ishl dX6_fits_140 (pc' := 141) rfl ?_
        refine S_goto dX6_fits_141 145 rfl ?_
        refine S_ior dX6_fits_145 (pc' := 146) rfl ?_
        refine S_istore dX6_fits_146 (by decide) (lo' := [(6, .int (b6 ||| (1 <<< (b7 &&& 31)))), (8, .ref (zb Z + x65)), (0, .ref (zb Z + a0)), (1, .int a1), (2, .int a2), (3, .int a3), (4, .int a4), (7, .int b7)]) rfl (pc' := 148) rfl ?_
        refine S_iinc dX6_fits_148 (q := 7) rfl (v := b7 + 1) rfl (by decide) (lo' := [(7, .int (b7 + 1)), (6, .int (b6 ||| (1 <<< (b7 &&& 31)))), (8, .ref (zb Z + x65)), (0, .ref (zb Z + a0)), (1, .int a1), (2, .int a2), (3, .int a3), (4, .int a4)]) rfl (pc' := 151) rfl ?_
        refine S_goto dX6_fits_151 48 rfl ?_
        refine Sim.sub [3, 4, 5, 6, 7, 1, 0] rfl ?_
        exact hF _ _ _
theorem lq_X6_fits_48 (Z : ZZ) (l : Launch) (a0 : Nat) (a1 : Int32) (a2 : Int32) (a3 : Int32) (a4 : Int32) {args : Array Value} {h0 h1 : HP} {v0 : Int32} (K : Int32 → HP → Option (Int32 × HP))
    (hK : ∀ (b6 : Int32) (h : HP), Sim Z l cX6_fits RX6 9 6 135 (some .int) "fits" args (Mq Z args h0 h1 (some (.int v0))) h0 h1 v0 154 [(6, .int b6)] [] h (K b6 h)) :
    ∀ (k : Nat) (b6 : Int32) (b7 : Int32) (h : HP), Sim Z l cX6_fits RX6 9 6 135 (some .int) "fits" args (Mq Z args h0 h1 (some (.int v0))) h0 h1 v0 48 [(0, .ref (zb Z + a0)), (1, .int a1), (2, .int a2), (3, .int a3), (4, .int a4), (6, .int b6), (7, .int b7)] [] h (lp_X6_fits_48 a0 a1 a2 a3 a4 K k b6 b7 h) := by
  intro k
  induction k with
  | zero => exact fun _ _ _ => Sim.none
  | succ k ih => exact lc_X6_fits_48 Z l a0 a1 a2 a3 a4 K _ hK ih
set_option maxRecDepth 100000 in
set_option maxHeartbeats 4000000 in
theorem c_X6_fits (Z : ZZ) (l : Launch) (t : Nat) (a1 : Int32) (a2 : Int32) (a3 : Int32) (a4 : Int32) (h : HP) {v : Int32} {h1 : HP} (ho : f_X6_fits t a1 a2 a3 a4 h = some (v, h1)) : MetP Z l yX6_fits cX6_fits 9 (some .int) 6 135 [.ref (zb Z + t), .int a1, .int a2, .int a3, .int a4] h (some (.int v)) h1 := by
  refine MetP_of ho (by decide +kernel) (Nat.le_of_ble_eq_true rfl) [(0, .ref (zb Z + t)), (1, .int a1), (2, .int a2), (3, .int a3), (4, .int a4)] rfl (own := RX6) rfl (nm := "fits") rfl ?_
  unfold f_X6_fits
  refine S_aload_n dX6_fits_0 rfl 0 rfl (pc' := 1) rfl ?_
  refine S_iload_n dX6_fits_1 rfl 1 rfl (pc' := 2) rfl ?_
  refine S_iload_n dX6_fits_2 rfl 2 rfl (pc' := 3) rfl ?_
  refine S_bipush dX6_fits_3 (v := 12) rfl (pc' := 5) rfl ?_
  refine S_aload_n dX6_fits_5 rfl 0 rfl (pc' := 6) rfl ?_
  refine S_iload_n dX6_fits_6 rfl 3 rfl (pc' := 7) rfl ?_
  refine S_invi ml_X6_119 mi_X6_isPerson (ci := 6) ⟨_, rfl, rfl⟩ (by decide) dX6_fits_7 [.int a3] rfl (fun v h2 q => c_X6_isPerson Z l _ _ _ q) ⟨Nat.le_of_ble_eq_true rfl, Nat.le_of_ble_eq_true rfl⟩ (rest := [.int 12, .int a2, .int a1, .ref (zb Z + t)]) (Nat.le_of_ble_eq_true rfl) rfl (pc' := 10) rfl (fun x7 h7 => ?_)
  refine S_if_eq dX6_fits_10 28 rfl (pc' := 13) rfl (fun g10 => ?_) (fun g10 => ?_)
  · refine S_iconst dX6_fits_28 (v := 0) rfl (pc' := 29) rfl ?_
    refine S_invi ml_X6_344 mi_X6_noTold (ci := 6) ⟨_, rfl, rfl⟩ (by decide) dX6_fits_29 [.int a1, .int a2, .int 12, .int 0] rfl (fun v h2 q => c_X6_noTold Z l _ _ _ _ _ _ q) ⟨Nat.le_of_ble_eq_true rfl, Nat.le_of_ble_eq_true rfl⟩ (rest := []) (Nat.le_of_ble_eq_true rfl) rfl (pc' := 32) rfl (fun x29 h29 => ?_)
    refine S_istore dX6_fits_32 (by decide) (lo' := [(5, .int x29), (0, .ref (zb Z + t)), (1, .int a1), (2, .int a2), (3, .int a3), (4, .int a4)]) rfl (pc' := 34) rfl ?_
    refine S_iload dX6_fits_34 0 rfl (pc' := 36) rfl ?_
    refine S_if_eq dX6_fits_36 42 rfl (pc' := 39) rfl (fun g36 => ?_) (fun g36 => ?_)
    · refine S_iconst dX6_fits_42 (v := 0) rfl (pc' := 43) rfl ?_
      refine S_istore dX6_fits_43 (by decide) (lo' := [(6, .int 0), (5, .int x29), (0, .ref (zb Z + t)), (1, .int a1), (2, .int a2), (3, .int a3), (4, .int a4)]) rfl (pc' := 45) rfl ?_
      refine S_iconst dX6_fits_45 (v := 0) rfl (pc' := 46) rfl ?_
      refine S_istore dX6_fits_46 (by decide) (lo' := [(7, .int 0), (6, .int 0), (5, .int x29), (0, .ref (zb Z + t)), (1, .int a1), (2, .int a2), (3, .int a3), (4, .int a4)]) rfl (pc' := 48) rfl ?_
      refine Sim.sub [3, 4, 5, 6, 7, 1, 0] rfl ?_
      refine lq_X6_fits_48 Z l t a1 a2 a3 a4 _ ?_ 1000 _ _ _
      intro b6_48 h48_
      refine S_iload dX6_fits_154 0 rfl (pc' := 156) rfl ?_
      exact S_iret rfl dX6_fits_156
    · refine S_iload dX6_fits_39 0 rfl (pc' := 41) rfl ?_
      exact S_iret rfl dX6_fits_41
  · refine S_iload dX6_fits_13 4 rfl (pc' := 15) rfl ?_
    refine S_i2l dX6_fits_15 (pc' := 16) rfl ?_
    refine S_lconst dX6_fits_16 (v := 0) rfl (pc' := 17) rfl ?_
    refine S_lconst dX6_fits_17 (v := 1) rfl (pc' := 18) rfl ?_
    refine S_stai ml_X6_95 ms_X6_in dX6_fits_18 [.long a4.toInt64, .long 0, .long 1] rfl (fun v h2 q => c_X6_in Z l _ _ _ _ q) ⟨Nat.le_of_ble_eq_true rfl, Nat.le_of_ble_eq_true rfl⟩ (rest := [.int 12, .int a2, .int a1, .ref (zb Z + t)]) (Nat.le_of_ble_eq_true rfl) rfl (pc' := 21) rfl (fun x18 h18 => ?_)
    refine S_if_eq dX6_fits_21 28 rfl (pc' := 24) rfl (fun g21 => ?_) (fun g21 => ?_)
    · refine S_iconst dX6_fits_28 (v := 0) rfl (pc' := 29) rfl ?_
      refine S_invi ml_X6_344 mi_X6_noTold (ci := 6) ⟨_, rfl, rfl⟩ (by decide) dX6_fits_29 [.int a1, .int a2, .int 12, .int 0] rfl (fun v h2 q => c_X6_noTold Z l _ _ _ _ _ _ q) ⟨Nat.le_of_ble_eq_true rfl, Nat.le_of_ble_eq_true rfl⟩ (rest := []) (Nat.le_of_ble_eq_true rfl) rfl (pc' := 32) rfl (fun x29 h29 => ?_)
      refine S_istore dX6_fits_32 (by decide) (lo' := [(5, .int x29), (0, .ref (zb Z + t)), (1, .int a1), (2, .int a2), (3, .int a3), (4, .int a4)]) rfl (pc' := 34) rfl ?_
      refine S_iload dX6_fits_34 0 rfl (pc' := 36) rfl ?_
      refine S_if_eq dX6_fits_36 42 rfl (pc' := 39) rfl (fun g36 => ?_) (fun g36 => ?_)
      · refine S_iconst dX6_fits_42 (v := 0) rfl (pc' := 43) rfl ?_
        refine S_istore dX6_fits_43 (by decide) (lo' := [(6, .int 0), (5, .int x29), (0, .ref (zb Z + t)), (1, .int a1), (2, .int a2), (3, .int a3), (4, .int a4)]) rfl (pc' := 45) rfl ?_
        refine S_iconst dX6_fits_45 (v := 0) rfl (pc' := 46) rfl ?_
        refine S_istore dX6_fits_46 (by decide) (lo' := [(7, .int 0), (6, .int 0), (5, .int x29), (0, .ref (zb Z + t)), (1, .int a1), (2, .int a2), (3, .int a3), (4, .int a4)]) rfl (pc' := 48) rfl ?_
        refine Sim.sub [3, 4, 5, 6, 7, 1, 0] rfl ?_
        refine lq_X6_fits_48 Z l t a1 a2 a3 a4 _ ?_ 1000 _ _ _
        intro b6_48 h48_
        refine S_iload dX6_fits_154 0 rfl (pc' := 156) rfl ?_
        exact S_iret rfl dX6_fits_156
      · refine S_iload dX6_fits_39 0 rfl (pc' := 41) rfl ?_
        exact S_iret rfl dX6_fits_41
    · refine S_iconst dX6_fits_24 (v := 1) rfl (pc' := 25) rfl ?_
      refine S_goto dX6_fits_25 29 rfl ?_
      refine S_invi ml_X6_344 mi_X6_noTold (ci := 6) ⟨_, rfl, rfl⟩ (by decide) dX6_fits_29 [.int a1, .int a2, .int 12, .int 1] rfl (fun v h2 q => c_X6_noTold Z l _ _ _ _ _ _ q) ⟨Nat.le_of_ble_eq_true rfl, Nat.le_of_ble_eq_true rfl⟩ (rest := []) (Nat.le_of_ble_eq_true rfl) rfl (pc' := 32) rfl (fun x29 h29 => ?_)
      refine S_istore dX6_fits_32 (by decide) (lo' := [(5, .int x29), (0, .ref (zb Z + t)), (1, .int a1), (2, .int a2), (3, .int a3), (4, .int a4)]) rfl (pc' := 34) rfl ?_
      refine S_iload dX6_fits_34 0 rfl (pc' := 36) rfl ?_
      refine S_if_eq dX6_fits_36 42 rfl (pc' := 39) rfl (fun g36 => ?_) (fun g36 => ?_)
      · refine S_iconst dX6_fits_42 (v := 0) rfl (pc' := 43) rfl ?_
        refine S_istore dX6_fits_43 (by decide) (lo' := [(6, .int 0), (5, .int x29), (0, .ref (zb Z + t)), (1, .int a1), (2, .int a2), (3, .int a3), (4, .int a4)]) rfl (pc' := 45) rfl ?_
        refine S_iconst dX6_fits_45 (v := 0) rfl (pc' := 46) rfl ?_
        refine S_istore dX6_fits_46 (by decide) (lo' := [(7, .int 0), (6, .int 0), (5, .int x29), (0, .ref (zb Z + t)), (1, .int a1), (2, .int a2), (3, .int a3), (4, .int a4)]) rfl (pc' := 48) rfl ?_
        refine Sim.sub [3, 4, 5, 6, 7, 1, 0] rfl ?_
        refine lq_X6_fits_48 Z l t a1 a2 a3 a4 _ ?_ 1000 _ _ _
        intro b6_48 h48_
        refine S_iload dX6_fits_154 0 rfl (pc' := 156) rfl ?_
        exact S_iret rfl dX6_fits_156
      · refine S_iload dX6_fits_39 0 rfl (pc' := 41) rfl ?_
        exact S_iret rfl dX6_fits_41
theorem dX6_judge_0 : decode cX6_judge 0 = .ok (.aload_n 0, 1) := by decide +kernel
theorem dX6_judge_1 : decode cX6_judge 1 = .ok (.iload_n 1, 1) := by decide +kernel
theorem dX6_judge_2 : decode cX6_judge 2 = .ok (.iload_n 2, 1) := by decide +kernel
theorem dX6_judge_3 : decode cX6_judge 3 = .ok (.bipush 40, 2) := by decide +kernel
theorem dX6_judge_5 : decode cX6_judge 5 = .ok (.iconst 1, 1) := by decide +kernel
theorem dX6_judge_6 : decode cX6_judge 6 = .ok (.invokevirtual 344, 3) := by decide +kernel
theorem dX6_judge_9 : decode cX6_judge 9 = .ok (.istore_n 3, 1) := by decide +kernel
theorem dX6_judge_10 : decode cX6_judge 10 = .ok (.iload_n 3, 1) := by decide +kernel
theorem dX6_judge_11 : decode cX6_judge 11 = .ok (.ifCond .eq 5, 3) := by decide +kernel
theorem dX6_judge_14 : decode cX6_judge 14 = .ok (.iload_n 3, 1) := by decide +kernel
theorem dX6_judge_15 : decode cX6_judge 15 = .ok (.ireturn, 1) := by decide +kernel
theorem dX6_judge_16 : decode cX6_judge 16 = .ok (.aload_n 0, 1) := by decide +kernel
theorem dX6_judge_17 : decode cX6_judge 17 = .ok (.invokevirtual 306, 3) := by decide +kernel
theorem dX6_judge_20 : decode cX6_judge 20 = .ok (.astore 4, 2) := by decide +kernel
theorem dX6_judge_22 : decode cX6_judge 22 = .ok (.iconst 0, 1) := by decide +kernel
theorem dX6_judge_23 : decode cX6_judge 23 = .ok (.istore 5, 2) := by decide +kernel
theorem dX6_judge_25 : decode cX6_judge 25 = .ok (.iload 5, 2) := by decide +kernel
theorem dX6_judge_27 : decode cX6_judge 27 = .ok (.iload_n 2, 1) := by decide +kernel
theorem dX6_judge_28 : decode cX6_judge 28 = .ok (.if_icmp .ge 37, 3) := by decide +kernel
theorem dX6_judge_31 : decode cX6_judge 31 = .ok (.aload 4, 2) := by decide +kernel
theorem dX6_judge_33 : decode cX6_judge 33 = .ok (.invokevirtual 310, 3) := by decide +kernel
theorem dX6_judge_36 : decode cX6_judge 36 = .ok (.pop, 1) := by decide +kernel
theorem dX6_judge_37 : decode cX6_judge 37 = .ok (.aload 4, 2) := by decide +kernel
theorem dX6_judge_39 : decode cX6_judge 39 = .ok (.invokevirtual 298, 3) := by decide +kernel
theorem dX6_judge_42 : decode cX6_judge 42 = .ok (.i2l, 1) := by decide +kernel
theorem dX6_judge_43 : decode cX6_judge 43 = .ok (.aload_n 0, 1) := by decide +kernel
theorem dX6_judge_44 : decode cX6_judge 44 = .ok (.getfield 21, 3) := by decide +kernel
theorem dX6_judge_47 : decode cX6_judge 47 = .ok (.iload_n 1, 1) := by decide +kernel
theorem dX6_judge_48 : decode cX6_judge 48 = .ok (.aaload, 1) := by decide +kernel
theorem dX6_judge_49 : decode cX6_judge 49 = .ok (.iload 5, 2) := by decide +kernel
theorem dX6_judge_51 : decode cX6_judge 51 = .ok (.laload, 1) := by decide +kernel
theorem dX6_judge_52 : decode cX6_judge 52 = .ok (.lcmp, 1) := by decide +kernel
theorem dX6_judge_53 : decode cX6_judge 53 = .ok (.ifCond .eq 6, 3) := by decide +kernel
theorem dX6_judge_56 : decode cX6_judge 56 = .ok (.iload 5, 2) := by decide +kernel
theorem dX6_judge_58 : decode cX6_judge 58 = .ok (.ireturn, 1) := by decide +kernel
theorem dX6_judge_59 : decode cX6_judge 59 = .ok (.iinc 5 1, 3) := by decide +kernel
theorem dX6_judge_62 : decode cX6_judge 62 = .ok (.goto (-37), 3) := by decide +kernel
theorem dX6_judge_65 : decode cX6_judge 65 = .ok (.iconst (-1), 1) := by decide +kernel
theorem dX6_judge_66 : decode cX6_judge 66 = .ok (.ireturn, 1) := by decide +kernel
set_option maxRecDepth 100000 in
set_option maxHeartbeats 4000000 in
theorem lc_X6_judge_25 (Z : ZZ) (l : Launch) (a0 : Nat) (a1 : Int32) (a2 : Int32) (a4 : Nat) {args : Array Value} {h0 h1 : HP} {v0 : Int32} (K : HP → Option (Int32 × HP)) (F : Int32 → HP → Option (Int32 × HP))
    (hK : ∀ (h : HP), Sim Z l cX6_judge RX6 6 5 111 (some .int) "judge" args (Mq Z args h0 h1 (some (.int v0))) h0 h1 v0 65 [] [] h (K h))
    (hF : ∀ (b5 : Int32) (h : HP), Sim Z l cX6_judge RX6 6 5 111 (some .int) "judge" args (Mq Z args h0 h1 (some (.int v0))) h0 h1 v0 25 [(0, .ref (zb Z + a0)), (1, .int a1), (2, .int a2), (4, .ref (zb Z + a4)), (5, .int b5)] [] h (F b5 h)) :
    ∀ (b5 : Int32) (h : HP), Sim Z l cX6_judge RX6 6 5 111 (some .int) "judge" args (Mq Z args h0 h1 (some (.int v0))) h0 h1 v0 25 [(0, .ref (zb Z + a0)), (1, .int a1), (2, .int a2), (4, .ref (zb Z + a4)), (5, .int b5)] [] h (lb_X6_judge_25 a0 a1 a2 a4 K F b5 h) := by
  intro b5 h
  unfold lb_X6_judge_25
  refine S_iload dX6_judge_25 4 rfl (pc' := 27) rfl ?_
  refine S_iload_n dX6_judge_27 rfl 2 rfl (pc' := 28) rfl ?_
  refine S_icmp_ge dX6_judge_28 65 rfl (pc' := 31) rfl (fun g28 => ?_) (fun g28 => ?_)
  · refine Sim.sub [] rfl ?_
    exact hK _
  · refine S_aload dX6_judge_31 3 rfl (pc' := 33) rfl ?_
    refine S_invi ml_X6_310 mi_X6_passes (ci := 6) ⟨_, rfl, rfl⟩ (by decide) dX6_judge_33 [] rfl (fun v h2 q => c_X6_passes Z l _ _ q) ⟨Nat.le_of_ble_eq_true rfl, Nat.le_of_ble_eq_true rfl⟩ (rest := []) (Nat.le_of_ble_eq_true rfl) rfl (pc' := 36) rfl (fun x33 h33 => ?_)
    refine S_pop dX6_judge_36 rfl (pc' := 37) rfl ?_
    refine S_aload dX6_judge_37 3 rfl (pc' := 39) rfl ?_
    refine S_invi ml_X6_298 mi_X6_known (ci := 6) ⟨_, rfl, rfl⟩ (by decide) dX6_judge_39 [] rfl (fun v h2 q => c_X6_known Z l _ _ q) ⟨Nat.le_of_ble_eq_true rfl, Nat.le_of_ble_eq_true rfl⟩ (rest := []) (Nat.le_of_ble_eq_true rfl) rfl (pc' := 42) rfl (fun x39 h39 => ?_)
    refine S_i2l dX6_judge_42 (pc' := 43) rfl ?_
    refine S_aload_n dX6_judge_43 rfl 0 rfl (pc' := 44) rfl ?_
    refine S_getR fl_X6_21 rfl dX6_judge_44 (pc' := 47) rfl (fun x44 => ?_)
    refine S_iload_n dX6_judge_47 rfl 1 rfl (pc' := 48) rfl ?_
    refine S_aaloadQ dX6_judge_48 (pc' := 49) rfl (fun x48 => ?_)
    refine S_iload dX6_judge_49 4 rfl (pc' := 51) rfl ?_
    refine S_laload dX6_judge_51 (pc' := 52) rfl (fun x51 => ?_)
    refine S_lcmp dX6_judge_52 (pc' := 53) rfl ?_
    refine S_if_eq dX6_judge_53 59 rfl (pc' := 56) rfl (fun g53 => ?_) (fun g53 => ?_)
    · refine S_iinc dX6_judge_59 (q := 4) rfl (v := b5 + 1) rfl (by decide) (lo' := [(5, .int (b5 + 1)), (0, .ref (zb Z + a0)), (1, .int a1), (2, .int a2), (4, .ref (zb Z + a4))]) rfl (pc' := 62) rfl ?_
      refine S_goto dX6_judge_62 25 rfl ?_
      refine Sim.sub [1, 2, 3, 4, 0] rfl ?_
      exact hF _ _
    · refine S_iload dX6_judge_56 4 rfl (pc' := 58) rfl ?_
      exact S_iret rfl dX6_judge_58
theorem lq_X6_judge_25 (Z : ZZ) (l : Launch) (a0 : Nat) (a1 : Int32) (a2 : Int32) (a4 : Nat) {args : Array Value} {h0 h1 : HP} {v0 : Int32} (K : HP → Option (Int32 × HP))
    (hK : ∀ (h : HP), Sim Z l cX6_judge RX6 6 5 111 (some .int) "judge" args (Mq Z args h0 h1 (some (.int v0))) h0 h1 v0 65 [] [] h (K h)) :
    ∀ (k : Nat) (b5 : Int32) (h : HP), Sim Z l cX6_judge RX6 6 5 111 (some .int) "judge" args (Mq Z args h0 h1 (some (.int v0))) h0 h1 v0 25 [(0, .ref (zb Z + a0)), (1, .int a1), (2, .int a2), (4, .ref (zb Z + a4)), (5, .int b5)] [] h (lp_X6_judge_25 a0 a1 a2 a4 K k b5 h) := by
  intro k
  induction k with
  | zero => exact fun _ _ => Sim.none
  | succ k ih => exact lc_X6_judge_25 Z l a0 a1 a2 a4 K _ hK ih
set_option maxRecDepth 100000 in
set_option maxHeartbeats 4000000 in
theorem c_X6_judge (Z : ZZ) (l : Launch) (t : Nat) (a1 : Int32) (a2 : Int32) (h : HP) {v : Int32} {h1 : HP} (ho : f_X6_judge t a1 a2 h = some (v, h1)) : MetP Z l yX6_judge cX6_judge 6 (some .int) 5 111 [.ref (zb Z + t), .int a1, .int a2] h (some (.int v)) h1 := by
  refine MetP_of ho (by decide +kernel) (Nat.le_of_ble_eq_true rfl) [(0, .ref (zb Z + t)), (1, .int a1), (2, .int a2)] rfl (own := RX6) rfl (nm := "judge") rfl ?_
  unfold f_X6_judge
  refine S_aload_n dX6_judge_0 rfl 0 rfl (pc' := 1) rfl ?_
  refine S_iload_n dX6_judge_1 rfl 1 rfl (pc' := 2) rfl ?_
  refine S_iload_n dX6_judge_2 rfl 2 rfl (pc' := 3) rfl ?_
  refine S_bipush dX6_judge_3 (v := 40) rfl (pc' := 5) rfl ?_
  refine S_iconst dX6_judge_5 (v := 1) rfl (pc' := 6) rfl ?_
  refine S_invi ml_X6_344 mi_X6_noTold (ci := 6) ⟨_, rfl, rfl⟩ (by decide) dX6_judge_6 [.int a1, .int a2, .int 40, .int 1] rfl (fun v h2 q => c_X6_noTold Z l _ _ _ _ _ _ q) ⟨Nat.le_of_ble_eq_true rfl, Nat.le_of_ble_eq_true rfl⟩ (rest := []) (Nat.le_of_ble_eq_true rfl) rfl (pc' := 9) rfl (fun x6 h6 => ?_)
  refine S_istore_n dX6_judge_9 rfl (by decide) (lo' := [(3, .int x6), (0, .ref (zb Z + t)), (1, .int a1), (2, .int a2)]) rfl (pc' := 10) rfl ?_
  refine S_iload_n dX6_judge_10 rfl 0 rfl (pc' := 11) rfl ?_
  refine S_if_eq dX6_judge_11 16 rfl (pc' := 14) rfl (fun g11 => ?_) (fun g11 => ?_)
  · refine S_aload_n dX6_judge_16 rfl 1 rfl (pc' := 17) rfl ?_
    refine S_invr ml_X6_306 mi_X6_thought (ci := 6) ⟨_, rfl, rfl⟩ (by decide) dX6_judge_17 [] rfl (fun v h2 q => c_X6_thought Z l _ _ q) ⟨Nat.le_of_ble_eq_true rfl, Nat.le_of_ble_eq_true rfl⟩ (rest := []) (Nat.le_of_ble_eq_true rfl) rfl (pc' := 20) rfl (fun x17 h17 => ?_)
    refine S_astore dX6_judge_20 (by decide) (lo' := [(4, .ref (zb Z + x17)), (3, .int x6), (0, .ref (zb Z + t)), (1, .int a1), (2, .int a2)]) rfl (pc' := 22) rfl ?_
    refine S_iconst dX6_judge_22 (v := 0) rfl (pc' := 23) rfl ?_
    refine S_istore dX6_judge_23 (by decide) (lo' := [(5, .int 0), (4, .ref (zb Z + x17)), (3, .int x6), (0, .ref (zb Z + t)), (1, .int a1), (2, .int a2)]) rfl (pc' := 25) rfl ?_
    refine Sim.sub [3, 4, 5, 1, 0] rfl ?_
    refine lq_X6_judge_25 Z l t a1 a2 x17 _ ?_ 1000 _ _
    intro h25_
    refine S_iconst dX6_judge_65 (v := (-1)) rfl (pc' := 66) rfl ?_
    exact S_iret rfl dX6_judge_66
  · refine S_iload_n dX6_judge_14 rfl 0 rfl (pc' := 15) rfl ?_
    exact S_iret rfl dX6_judge_15
theorem dX6_pass_0 : decode cX6_pass 0 = .ok (.aload_n 0, 1) := by decide +kernel
theorem dX6_pass_1 : decode cX6_pass 1 = .ok (.invokevirtual 310, 3) := by decide +kernel
theorem dX6_pass_4 : decode cX6_pass 4 = .ok (.pop, 1) := by decide +kernel
theorem dX6_pass_5 : decode cX6_pass 5 = .ok (.aload_n 0, 1) := by decide +kernel
theorem dX6_pass_6 : decode cX6_pass 6 = .ok (.getfield 161, 3) := by decide +kernel
theorem dX6_pass_9 : decode cX6_pass 9 = .ok (.ireturn, 1) := by decide +kernel
set_option maxRecDepth 100000 in
set_option maxHeartbeats 4000000 in
theorem c_X6_pass (Z : ZZ) (l : Launch) (t : Nat) (h : HP) {v : Int32} {h1 : HP} (ho : f_X6_pass t h = some (v, h1)) : MetP Z l yX6_pass cX6_pass 1 (some .int) 5 111 [.ref (zb Z + t)] h (some (.int v)) h1 := by
  refine MetP_of ho (by decide +kernel) (Nat.le_of_ble_eq_true rfl) [(0, .ref (zb Z + t))] rfl (own := RX6) rfl (nm := "pass") rfl ?_
  unfold f_X6_pass
  refine S_aload_n dX6_pass_0 rfl 0 rfl (pc' := 1) rfl ?_
  refine S_invi ml_X6_310 mi_X6_passes (ci := 6) ⟨_, rfl, rfl⟩ (by decide) dX6_pass_1 [] rfl (fun v h2 q => c_X6_passes Z l _ _ q) ⟨Nat.le_of_ble_eq_true rfl, Nat.le_of_ble_eq_true rfl⟩ (rest := []) (Nat.le_of_ble_eq_true rfl) rfl (pc' := 4) rfl (fun x1 h1 => ?_)
  refine S_pop dX6_pass_4 rfl (pc' := 5) rfl ?_
  refine S_aload_n dX6_pass_5 rfl 0 rfl (pc' := 6) rfl ?_
  refine S_getI fl_X6_161 rfl dX6_pass_6 (pc' := 9) rfl (fun x6 => ?_)
  exact S_iret rfl dX6_pass_9
theorem dX6_taught_0 : decode cX6_taught 0 = .ok (.aload_n 0, 1) := by decide +kernel
theorem dX6_taught_1 : decode cX6_taught 1 = .ok (.iload_n 1, 1) := by decide +kernel
theorem dX6_taught_2 : decode cX6_taught 2 = .ok (.invokevirtual 119, 3) := by decide +kernel
theorem dX6_taught_5 : decode cX6_taught 5 = .ok (.ifCond .eq 11, 3) := by decide +kernel
theorem dX6_taught_8 : decode cX6_taught 8 = .ok (.aload_n 0, 1) := by decide +kernel
theorem dX6_taught_9 : decode cX6_taught 9 = .ok (.iload_n 2, 1) := by decide +kernel
theorem dX6_taught_10 : decode cX6_taught 10 = .ok (.invokevirtual 148, 3) := by decide +kernel
theorem dX6_taught_13 : decode cX6_taught 13 = .ok (.ifCond .ne 10, 3) := by decide +kernel
theorem dX6_taught_16 : decode cX6_taught 16 = .ok (.aload_n 0, 1) := by decide +kernel
theorem dX6_taught_17 : decode cX6_taught 17 = .ok (.bipush (-2), 2) := by decide +kernel
theorem dX6_taught_19 : decode cX6_taught 19 = .ok (.invokevirtual 108, 3) := by decide +kernel
theorem dX6_taught_22 : decode cX6_taught 22 = .ok (.ireturn, 1) := by decide +kernel
theorem dX6_taught_23 : decode cX6_taught 23 = .ok (.aload_n 0, 1) := by decide +kernel
theorem dX6_taught_24 : decode cX6_taught 24 = .ok (.getfield 62, 3) := by decide +kernel
theorem dX6_taught_27 : decode cX6_taught 27 = .ok (.iload_n 2, 1) := by decide +kernel
theorem dX6_taught_28 : decode cX6_taught 28 = .ok (.iaload, 1) := by decide +kernel
theorem dX6_taught_29 : decode cX6_taught 29 = .ok (.iconst 1, 1) := by decide +kernel
theorem dX6_taught_30 : decode cX6_taught 30 = .ok (.if_icmp .eq 12, 3) := by decide +kernel
theorem dX6_taught_33 : decode cX6_taught 33 = .ok (.aload_n 0, 1) := by decide +kernel
theorem dX6_taught_34 : decode cX6_taught 34 = .ok (.iload_n 1, 1) := by decide +kernel
theorem dX6_taught_35 : decode cX6_taught 35 = .ok (.iload_n 2, 1) := by decide +kernel
theorem dX6_taught_36 : decode cX6_taught 36 = .ok (.invokevirtual 267, 3) := by decide +kernel
theorem dX6_taught_39 : decode cX6_taught 39 = .ok (.ifCond .eq 10, 3) := by decide +kernel
theorem dX6_taught_42 : decode cX6_taught 42 = .ok (.aload_n 0, 1) := by decide +kernel
theorem dX6_taught_43 : decode cX6_taught 43 = .ok (.bipush (-5), 2) := by decide +kernel
theorem dX6_taught_45 : decode cX6_taught 45 = .ok (.invokevirtual 108, 3) := by decide +kernel
theorem dX6_taught_48 : decode cX6_taught 48 = .ok (.ireturn, 1) := by decide +kernel
theorem dX6_taught_49 : decode cX6_taught 49 = .ok (.aload_n 0, 1) := by decide +kernel
theorem dX6_taught_50 : decode cX6_taught 50 = .ok (.getfield 68, 3) := by decide +kernel
theorem dX6_taught_53 : decode cX6_taught 53 = .ok (.iload_n 1, 1) := by decide +kernel
theorem dX6_taught_54 : decode cX6_taught 54 = .ok (.bipush 6, 2) := by decide +kernel
theorem dX6_taught_56 : decode cX6_taught 56 = .ok (.imul, 1) := by decide +kernel
theorem dX6_taught_57 : decode cX6_taught 57 = .ok (.iload_n 2, 1) := by decide +kernel
theorem dX6_taught_58 : decode cX6_taught 58 = .ok (.iadd, 1) := by decide +kernel
theorem dX6_taught_59 : decode cX6_taught 59 = .ok (.iconst 0, 1) := by decide +kernel
theorem dX6_taught_60 : decode cX6_taught 60 = .ok (.iastore, 1) := by decide +kernel
theorem dX6_taught_61 : decode cX6_taught 61 = .ok (.aload_n 0, 1) := by decide +kernel
theorem dX6_taught_62 : decode cX6_taught 62 = .ok (.iload_n 2, 1) := by decide +kernel
theorem dX6_taught_63 : decode cX6_taught 63 = .ok (.invokevirtual 285, 3) := by decide +kernel
theorem dX6_taught_66 : decode cX6_taught 66 = .ok (.invokestatic 301, 3) := by decide +kernel
theorem dX6_taught_69 : decode cX6_taught 69 = .ok (.ireturn, 1) := by decide +kernel
set_option maxRecDepth 100000 in
set_option maxHeartbeats 4000000 in
theorem c_X6_taught (Z : ZZ) (l : Launch) (t : Nat) (a1 : Int32) (a2 : Int32) (h : HP) {v : Int32} {h1 : HP} (ho : f_X6_taught t a1 a2 h = some (v, h1)) : MetP Z l yX6_taught cX6_taught 3 (some .int) 2 46 [.ref (zb Z + t), .int a1, .int a2] h (some (.int v)) h1 := by
  refine MetP_of ho (by decide +kernel) (Nat.le_of_ble_eq_true rfl) [(0, .ref (zb Z + t)), (1, .int a1), (2, .int a2)] rfl (own := RX6) rfl (nm := "taught") rfl ?_
  unfold f_X6_taught
  refine S_aload_n dX6_taught_0 rfl 0 rfl (pc' := 1) rfl ?_
  refine S_iload_n dX6_taught_1 rfl 1 rfl (pc' := 2) rfl ?_
  refine S_invi ml_X6_119 mi_X6_isPerson (ci := 6) ⟨_, rfl, rfl⟩ (by decide) dX6_taught_2 [.int a1] rfl (fun v h2 q => c_X6_isPerson Z l _ _ _ q) ⟨Nat.le_of_ble_eq_true rfl, Nat.le_of_ble_eq_true rfl⟩ (rest := []) (Nat.le_of_ble_eq_true rfl) rfl (pc' := 5) rfl (fun x2 h2 => ?_)
  refine S_if_eq dX6_taught_5 16 rfl (pc' := 8) rfl (fun g5 => ?_) (fun g5 => ?_)
  · refine S_aload_n dX6_taught_16 rfl 0 rfl (pc' := 17) rfl ?_
    refine S_bipush dX6_taught_17 (v := (-2)) rfl (pc' := 19) rfl ?_
    refine S_invi ml_X6_108 mi_X6_refuse (ci := 6) ⟨_, rfl, rfl⟩ (by decide) dX6_taught_19 [.int (-2)] rfl (fun v h2 q => c_X6_refuse Z l _ _ _ q) ⟨Nat.le_of_ble_eq_true rfl, Nat.le_of_ble_eq_true rfl⟩ (rest := []) (Nat.le_of_ble_eq_true rfl) rfl (pc' := 22) rfl (fun x19 h19 => ?_)
    exact S_iret rfl dX6_taught_22
  · refine S_aload_n dX6_taught_8 rfl 0 rfl (pc' := 9) rfl ?_
    refine S_iload_n dX6_taught_9 rfl 2 rfl (pc' := 10) rfl ?_
    refine S_invi ml_X6_148 mi_X6_isSong (ci := 6) ⟨_, rfl, rfl⟩ (by decide) dX6_taught_10 [.int a2] rfl (fun v h2 q => c_X6_isSong Z l _ _ _ q) ⟨Nat.le_of_ble_eq_true rfl, Nat.le_of_ble_eq_true rfl⟩ (rest := []) (Nat.le_of_ble_eq_true rfl) rfl (pc' := 13) rfl (fun x10 h10 => ?_)
    refine S_if_ne dX6_taught_13 23 rfl (pc' := 16) rfl (fun g13 => ?_) (fun g13 => ?_)
    · refine S_aload_n dX6_taught_23 rfl 0 rfl (pc' := 24) rfl ?_
      refine S_getR fl_X6_62 rfl dX6_taught_24 (pc' := 27) rfl (fun x24 => ?_)
      refine S_iload_n dX6_taught_27 rfl 2 rfl (pc' := 28) rfl ?_
      refine S_iaload dX6_taught_28 (pc' := 29) rfl (fun x28 => ?_)
      refine S_iconst dX6_taught_29 (v := 1) rfl (pc' := 30) rfl ?_
      refine S_icmp_eq dX6_taught_30 42 rfl (pc' := 33) rfl (fun g30 => ?_) (fun g30 => ?_)
      · refine S_aload_n dX6_taught_42 rfl 0 rfl (pc' := 43) rfl ?_
        refine S_bipush dX6_taught_43 (v := (-5)) rfl (pc' := 45) rfl ?_
        refine S_invi ml_X6_108 mi_X6_refuse (ci := 6) ⟨_, rfl, rfl⟩ (by decide) dX6_taught_45 [.int (-5)] rfl (fun v h2 q => c_X6_refuse Z l _ _ _ q) ⟨Nat.le_of_ble_eq_true rfl, Nat.le_of_ble_eq_true rfl⟩ (rest := []) (Nat.le_of_ble_eq_true rfl) rfl (pc' := 48) rfl (fun x45 h45 => ?_)
        exact S_iret rfl dX6_taught_48
      · refine S_aload_n dX6_taught_33 rfl 0 rfl (pc' := 34) rfl ?_
        refine S_iload_n dX6_taught_34 rfl 1 rfl (pc' := 35) rfl ?_
        refine S_iload_n dX6_taught_35 rfl 2 rfl (pc' := 36) rfl ?_
        refine S_invi ml_X6_267 mi_X6_knowsIt (ci := 6) ⟨_, rfl, rfl⟩ (by decide) dX6_taught_36 [.int a1, .int a2] rfl (fun v h2 q => c_X6_knowsIt Z l _ _ _ _ q) ⟨Nat.le_of_ble_eq_true rfl, Nat.le_of_ble_eq_true rfl⟩ (rest := []) (Nat.le_of_ble_eq_true rfl) rfl (pc' := 39) rfl (fun x36 h36 => ?_)
        refine S_if_eq dX6_taught_39 49 rfl (pc' := 42) rfl (fun g39 => ?_) (fun g39 => ?_)
        · refine S_aload_n dX6_taught_49 rfl 0 rfl (pc' := 50) rfl ?_
          refine S_getR fl_X6_68 rfl dX6_taught_50 (pc' := 53) rfl (fun x50 => ?_)
          refine S_iload_n dX6_taught_53 rfl 1 rfl (pc' := 54) rfl ?_
          refine S_bipush dX6_taught_54 (v := 6) rfl (pc' := 56) rfl ?_
          refine S_imul dX6_taught_56 (pc' := 57) rfl ?_
          refine S_iload_n dX6_taught_57 rfl 2 rfl (pc' := 58) rfl ?_
          refine S_iadd dX6_taught_58 (pc' := 59) rfl ?_
          refine S_iconst dX6_taught_59 (v := 0) rfl (pc' := 60) rfl ?_
          refine S_iastore dX6_taught_60 (pc' := 61) rfl (fun h60 => ?_)
          refine S_aload_n dX6_taught_61 rfl 0 rfl (pc' := 62) rfl ?_
          refine S_iload_n dX6_taught_62 rfl 2 rfl (pc' := 63) rfl ?_
          refine S_invi ml_X6_285 mi_X6_holdersOf (ci := 6) ⟨_, rfl, rfl⟩ (by decide) dX6_taught_63 [.int a2] rfl (fun v h2 q => c_X6_holdersOf Z l _ _ _ q) ⟨Nat.le_of_ble_eq_true rfl, Nat.le_of_ble_eq_true rfl⟩ (rest := []) (Nat.le_of_ble_eq_true rfl) rfl (pc' := 66) rfl (fun x63 h63 => ?_)
          refine S_stai ml_X6_301 ms_X6_bits dX6_taught_66 [.int x63] rfl (fun v h2 q => c_X6_bits Z l _ _ q) ⟨Nat.le_of_ble_eq_true rfl, Nat.le_of_ble_eq_true rfl⟩ (rest := []) (Nat.le_of_ble_eq_true rfl) rfl (pc' := 69) rfl (fun x66 h66 => ?_)
          exact S_iret rfl dX6_taught_69
        · refine S_aload_n dX6_taught_42 rfl 0 rfl (pc' := 43) rfl ?_
          refine S_bipush dX6_taught_43 (v := (-5)) rfl (pc' := 45) rfl ?_
          refine S_invi ml_X6_108 mi_X6_refuse (ci := 6) ⟨_, rfl, rfl⟩ (by decide) dX6_taught_45 [.int (-5)] rfl (fun v h2 q => c_X6_refuse Z l _ _ _ q) ⟨Nat.le_of_ble_eq_true rfl, Nat.le_of_ble_eq_true rfl⟩ (rest := []) (Nat.le_of_ble_eq_true rfl) rfl (pc' := 48) rfl (fun x45 h45 => ?_)
          exact S_iret rfl dX6_taught_48
    · refine S_aload_n dX6_taught_16 rfl 0 rfl (pc' := 17) rfl ?_
      refine S_bipush dX6_taught_17 (v := (-2)) rfl (pc' := 19) rfl ?_
      refine S_invi ml_X6_108 mi_X6_refuse (ci := 6) ⟨_, rfl, rfl⟩ (by decide) dX6_taught_19 [.int (-2)] rfl (fun v h2 q => c_X6_refuse Z l _ _ _ q) ⟨Nat.le_of_ble_eq_true rfl, Nat.le_of_ble_eq_true rfl⟩ (rest := []) (Nat.le_of_ble_eq_true rfl) rfl (pc' := 22) rfl (fun x19 h19 => ?_)
      exact S_iret rfl dX6_taught_22
theorem dX6_below_0 : decode cX6_below 0 = .ok (.aload_n 0, 1) := by decide +kernel
theorem dX6_below_1 : decode cX6_below 1 = .ok (.aload_n 0, 1) := by decide +kernel
theorem dX6_below_2 : decode cX6_below 2 = .ok (.getfield 71, 3) := by decide +kernel
theorem dX6_below_5 : decode cX6_below 5 = .ok (.ldc_w 352, 3) := by decide +kernel
theorem dX6_below_8 : decode cX6_below 8 = .ok (.imul, 1) := by decide +kernel
theorem dX6_below_9 : decode cX6_below 9 = .ok (.sipush 12345, 3) := by decide +kernel
theorem dX6_below_12 : decode cX6_below 12 = .ok (.iadd, 1) := by decide +kernel
theorem dX6_below_13 : decode cX6_below 13 = .ok (.putfield 71, 3) := by decide +kernel
theorem dX6_below_16 : decode cX6_below 16 = .ok (.aload_n 0, 1) := by decide +kernel
theorem dX6_below_17 : decode cX6_below 17 = .ok (.getfield 71, 3) := by decide +kernel
theorem dX6_below_20 : decode cX6_below 20 = .ok (.bipush 16, 2) := by decide +kernel
theorem dX6_below_22 : decode cX6_below 22 = .ok (.iushr, 1) := by decide +kernel
theorem dX6_below_23 : decode cX6_below 23 = .ok (.iload_n 1, 1) := by decide +kernel
theorem dX6_below_24 : decode cX6_below 24 = .ok (.irem, 1) := by decide +kernel
theorem dX6_below_25 : decode cX6_below 25 = .ok (.ireturn, 1) := by decide +kernel
set_option maxRecDepth 100000 in
set_option maxHeartbeats 4000000 in
theorem c_X6_below (Z : ZZ) (l : Launch) (t : Nat) (a1 : Int32) (h : HP) {v : Int32} {h1 : HP} (ho : f_X6_below t a1 h = some (v, h1)) : MetP Z l yX6_below cX6_below 2 (some .int) 0 0 [.ref (zb Z + t), .int a1] h (some (.int v)) h1 := by
  refine MetP_of ho (by decide +kernel) (Nat.le_of_ble_eq_true rfl) [(0, .ref (zb Z + t)), (1, .int a1)] rfl (own := RX6) rfl (nm := "below") rfl ?_
  unfold f_X6_below
  refine S_aload_n dX6_below_0 rfl 0 rfl (pc' := 1) rfl ?_
  refine S_aload_n dX6_below_1 rfl 0 rfl (pc' := 2) rfl ?_
  refine S_getI fl_X6_71 rfl dX6_below_2 (pc' := 5) rfl (fun x2 => ?_)
  refine S_ldcw dX6_below_5 kc_X6_352 (pc' := 8) rfl ?_
  refine S_imul dX6_below_8 (pc' := 9) rfl ?_
  refine S_sipush dX6_below_9 (v := 12345) rfl (pc' := 12) rfl ?_
  refine S_iadd dX6_below_12 (pc' := 13) rfl ?_
  refine S_putI fl_X6_71 (by decide) rfl dX6_below_13 (pc' := 16) rfl (fun h13 => ?_)
  refine S_aload_n dX6_below_16 rfl 0 rfl (pc' := 17) rfl ?_
  refine S_getI fl_X6_71 rfl dX6_below_17 (pc' := 20) rfl (fun x17 => ?_)
  refine S_bipush dX6_below_20 (v := 16) rfl (pc' := 22) rfl ?_
  refine S_iushr dX6_below_22 (pc' := 23) rfl ?_
  refine S_iload_n dX6_below_23 rfl 1 rfl (pc' := 24) rfl ?_
  refine S_irem dX6_below_24 (pc' := 25) rfl ?_
  exact S_iret rfl dX6_below_25
theorem dX6_drawn_0 : decode cX6_drawn 0 = .ok (.iload_n 1, 1) := by decide +kernel
theorem dX6_drawn_1 : decode cX6_drawn 1 = .ok (.i2l, 1) := by decide +kernel
theorem dX6_drawn_2 : decode cX6_drawn 2 = .ok (.lconst 1, 1) := by decide +kernel
theorem dX6_drawn_3 : decode cX6_drawn 3 = .ok (.ldc2_w 304, 3) := by decide +kernel
theorem dX6_drawn_6 : decode cX6_drawn 6 = .ok (.invokestatic 95, 3) := by decide +kernel
theorem dX6_drawn_9 : decode cX6_drawn 9 = .ok (.ifCond .ne 10, 3) := by decide +kernel
theorem dX6_drawn_12 : decode cX6_drawn 12 = .ok (.aload_n 0, 1) := by decide +kernel
theorem dX6_drawn_13 : decode cX6_drawn 13 = .ok (.bipush (-2), 2) := by decide +kernel
theorem dX6_drawn_15 : decode cX6_drawn 15 = .ok (.invokevirtual 108, 3) := by decide +kernel
theorem dX6_drawn_18 : decode cX6_drawn 18 = .ok (.ireturn, 1) := by decide +kernel
theorem dX6_drawn_19 : decode cX6_drawn 19 = .ok (.aload_n 0, 1) := by decide +kernel
theorem dX6_drawn_20 : decode cX6_drawn 20 = .ok (.getfield 92, 3) := by decide +kernel
theorem dX6_drawn_23 : decode cX6_drawn 23 = .ok (.ifCond .ne 10, 3) := by decide +kernel
theorem dX6_drawn_26 : decode cX6_drawn 26 = .ok (.aload_n 0, 1) := by decide +kernel
theorem dX6_drawn_27 : decode cX6_drawn 27 = .ok (.bipush (-5), 2) := by decide +kernel
theorem dX6_drawn_29 : decode cX6_drawn 29 = .ok (.invokevirtual 108, 3) := by decide +kernel
theorem dX6_drawn_32 : decode cX6_drawn 32 = .ok (.ireturn, 1) := by decide +kernel
theorem dX6_drawn_33 : decode cX6_drawn 33 = .ok (.iconst 0, 1) := by decide +kernel
theorem dX6_drawn_34 : decode cX6_drawn 34 = .ok (.istore_n 2, 1) := by decide +kernel
theorem dX6_drawn_35 : decode cX6_drawn 35 = .ok (.iconst 0, 1) := by decide +kernel
theorem dX6_drawn_36 : decode cX6_drawn 36 = .ok (.istore_n 3, 1) := by decide +kernel
theorem dX6_drawn_37 : decode cX6_drawn 37 = .ok (.iload_n 3, 1) := by decide +kernel
theorem dX6_drawn_38 : decode cX6_drawn 38 = .ok (.iload_n 1, 1) := by decide +kernel
theorem dX6_drawn_39 : decode cX6_drawn 39 = .ok (.if_icmp .ge 49, 3) := by decide +kernel
theorem dX6_drawn_42 : decode cX6_drawn 42 = .ok (.aload_n 0, 1) := by decide +kernel
theorem dX6_drawn_43 : decode cX6_drawn 43 = .ok (.aload_n 0, 1) := by decide +kernel
theorem dX6_drawn_44 : decode cX6_drawn 44 = .ok (.bipush 10, 2) := by decide +kernel
theorem dX6_drawn_46 : decode cX6_drawn 46 = .ok (.invokevirtual 353, 3) := by decide +kernel
theorem dX6_drawn_49 : decode cX6_drawn 49 = .ok (.putfield 37, 3) := by decide +kernel
theorem dX6_drawn_52 : decode cX6_drawn 52 = .ok (.aload_n 0, 1) := by decide +kernel
theorem dX6_drawn_53 : decode cX6_drawn 53 = .ok (.aload_n 0, 1) := by decide +kernel
theorem dX6_drawn_54 : decode cX6_drawn 54 = .ok (.getfield 92, 3) := by decide +kernel
theorem dX6_drawn_57 : decode cX6_drawn 57 = .ok (.invokevirtual 353, 3) := by decide +kernel
theorem dX6_drawn_60 : decode cX6_drawn 60 = .ok (.istore 4, 2) := by decide +kernel
theorem dX6_drawn_62 : decode cX6_drawn 62 = .ok (.aload_n 0, 1) := by decide +kernel
theorem dX6_drawn_63 : decode cX6_drawn 63 = .ok (.getfield 50, 3) := by decide +kernel
theorem dX6_drawn_66 : decode cX6_drawn 66 = .ok (.iload 4, 2) := by decide +kernel
theorem dX6_drawn_68 : decode cX6_drawn 68 = .ok (.aload_n 0, 1) := by decide +kernel
theorem dX6_drawn_69 : decode cX6_drawn 69 = .ok (.bipush 10, 2) := by decide +kernel
theorem dX6_drawn_71 : decode cX6_drawn 71 = .ok (.invokevirtual 353, 3) := by decide +kernel
theorem dX6_drawn_74 : decode cX6_drawn 74 = .ok (.iastore, 1) := by decide +kernel
theorem dX6_drawn_75 : decode cX6_drawn 75 = .ok (.iload_n 2, 1) := by decide +kernel
theorem dX6_drawn_76 : decode cX6_drawn 76 = .ok (.aload_n 0, 1) := by decide +kernel
theorem dX6_drawn_77 : decode cX6_drawn 77 = .ok (.invokevirtual 310, 3) := by decide +kernel
theorem dX6_drawn_80 : decode cX6_drawn 80 = .ok (.iadd, 1) := by decide +kernel
theorem dX6_drawn_81 : decode cX6_drawn 81 = .ok (.istore_n 2, 1) := by decide +kernel
theorem dX6_drawn_82 : decode cX6_drawn 82 = .ok (.iinc 3 1, 3) := by decide +kernel
theorem dX6_drawn_85 : decode cX6_drawn 85 = .ok (.goto (-48), 3) := by decide +kernel
theorem dX6_drawn_88 : decode cX6_drawn 88 = .ok (.iload_n 2, 1) := by decide +kernel
theorem dX6_drawn_89 : decode cX6_drawn 89 = .ok (.ireturn, 1) := by decide +kernel
set_option maxRecDepth 100000 in
set_option maxHeartbeats 4000000 in
theorem lc_X6_drawn_37 (Z : ZZ) (l : Launch) (a0 : Nat) (a1 : Int32) {args : Array Value} {h0 h1 : HP} {v0 : Int32} (K : Int32 → HP → Option (Int32 × HP)) (F : Int32 → Int32 → HP → Option (Int32 × HP))
    (hK : ∀ (b2 : Int32) (h : HP), Sim Z l cX6_drawn RX6 5 5 111 (some .int) "drawn" args (Mq Z args h0 h1 (some (.int v0))) h0 h1 v0 88 [(2, .int b2)] [] h (K b2 h))
    (hF : ∀ (b2 : Int32) (b3 : Int32) (h : HP), Sim Z l cX6_drawn RX6 5 5 111 (some .int) "drawn" args (Mq Z args h0 h1 (some (.int v0))) h0 h1 v0 37 [(0, .ref (zb Z + a0)), (1, .int a1), (2, .int b2), (3, .int b3)] [] h (F b2 b3 h)) :
    ∀ (b2 : Int32) (b3 : Int32) (h : HP), Sim Z l cX6_drawn RX6 5 5 111 (some .int) "drawn" args (Mq Z args h0 h1 (some (.int v0))) h0 h1 v0 37 [(0, .ref (zb Z + a0)), (1, .int a1), (2, .int b2), (3, .int b3)] [] h (lb_X6_drawn_37 a0 a1 K F b2 b3 h) := by
  intro b2 b3 h
  unfold lb_X6_drawn_37
  refine S_iload_n dX6_drawn_37 rfl 3 rfl (pc' := 38) rfl ?_
  refine S_iload_n dX6_drawn_38 rfl 1 rfl (pc' := 39) rfl ?_
  refine S_icmp_ge dX6_drawn_39 88 rfl (pc' := 42) rfl (fun g39 => ?_) (fun g39 => ?_)
  · refine Sim.sub [2] rfl ?_
    exact hK _ _
  · refine S_aload_n dX6_drawn_42 rfl 0 rfl (pc' := 43) rfl ?_
    refine S_aload_n dX6_drawn_43 rfl 0 rfl (pc' := 44) rfl ?_
    refine S_bipush dX6_drawn_44 (v := 10) rfl (pc' := 46) rfl ?_
    refine S_invi ml_X6_353 mi_X6_below (ci := 6) ⟨_, rfl, rfl⟩ (by decide) dX6_drawn_46 [.int 10] rfl (fun v h2 q => c_X6_below Z l _ _ _ q) ⟨Nat.le_of_ble_eq_true rfl, Nat.le_of_ble_eq_true rfl⟩ (rest := [.ref (zb Z + a0)]) (Nat.le_of_ble_eq_true rfl) rfl (pc' := 49) rfl (fun x46 h46 => ?_)
    refine S_putI fl_X6_37 (by decide) rfl dX6_drawn_49 (pc' := 52) rfl (fun h49 => ?_)
    refine S_aload_n dX6_drawn_52 rfl 0 rfl (pc' := 53) rfl ?_
    refine S_aload_n dX6_drawn_53 rfl 0 rfl (pc' := 54) rfl ?_
    refine S_getI fl_X6_92 rfl dX6_drawn_54 (pc' := 57) rfl (fun x54 => ?_)
    refine S_invi ml_X6_353 mi_X6_below (ci := 6) ⟨_, rfl, rfl⟩ (by decide) dX6_drawn_57 [.int x54] rfl (fun v h2 q => c_X6_below Z l _ _ _ q) ⟨Nat.le_of_ble_eq_true rfl, Nat.le_of_ble_eq_true rfl⟩ (rest := []) (Nat.le_of_ble_eq_true rfl) rfl (pc' := 60) rfl (fun x57 h57 => ?_)
    refine S_istore dX6_drawn_60 (by decide) (lo' := [(4, .int x57), (0, .ref (zb Z + a0)), (1, .int a1), (2, .int b2), (3, .int b3)]) rfl (pc' := 62) rfl ?_
    refine S_aload_n dX6_drawn_62 rfl 1 rfl (pc' := 63) rfl ?_
    refine S_getR fl_X6_50 rfl dX6_drawn_63 (pc' := 66) rfl (fun x63 => ?_)
    refine S_iload dX6_drawn_66 0 rfl (pc' := 68) rfl ?_
    refine S_aload_n dX6_drawn_68 rfl 1 rfl (pc' := 69) rfl ?_
    refine S_bipush dX6_drawn_69 (v := 10) rfl (pc' := 71) rfl ?_
    refine S_invi ml_X6_353 mi_X6_below (ci := 6) ⟨_, rfl, rfl⟩ (by decide) dX6_drawn_71 [.int 10] rfl (fun v h2 q => c_X6_below Z l _ _ _ q) ⟨Nat.le_of_ble_eq_true rfl, Nat.le_of_ble_eq_true rfl⟩ (rest := [.int x57, .ref (zb Z + x63)]) (Nat.le_of_ble_eq_true rfl) rfl (pc' := 74) rfl (fun x71 h71 => ?_)
    refine S_iastore dX6_drawn_74 (pc' := 75) rfl (fun h74 => ?_)
    refine S_iload_n dX6_drawn_75 rfl 3 rfl (pc' := 76) rfl ?_
    refine S_aload_n dX6_drawn_76 rfl 1 rfl (pc' := 77) rfl ?_
    refine S_invi ml_X6_310 mi_X6_passes (ci := 6) ⟨_, rfl, rfl⟩ (by decide) dX6_drawn_77 [] rfl (fun v h2 q => c_X6_passes Z l _ _ q) ⟨Nat.le_of_ble_eq_true rfl, Nat.le_of_ble_eq_true rfl⟩ (rest := [.int b2]) (Nat.le_of_ble_eq_true rfl) rfl (pc' := 80) rfl (fun x77 h77 => ?_)
    refine S_iadd dX6_drawn_80 (pc' := 81) rfl ?_
    refine S_istore_n dX6_drawn_81 rfl (by decide) (lo' := [(2, .int (b2 + x77)), (4, .int x57), (0, .ref (zb Z + a0)), (1, .int a1), (3, .int b3)]) rfl (pc' := 82) rfl ?_
    refine S_iinc dX6_drawn_82 (q := 4) rfl (v := b3 + 1) rfl (by decide) (lo' := [(3, .int (b3 + 1)), (2, .int (b2 + x77)), (4, .int x57), (0, .ref (zb Z + a0)), (1, .int a1)]) rfl (pc' := 85) rfl ?_
    refine S_goto dX6_drawn_85 37 rfl ?_
    refine Sim.sub [3, 4, 1, 0] rfl ?_
    exact hF _ _ _
theorem lq_X6_drawn_37 (Z : ZZ) (l : Launch) (a0 : Nat) (a1 : Int32) {args : Array Value} {h0 h1 : HP} {v0 : Int32} (K : Int32 → HP → Option (Int32 × HP))
    (hK : ∀ (b2 : Int32) (h : HP), Sim Z l cX6_drawn RX6 5 5 111 (some .int) "drawn" args (Mq Z args h0 h1 (some (.int v0))) h0 h1 v0 88 [(2, .int b2)] [] h (K b2 h)) :
    ∀ (k : Nat) (b2 : Int32) (b3 : Int32) (h : HP), Sim Z l cX6_drawn RX6 5 5 111 (some .int) "drawn" args (Mq Z args h0 h1 (some (.int v0))) h0 h1 v0 37 [(0, .ref (zb Z + a0)), (1, .int a1), (2, .int b2), (3, .int b3)] [] h (lp_X6_drawn_37 a0 a1 K k b2 b3 h) := by
  intro k
  induction k with
  | zero => exact fun _ _ _ => Sim.none
  | succ k ih => exact lc_X6_drawn_37 Z l a0 a1 K _ hK ih
set_option maxRecDepth 100000 in
set_option maxHeartbeats 4000000 in
theorem c_X6_drawn (Z : ZZ) (l : Launch) (t : Nat) (a1 : Int32) (h : HP) {v : Int32} {h1 : HP} (ho : f_X6_drawn t a1 h = some (v, h1)) : MetP Z l yX6_drawn cX6_drawn 5 (some .int) 5 111 [.ref (zb Z + t), .int a1] h (some (.int v)) h1 := by
  refine MetP_of ho (by decide +kernel) (Nat.le_of_ble_eq_true rfl) [(0, .ref (zb Z + t)), (1, .int a1)] rfl (own := RX6) rfl (nm := "drawn") rfl ?_
  unfold f_X6_drawn
  refine S_iload_n dX6_drawn_0 rfl 1 rfl (pc' := 1) rfl ?_
  refine S_i2l dX6_drawn_1 (pc' := 2) rfl ?_
  refine S_lconst dX6_drawn_2 (v := 1) rfl (pc' := 3) rfl ?_
  refine S_ldc2 dX6_drawn_3 kc_X6_304 (pc' := 6) rfl ?_
  refine S_stai ml_X6_95 ms_X6_in dX6_drawn_6 [.long a1.toInt64, .long 1, .long 60] rfl (fun v h2 q => c_X6_in Z l _ _ _ _ q) ⟨Nat.le_of_ble_eq_true rfl, Nat.le_of_ble_eq_true rfl⟩ (rest := []) (Nat.le_of_ble_eq_true rfl) rfl (pc' := 9) rfl (fun x6 h6 => ?_)
  refine S_if_ne dX6_drawn_9 19 rfl (pc' := 12) rfl (fun g9 => ?_) (fun g9 => ?_)
  · refine S_aload_n dX6_drawn_19 rfl 0 rfl (pc' := 20) rfl ?_
    refine S_getI fl_X6_92 rfl dX6_drawn_20 (pc' := 23) rfl (fun x20 => ?_)
    refine S_if_ne dX6_drawn_23 33 rfl (pc' := 26) rfl (fun g23 => ?_) (fun g23 => ?_)
    · refine S_iconst dX6_drawn_33 (v := 0) rfl (pc' := 34) rfl ?_
      refine S_istore_n dX6_drawn_34 rfl (by decide) (lo' := [(2, .int 0), (0, .ref (zb Z + t)), (1, .int a1)]) rfl (pc' := 35) rfl ?_
      refine S_iconst dX6_drawn_35 (v := 0) rfl (pc' := 36) rfl ?_
      refine S_istore_n dX6_drawn_36 rfl (by decide) (lo' := [(3, .int 0), (2, .int 0), (0, .ref (zb Z + t)), (1, .int a1)]) rfl (pc' := 37) rfl ?_
      refine Sim.sub [2, 3, 1, 0] rfl ?_
      refine lq_X6_drawn_37 Z l t a1 _ ?_ 1000 _ _ _
      intro b2_37 h37_
      refine S_iload_n dX6_drawn_88 rfl 0 rfl (pc' := 89) rfl ?_
      exact S_iret rfl dX6_drawn_89
    · refine S_aload_n dX6_drawn_26 rfl 0 rfl (pc' := 27) rfl ?_
      refine S_bipush dX6_drawn_27 (v := (-5)) rfl (pc' := 29) rfl ?_
      refine S_invi ml_X6_108 mi_X6_refuse (ci := 6) ⟨_, rfl, rfl⟩ (by decide) dX6_drawn_29 [.int (-5)] rfl (fun v h2 q => c_X6_refuse Z l _ _ _ q) ⟨Nat.le_of_ble_eq_true rfl, Nat.le_of_ble_eq_true rfl⟩ (rest := []) (Nat.le_of_ble_eq_true rfl) rfl (pc' := 32) rfl (fun x29 h29 => ?_)
      exact S_iret rfl dX6_drawn_32
  · refine S_aload_n dX6_drawn_12 rfl 0 rfl (pc' := 13) rfl ?_
    refine S_bipush dX6_drawn_13 (v := (-2)) rfl (pc' := 15) rfl ?_
    refine S_invi ml_X6_108 mi_X6_refuse (ci := 6) ⟨_, rfl, rfl⟩ (by decide) dX6_drawn_15 [.int (-2)] rfl (fun v h2 q => c_X6_refuse Z l _ _ _ q) ⟨Nat.le_of_ble_eq_true rfl, Nat.le_of_ble_eq_true rfl⟩ (rest := []) (Nat.le_of_ble_eq_true rfl) rfl (pc' := 18) rfl (fun x15 h15 => ?_)
    exact S_iret rfl dX6_drawn_18
theorem dX6_seed_0 : decode cX6_seed 0 = .ok (.aload_n 0, 1) := by decide +kernel
theorem dX6_seed_1 : decode cX6_seed 1 = .ok (.getfield 71, 3) := by decide +kernel
theorem dX6_seed_4 : decode cX6_seed 4 = .ok (.istore_n 2, 1) := by decide +kernel
theorem dX6_seed_5 : decode cX6_seed 5 = .ok (.aload_n 0, 1) := by decide +kernel
theorem dX6_seed_6 : decode cX6_seed 6 = .ok (.iload_n 1, 1) := by decide +kernel
theorem dX6_seed_7 : decode cX6_seed 7 = .ok (.putfield 71, 3) := by decide +kernel
theorem dX6_seed_10 : decode cX6_seed 10 = .ok (.iload_n 2, 1) := by decide +kernel
theorem dX6_seed_11 : decode cX6_seed 11 = .ok (.ireturn, 1) := by decide +kernel
set_option maxRecDepth 100000 in
set_option maxHeartbeats 4000000 in
theorem c_X6_seed (Z : ZZ) (l : Launch) (t : Nat) (a1 : Int32) (h : HP) {v : Int32} {h1 : HP} (ho : f_X6_seed t a1 h = some (v, h1)) : MetP Z l yX6_seed cX6_seed 3 (some .int) 0 0 [.ref (zb Z + t), .int a1] h (some (.int v)) h1 := by
  refine MetP_of ho (by decide +kernel) (Nat.le_of_ble_eq_true rfl) [(0, .ref (zb Z + t)), (1, .int a1)] rfl (own := RX6) rfl (nm := "seed") rfl ?_
  unfold f_X6_seed
  refine S_aload_n dX6_seed_0 rfl 0 rfl (pc' := 1) rfl ?_
  refine S_getI fl_X6_71 rfl dX6_seed_1 (pc' := 4) rfl (fun x1 => ?_)
  refine S_istore_n dX6_seed_4 rfl (by decide) (lo' := [(2, .int x1), (0, .ref (zb Z + t)), (1, .int a1)]) rfl (pc' := 5) rfl ?_
  refine S_aload_n dX6_seed_5 rfl 1 rfl (pc' := 6) rfl ?_
  refine S_iload_n dX6_seed_6 rfl 2 rfl (pc' := 7) rfl ?_
  refine S_putI fl_X6_71 (by decide) rfl dX6_seed_7 (pc' := 10) rfl (fun h7 => ?_)
  refine S_iload_n dX6_seed_10 rfl 0 rfl (pc' := 11) rfl ?_
  exact S_iret rfl dX6_seed_11
theorem dX6_image_0 : decode cX6_image 0 = .ok (.aload_n 0, 1) := by decide +kernel
theorem dX6_image_1 : decode cX6_image 1 = .ok (.getfield 360, 3) := by decide +kernel
theorem dX6_image_4 : decode cX6_image 4 = .ok (.ifnonnull 14, 3) := by decide +kernel
theorem dX6_image_7 : decode cX6_image 7 = .ok (.aload_n 0, 1) := by decide +kernel
theorem dX6_image_8 : decode cX6_image 8 = .ok (.new 8, 3) := by decide +kernel
theorem dX6_image_11 : decode cX6_image 11 = .ok (.dup, 1) := by decide +kernel
theorem dX6_image_12 : decode cX6_image 12 = .ok (.invokespecial 256, 3) := by decide +kernel
theorem dX6_image_15 : decode cX6_image 15 = .ok (.putfield 360, 3) := by decide +kernel
theorem dX6_image_18 : decode cX6_image 18 = .ok (.aload_n 0, 1) := by decide +kernel
theorem dX6_image_19 : decode cX6_image 19 = .ok (.getfield 360, 3) := by decide +kernel
theorem dX6_image_22 : decode cX6_image 22 = .ok (.aload_n 0, 1) := by decide +kernel
theorem dX6_image_23 : decode cX6_image 23 = .ok (.invokevirtual 257, 3) := by decide +kernel
theorem dX6_image_26 : decode cX6_image 26 = .ok (.iconst 1, 1) := by decide +kernel
theorem dX6_image_27 : decode cX6_image 27 = .ok (.ireturn, 1) := by decide +kernel
set_option maxRecDepth 100000 in
set_option maxHeartbeats 4000000 in
theorem c_X6_image (Z : ZZ) (l : Launch) (t : Nat) (h : HP) {v : Int32} {h1 : HP} (ho : f_X6_image t h = some (v, h1)) : MetP Z l yX6_image cX6_image 1 (some .int) 2 43 [.ref (zb Z + t)] h (some (.int v)) h1 := by
  refine MetP_of ho (by decide +kernel) (Nat.le_of_ble_eq_true rfl) [(0, .ref (zb Z + t))] rfl (own := RX6) rfl (nm := "image") rfl ?_
  unfold f_X6_image
  refine S_aload_n dX6_image_0 rfl 0 rfl (pc' := 1) rfl ?_
  refine S_getN fl_X6_360 rfl dX6_image_1 (pc' := 4) rfl dX6_image_4 18 rfl (pc2 := 7) rfl ?_ ?_
  · refine S_aload_n dX6_image_7 rfl 0 rfl (pc' := 8) rfl ?_
    refine S_new nc_X6_8 dX6_image_8 (pc' := 11) rfl (fun x8 h8 => ?_)
    refine S_dup dX6_image_11 rfl (pc' := 12) rfl ?_
    refine S_ctor ml_X6_256 rfl mc_X6_init dX6_image_12 [] rfl (fun v h2 q => c_X6_init Z l _ _ q) ⟨Nat.le_of_ble_eq_true rfl, Nat.le_of_ble_eq_true rfl⟩ (rest := [.ref (zb Z + x8), .ref (zb Z + t)]) (Nat.le_of_ble_eq_true rfl) rfl (pc' := 15) rfl (fun _ h12 => ?_)
    refine S_putR fl_X6_360 (Or.inl ⟨_, rfl⟩) (fun q => by cases q) (by decide) rfl dX6_image_15 (pc' := 18) rfl (fun h15 => ?_)
    refine S_aload_n dX6_image_18 rfl 0 rfl (pc' := 19) rfl ?_
    refine S_getR fl_X6_360 rfl dX6_image_19 (pc' := 22) rfl (fun x19 => ?_)
    refine S_aload_n dX6_image_22 rfl 0 rfl (pc' := 23) rfl ?_
    refine S_invv ml_X6_257 mi_X6_takeFrom (ci := 6) ⟨_, rfl, rfl⟩ (by decide) dX6_image_23 [.ref (zb Z + t)] rfl (fun v h2 q => c_X6_takeFrom Z l _ _ _ q) ⟨Nat.le_of_ble_eq_true rfl, Nat.le_of_ble_eq_true rfl⟩ (rest := []) (Nat.le_of_ble_eq_true rfl) rfl (pc' := 26) rfl (fun _ h23 => ?_)
    refine S_iconst dX6_image_26 (v := 1) rfl (pc' := 27) rfl ?_
    exact S_iret rfl dX6_image_27
  · refine S_aload_n dX6_image_18 rfl 0 rfl (pc' := 19) rfl ?_
    refine S_getR fl_X6_360 rfl dX6_image_19 (pc' := 22) rfl (fun x19 => ?_)
    refine S_aload_n dX6_image_22 rfl 0 rfl (pc' := 23) rfl ?_
    refine S_invv ml_X6_257 mi_X6_takeFrom (ci := 6) ⟨_, rfl, rfl⟩ (by decide) dX6_image_23 [.ref (zb Z + t)] rfl (fun v h2 q => c_X6_takeFrom Z l _ _ _ q) ⟨Nat.le_of_ble_eq_true rfl, Nat.le_of_ble_eq_true rfl⟩ (rest := []) (Nat.le_of_ble_eq_true rfl) rfl (pc' := 26) rfl (fun _ h23 => ?_)
    refine S_iconst dX6_image_26 (v := 1) rfl (pc' := 27) rfl ?_
    exact S_iret rfl dX6_image_27
theorem dX6_back_0 : decode cX6_back 0 = .ok (.aload_n 0, 1) := by decide +kernel
theorem dX6_back_1 : decode cX6_back 1 = .ok (.getfield 360, 3) := by decide +kernel
theorem dX6_back_4 : decode cX6_back 4 = .ok (.ifnonnull 10, 3) := by decide +kernel
theorem dX6_back_7 : decode cX6_back 7 = .ok (.aload_n 0, 1) := by decide +kernel
theorem dX6_back_8 : decode cX6_back 8 = .ok (.bipush (-5), 2) := by decide +kernel
theorem dX6_back_10 : decode cX6_back 10 = .ok (.invokevirtual 108, 3) := by decide +kernel
theorem dX6_back_13 : decode cX6_back 13 = .ok (.ireturn, 1) := by decide +kernel
theorem dX6_back_14 : decode cX6_back 14 = .ok (.aload_n 0, 1) := by decide +kernel
theorem dX6_back_15 : decode cX6_back 15 = .ok (.aload_n 0, 1) := by decide +kernel
theorem dX6_back_16 : decode cX6_back 16 = .ok (.getfield 360, 3) := by decide +kernel
theorem dX6_back_19 : decode cX6_back 19 = .ok (.invokevirtual 257, 3) := by decide +kernel
theorem dX6_back_22 : decode cX6_back 22 = .ok (.iconst 0, 1) := by decide +kernel
theorem dX6_back_23 : decode cX6_back 23 = .ok (.istore_n 1, 1) := by decide +kernel
theorem dX6_back_24 : decode cX6_back 24 = .ok (.iload_n 1, 1) := by decide +kernel
theorem dX6_back_25 : decode cX6_back 25 = .ok (.bipush 8, 2) := by decide +kernel
theorem dX6_back_27 : decode cX6_back 27 = .ok (.if_icmp .ge 39, 3) := by decide +kernel
theorem dX6_back_30 : decode cX6_back 30 = .ok (.aload_n 0, 1) := by decide +kernel
theorem dX6_back_31 : decode cX6_back 31 = .ok (.getfield 7, 3) := by decide +kernel
theorem dX6_back_34 : decode cX6_back 34 = .ok (.iload_n 1, 1) := by decide +kernel
theorem dX6_back_35 : decode cX6_back 35 = .ok (.iaload, 1) := by decide +kernel
theorem dX6_back_36 : decode cX6_back 36 = .ok (.iconst 2, 1) := by decide +kernel
theorem dX6_back_37 : decode cX6_back 37 = .ok (.if_icmp .ne 23, 3) := by decide +kernel
theorem dX6_back_40 : decode cX6_back 40 = .ok (.aload_n 0, 1) := by decide +kernel
theorem dX6_back_41 : decode cX6_back 41 = .ok (.getfield 28, 3) := by decide +kernel
theorem dX6_back_44 : decode cX6_back 44 = .ok (.iload_n 1, 1) := by decide +kernel
theorem dX6_back_45 : decode cX6_back 45 = .ok (.iaload, 1) := by decide +kernel
theorem dX6_back_46 : decode cX6_back 46 = .ok (.aload_n 0, 1) := by decide +kernel
theorem dX6_back_47 : decode cX6_back 47 = .ok (.getfield 92, 3) := by decide +kernel
theorem dX6_back_50 : decode cX6_back 50 = .ok (.if_icmp .lt 10, 3) := by decide +kernel
theorem dX6_back_53 : decode cX6_back 53 = .ok (.aload_n 0, 1) := by decide +kernel
theorem dX6_back_54 : decode cX6_back 54 = .ok (.getfield 7, 3) := by decide +kernel
theorem dX6_back_57 : decode cX6_back 57 = .ok (.iload_n 1, 1) := by decide +kernel
theorem dX6_back_58 : decode cX6_back 58 = .ok (.iconst 0, 1) := by decide +kernel
theorem dX6_back_59 : decode cX6_back 59 = .ok (.iastore, 1) := by decide +kernel
theorem dX6_back_60 : decode cX6_back 60 = .ok (.iinc 1 1, 3) := by decide +kernel
theorem dX6_back_63 : decode cX6_back 63 = .ok (.goto (-39), 3) := by decide +kernel
theorem dX6_back_66 : decode cX6_back 66 = .ok (.iconst 1, 1) := by decide +kernel
theorem dX6_back_67 : decode cX6_back 67 = .ok (.ireturn, 1) := by decide +kernel
set_option maxRecDepth 100000 in
set_option maxHeartbeats 4000000 in
theorem lc_X6_back_24 (Z : ZZ) (l : Launch) (a0 : Nat) {args : Array Value} {h0 h1 : HP} {v0 : Int32} (K : HP → Option (Int32 × HP)) (F : Int32 → HP → Option (Int32 × HP))
    (hK : ∀ (h : HP), Sim Z l cX6_back RX6 2 2 43 (some .int) "back" args (Mq Z args h0 h1 (some (.int v0))) h0 h1 v0 66 [] [] h (K h))
    (hF : ∀ (b1 : Int32) (h : HP), Sim Z l cX6_back RX6 2 2 43 (some .int) "back" args (Mq Z args h0 h1 (some (.int v0))) h0 h1 v0 24 [(0, .ref (zb Z + a0)), (1, .int b1)] [] h (F b1 h)) :
    ∀ (b1 : Int32) (h : HP), Sim Z l cX6_back RX6 2 2 43 (some .int) "back" args (Mq Z args h0 h1 (some (.int v0))) h0 h1 v0 24 [(0, .ref (zb Z + a0)), (1, .int b1)] [] h (lb_X6_back_24 a0 K F b1 h) := by
  intro b1 h
  unfold lb_X6_back_24
  refine S_iload_n dX6_back_24 rfl 1 rfl (pc' := 25) rfl ?_
  refine S_bipush dX6_back_25 (v := 8) rfl (pc' := 27) rfl ?_
  refine S_icmp_ge dX6_back_27 66 rfl (pc' := 30) rfl (fun g27 => ?_) (fun g27 => ?_)
  · refine Sim.sub [] rfl ?_
    exact hK _
  · refine S_aload_n dX6_back_30 rfl 0 rfl (pc' := 31) rfl ?_
    refine S_getR fl_X6_7 rfl dX6_back_31 (pc' := 34) rfl (fun x31 => ?_)
    refine S_iload_n dX6_back_34 rfl 1 rfl (pc' := 35) rfl ?_
    refine S_iaload dX6_back_35 (pc' := 36) rfl (fun x35 => ?_)
    refine S_iconst dX6_back_36 (v := 2) rfl (pc' := 37) rfl ?_
    refine S_icmp_ne dX6_back_37 60 rfl (pc' := 40) rfl (fun g37 => ?_) (fun g37 => ?_)
    · refine S_iinc dX6_back_60 (q := 1) rfl (v := b1 + 1) rfl (by decide) (lo' := [(1, .int (b1 + 1)), (0, .ref (zb Z + a0))]) rfl (pc' := 63) rfl ?_
      refine S_goto dX6_back_63 24 rfl ?_
      refine Sim.sub [1, 0] rfl ?_
      exact hF _ _
    · refine S_aload_n dX6_back_40 rfl 0 rfl (pc' := 41) rfl ?_
      refine S_getR fl_X6_28 rfl dX6_back_41 (pc' := 44) rfl (fun x41 => ?_)
      refine S_iload_n dX6_back_44 rfl 1 rfl (pc' := 45) rfl ?_
      refine S_iaload dX6_back_45 (pc' := 46) rfl (fun x45 => ?_)
      refine S_aload_n dX6_back_46 rfl 0 rfl (pc' := 47) rfl ?_
      refine S_getI fl_X6_92 rfl dX6_back_47 (pc' := 50) rfl (fun x47 => ?_)
      refine S_icmp_lt dX6_back_50 60 rfl (pc' := 53) rfl (fun g50 => ?_) (fun g50 => ?_)
      · refine S_iinc dX6_back_60 (q := 1) rfl (v := b1 + 1) rfl (by decide) (lo' := [(1, .int (b1 + 1)), (0, .ref (zb Z + a0))]) rfl (pc' := 63) rfl ?_
        refine S_goto dX6_back_63 24 rfl ?_
        refine Sim.sub [1, 0] rfl ?_
        exact hF _ _
      · refine S_aload_n dX6_back_53 rfl 0 rfl (pc' := 54) rfl ?_
        refine S_getR fl_X6_7 rfl dX6_back_54 (pc' := 57) rfl (fun x54 => ?_)
        refine S_iload_n dX6_back_57 rfl 1 rfl (pc' := 58) rfl ?_
        refine S_iconst dX6_back_58 (v := 0) rfl (pc' := 59) rfl ?_
        refine S_iastore dX6_back_59 (pc' := 60) rfl (fun h59 => ?_)
        refine S_iinc dX6_back_60 (q := 1) rfl (v := b1 + 1) rfl (by decide) (lo' := [(1, .int (b1 + 1)), (0, .ref (zb Z + a0))]) rfl (pc' := 63) rfl ?_
        refine S_goto dX6_back_63 24 rfl ?_
        refine Sim.sub [1, 0] rfl ?_
        exact hF _ _
theorem lq_X6_back_24 (Z : ZZ) (l : Launch) (a0 : Nat) {args : Array Value} {h0 h1 : HP} {v0 : Int32} (K : HP → Option (Int32 × HP))
    (hK : ∀ (h : HP), Sim Z l cX6_back RX6 2 2 43 (some .int) "back" args (Mq Z args h0 h1 (some (.int v0))) h0 h1 v0 66 [] [] h (K h)) :
    ∀ (k : Nat) (b1 : Int32) (h : HP), Sim Z l cX6_back RX6 2 2 43 (some .int) "back" args (Mq Z args h0 h1 (some (.int v0))) h0 h1 v0 24 [(0, .ref (zb Z + a0)), (1, .int b1)] [] h (lp_X6_back_24 a0 K k b1 h) := by
  intro k
  induction k with
  | zero => exact fun _ _ => Sim.none
  | succ k ih => exact lc_X6_back_24 Z l a0 K _ hK ih
set_option maxRecDepth 100000 in
set_option maxHeartbeats 4000000 in
theorem c_X6_back (Z : ZZ) (l : Launch) (t : Nat) (h : HP) {v : Int32} {h1 : HP} (ho : f_X6_back t h = some (v, h1)) : MetP Z l yX6_back cX6_back 2 (some .int) 2 43 [.ref (zb Z + t)] h (some (.int v)) h1 := by
  refine MetP_of ho (by decide +kernel) (Nat.le_of_ble_eq_true rfl) [(0, .ref (zb Z + t))] rfl (own := RX6) rfl (nm := "back") rfl ?_
  unfold f_X6_back
  refine S_aload_n dX6_back_0 rfl 0 rfl (pc' := 1) rfl ?_
  refine S_getN fl_X6_360 rfl dX6_back_1 (pc' := 4) rfl dX6_back_4 14 rfl (pc2 := 7) rfl ?_ ?_
  · refine S_aload_n dX6_back_7 rfl 0 rfl (pc' := 8) rfl ?_
    refine S_bipush dX6_back_8 (v := (-5)) rfl (pc' := 10) rfl ?_
    refine S_invi ml_X6_108 mi_X6_refuse (ci := 6) ⟨_, rfl, rfl⟩ (by decide) dX6_back_10 [.int (-5)] rfl (fun v h2 q => c_X6_refuse Z l _ _ _ q) ⟨Nat.le_of_ble_eq_true rfl, Nat.le_of_ble_eq_true rfl⟩ (rest := []) (Nat.le_of_ble_eq_true rfl) rfl (pc' := 13) rfl (fun x10 h10 => ?_)
    exact S_iret rfl dX6_back_13
  · refine S_aload_n dX6_back_14 rfl 0 rfl (pc' := 15) rfl ?_
    refine S_aload_n dX6_back_15 rfl 0 rfl (pc' := 16) rfl ?_
    refine S_getR fl_X6_360 rfl dX6_back_16 (pc' := 19) rfl (fun x16 => ?_)
    refine S_invv ml_X6_257 mi_X6_takeFrom (ci := 6) ⟨_, rfl, rfl⟩ (by decide) dX6_back_19 [.ref (zb Z + x16)] rfl (fun v h2 q => c_X6_takeFrom Z l _ _ _ q) ⟨Nat.le_of_ble_eq_true rfl, Nat.le_of_ble_eq_true rfl⟩ (rest := []) (Nat.le_of_ble_eq_true rfl) rfl (pc' := 22) rfl (fun _ h19 => ?_)
    refine S_iconst dX6_back_22 (v := 0) rfl (pc' := 23) rfl ?_
    refine S_istore_n dX6_back_23 rfl (by decide) (lo' := [(1, .int 0), (0, .ref (zb Z + t))]) rfl (pc' := 24) rfl ?_
    refine Sim.sub [1, 0] rfl ?_
    refine lq_X6_back_24 Z l t _ ?_ 1000 _ _
    intro h24_
    refine S_iconst dX6_back_66 (v := 1) rfl (pc' := 67) rfl ?_
    exact S_iret rfl dX6_back_67
theorem dX6_status_0 : decode cX6_status 0 = .ok (.iload_n 1, 1) := by decide +kernel
theorem dX6_status_1 : decode cX6_status 1 = .ok (.tableswitch 120 0 7 #[47, 52, 57, 62, 67, 75, 80, 85], 47) := by decide +kernel
theorem dX6_status_48 : decode cX6_status 48 = .ok (.aload_n 0, 1) := by decide +kernel
theorem dX6_status_49 : decode cX6_status 49 = .ok (.getfield 92, 3) := by decide +kernel
theorem dX6_status_52 : decode cX6_status 52 = .ok (.ireturn, 1) := by decide +kernel
theorem dX6_status_53 : decode cX6_status 53 = .ok (.aload_n 0, 1) := by decide +kernel
theorem dX6_status_54 : decode cX6_status 54 = .ok (.getfield 99, 3) := by decide +kernel
theorem dX6_status_57 : decode cX6_status 57 = .ok (.ireturn, 1) := by decide +kernel
theorem dX6_status_58 : decode cX6_status 58 = .ok (.aload_n 0, 1) := by decide +kernel
theorem dX6_status_59 : decode cX6_status 59 = .ok (.getfield 37, 3) := by decide +kernel
theorem dX6_status_62 : decode cX6_status 62 = .ok (.ireturn, 1) := by decide +kernel
theorem dX6_status_63 : decode cX6_status 63 = .ok (.aload_n 0, 1) := by decide +kernel
theorem dX6_status_64 : decode cX6_status 64 = .ok (.getfield 161, 3) := by decide +kernel
theorem dX6_status_67 : decode cX6_status 67 = .ok (.ireturn, 1) := by decide +kernel
theorem dX6_status_68 : decode cX6_status 68 = .ok (.aload_n 0, 1) := by decide +kernel
theorem dX6_status_69 : decode cX6_status 69 = .ok (.invokevirtual 298, 3) := by decide +kernel
theorem dX6_status_72 : decode cX6_status 72 = .ok (.invokestatic 301, 3) := by decide +kernel
theorem dX6_status_75 : decode cX6_status 75 = .ok (.ireturn, 1) := by decide +kernel
theorem dX6_status_76 : decode cX6_status 76 = .ok (.aload_n 0, 1) := by decide +kernel
theorem dX6_status_77 : decode cX6_status 77 = .ok (.getfield 166, 3) := by decide +kernel
theorem dX6_status_80 : decode cX6_status 80 = .ok (.ireturn, 1) := by decide +kernel
theorem dX6_status_81 : decode cX6_status 81 = .ok (.aload_n 0, 1) := by decide +kernel
theorem dX6_status_82 : decode cX6_status 82 = .ok (.getfield 71, 3) := by decide +kernel
theorem dX6_status_85 : decode cX6_status 85 = .ok (.ireturn, 1) := by decide +kernel
theorem dX6_status_86 : decode cX6_status 86 = .ok (.iconst 0, 1) := by decide +kernel
theorem dX6_status_87 : decode cX6_status 87 = .ok (.istore_n 2, 1) := by decide +kernel
theorem dX6_status_88 : decode cX6_status 88 = .ok (.iconst 0, 1) := by decide +kernel
theorem dX6_status_89 : decode cX6_status 89 = .ok (.istore_n 3, 1) := by decide +kernel
theorem dX6_status_90 : decode cX6_status 90 = .ok (.iload_n 3, 1) := by decide +kernel
theorem dX6_status_91 : decode cX6_status 91 = .ok (.bipush 8, 2) := by decide +kernel
theorem dX6_status_93 : decode cX6_status 93 = .ok (.if_icmp .ge 26, 3) := by decide +kernel
theorem dX6_status_96 : decode cX6_status 96 = .ok (.iload_n 2, 1) := by decide +kernel
theorem dX6_status_97 : decode cX6_status 97 = .ok (.aload_n 0, 1) := by decide +kernel
theorem dX6_status_98 : decode cX6_status 98 = .ok (.getfield 7, 3) := by decide +kernel
theorem dX6_status_101 : decode cX6_status 101 = .ok (.iload_n 3, 1) := by decide +kernel
theorem dX6_status_102 : decode cX6_status 102 = .ok (.iaload, 1) := by decide +kernel
theorem dX6_status_103 : decode cX6_status 103 = .ok (.ifCond .eq 7, 3) := by decide +kernel
theorem dX6_status_106 : decode cX6_status 106 = .ok (.iconst 1, 1) := by decide +kernel
theorem dX6_status_107 : decode cX6_status 107 = .ok (.goto 4, 3) := by decide +kernel
theorem dX6_status_110 : decode cX6_status 110 = .ok (.iconst 0, 1) := by decide +kernel
theorem dX6_status_111 : decode cX6_status 111 = .ok (.iadd, 1) := by decide +kernel
theorem dX6_status_112 : decode cX6_status 112 = .ok (.istore_n 2, 1) := by decide +kernel
theorem dX6_status_113 : decode cX6_status 113 = .ok (.iinc 3 1, 3) := by decide +kernel
theorem dX6_status_116 : decode cX6_status 116 = .ok (.goto (-26), 3) := by decide +kernel
theorem dX6_status_119 : decode cX6_status 119 = .ok (.iload_n 2, 1) := by decide +kernel
theorem dX6_status_120 : decode cX6_status 120 = .ok (.ireturn, 1) := by decide +kernel
theorem dX6_status_121 : decode cX6_status 121 = .ok (.iload_n 1, 1) := by decide +kernel
theorem dX6_status_122 : decode cX6_status 122 = .ok (.i2l, 1) := by decide +kernel
theorem dX6_status_123 : decode cX6_status 123 = .ok (.ldc2_w 363, 3) := by decide +kernel
theorem dX6_status_126 : decode cX6_status 126 = .ok (.ldc2_w 365, 3) := by decide +kernel
theorem dX6_status_129 : decode cX6_status 129 = .ok (.invokestatic 95, 3) := by decide +kernel
theorem dX6_status_132 : decode cX6_status 132 = .ok (.ifCond .eq 15, 3) := by decide +kernel
theorem dX6_status_135 : decode cX6_status 135 = .ok (.aload_n 0, 1) := by decide +kernel
theorem dX6_status_136 : decode cX6_status 136 = .ok (.getfield 34, 3) := by decide +kernel
theorem dX6_status_139 : decode cX6_status 139 = .ok (.iload_n 1, 1) := by decide +kernel
theorem dX6_status_140 : decode cX6_status 140 = .ok (.bipush 10, 2) := by decide +kernel
theorem dX6_status_142 : decode cX6_status 142 = .ok (.isub, 1) := by decide +kernel
theorem dX6_status_143 : decode cX6_status 143 = .ok (.iaload, 1) := by decide +kernel
theorem dX6_status_144 : decode cX6_status 144 = .ok (.goto 4, 3) := by decide +kernel
theorem dX6_status_147 : decode cX6_status 147 = .ok (.iconst (-1), 1) := by decide +kernel
theorem dX6_status_148 : decode cX6_status 148 = .ok (.ireturn, 1) := by decide +kernel
set_option maxRecDepth 100000 in
set_option maxHeartbeats 4000000 in
theorem lc_X6_status_90 (Z : ZZ) (l : Launch) (a0 : Nat) {args : Array Value} {h0 h1 : HP} {v0 : Int32} (K : Int32 → HP → Option (Int32 × HP)) (F : Int32 → Int32 → HP → Option (Int32 × HP))
    (hK : ∀ (b2 : Int32) (h : HP), Sim Z l cX6_status RX6 4 3 67 (some .int) "status" args (Mq Z args h0 h1 (some (.int v0))) h0 h1 v0 119 [(2, .int b2)] [] h (K b2 h))
    (hF : ∀ (b2 : Int32) (b3 : Int32) (h : HP), Sim Z l cX6_status RX6 4 3 67 (some .int) "status" args (Mq Z args h0 h1 (some (.int v0))) h0 h1 v0 90 [(0, .ref (zb Z + a0)), (2, .int b2), (3, .int b3)] [] h (F b2 b3 h)) :
    ∀ (b2 : Int32) (b3 : Int32) (h : HP), Sim Z l cX6_status RX6 4 3 67 (some .int) "status" args (Mq Z args h0 h1 (some (.int v0))) h0 h1 v0 90 [(0, .ref (zb Z + a0)), (2, .int b2), (3, .int b3)] [] h (lb_X6_status_90 a0 K F b2 b3 h) := by
  intro b2 b3 h
  unfold lb_X6_status_90
  refine S_iload_n dX6_status_90 rfl 2 rfl (pc' := 91) rfl ?_
  refine S_bipush dX6_status_91 (v := 8) rfl (pc' := 93) rfl ?_
  refine S_icmp_ge dX6_status_93 119 rfl (pc' := 96) rfl (fun g93 => ?_) (fun g93 => ?_)
  · refine Sim.sub [1] rfl ?_
    exact hK _ _
  · refine S_iload_n dX6_status_96 rfl 1 rfl (pc' := 97) rfl ?_
    refine S_aload_n dX6_status_97 rfl 0 rfl (pc' := 98) rfl ?_
    refine S_getR fl_X6_7 rfl dX6_status_98 (pc' := 101) rfl (fun x98 => ?_)
    refine S_iload_n dX6_status_101 rfl 2 rfl (pc' := 102) rfl ?_
    refine S_iaload dX6_status_102 (pc' := 103) rfl (fun x102 => ?_)
    refine S_if_eq dX6_status_103 110 rfl (pc' := 106) rfl (fun g103 => ?_) (fun g103 => ?_)
    · refine S_iconst dX6_status_110 (v := 0) rfl (pc' := 111) rfl ?_
      refine S_iadd dX6_status_111 (pc' := 112) rfl ?_
      refine S_istore_n dX6_status_112 rfl (by decide) (lo' := [(2, .int (b2 + 0)), (0, .ref (zb Z + a0)), (3, .int b3)]) rfl (pc' := 113) rfl ?_
      refine S_iinc dX6_status_113 (q := 2) rfl (v := b3 + 1) rfl (by decide) (lo' := [(3, .int (b3 + 1)), (2, .int (b2 + 0)), (0, .ref (zb Z + a0))]) rfl (pc' := 116) rfl ?_
      refine S_goto dX6_status_116 90 rfl ?_
      refine Sim.sub [2, 1, 0] rfl ?_
      exact hF _ _ _
    · refine S_iconst dX6_status_106 (v := 1) rfl (pc' := 107) rfl ?_
      refine S_goto dX6_status_107 111 rfl ?_
      refine S_iadd dX6_status_111 (pc' := 112) rfl ?_
      refine S_istore_n dX6_status_112 rfl (by decide) (lo' := [(2, .int (b2 + 1)), (0, .ref (zb Z + a0)), (3, .int b3)]) rfl (pc' := 113) rfl ?_
      refine S_iinc dX6_status_113 (q := 2) rfl (v := b3 + 1) rfl (by decide) (lo' := [(3, .int (b3 + 1)), (2, .int (b2 + 1)), (0, .ref (zb Z + a0))]) rfl (pc' := 116) rfl ?_
      refine S_goto dX6_status_116 90 rfl ?_
      refine Sim.sub [2, 1, 0] rfl ?_
      exact hF _ _ _
theorem lq_X6_status_90 (Z : ZZ) (l : Launch) (a0 : Nat) {args : Array Value} {h0 h1 : HP} {v0 : Int32} (K : Int32 → HP → Option (Int32 × HP))
    (hK : ∀ (b2 : Int32) (h : HP), Sim Z l cX6_status RX6 4 3 67 (some .int) "status" args (Mq Z args h0 h1 (some (.int v0))) h0 h1 v0 119 [(2, .int b2)] [] h (K b2 h)) :
    ∀ (k : Nat) (b2 : Int32) (b3 : Int32) (h : HP), Sim Z l cX6_status RX6 4 3 67 (some .int) "status" args (Mq Z args h0 h1 (some (.int v0))) h0 h1 v0 90 [(0, .ref (zb Z + a0)), (2, .int b2), (3, .int b3)] [] h (lp_X6_status_90 a0 K k b2 b3 h) := by
  intro k
  induction k with
  | zero => exact fun _ _ _ => Sim.none
  | succ k ih => exact lc_X6_status_90 Z l a0 K _ hK ih
set_option maxRecDepth 100000 in
set_option maxHeartbeats 4000000 in
theorem c_X6_status (Z : ZZ) (l : Launch) (t : Nat) (a1 : Int32) (h : HP) {v : Int32} {h1 : HP} (ho : f_X6_status t a1 h = some (v, h1)) : MetP Z l yX6_status cX6_status 4 (some .int) 3 67 [.ref (zb Z + t), .int a1] h (some (.int v)) h1 := by
  refine MetP_of ho (by decide +kernel) (Nat.le_of_ble_eq_true rfl) [(0, .ref (zb Z + t)), (1, .int a1)] rfl (own := RX6) rfl (nm := "status") rfl ?_
  unfold f_X6_status
  refine S_iload_n dX6_status_0 rfl 1 rfl (pc' := 1) rfl ?_
  refine Sim.ite (fun g1_0 => ?_) (fun g1_0 => ?_)
  · refine S_tabIn dX6_status_1 g1_0 0 rfl (by decide) (off := 47) rfl 48 rfl ?_
    refine S_aload_n dX6_status_48 rfl 0 rfl (pc' := 49) rfl ?_
    refine S_getI fl_X6_92 rfl dX6_status_49 (pc' := 52) rfl (fun x49 => ?_)
    exact S_iret rfl dX6_status_52
  refine Sim.ite (fun g1_1 => ?_) (fun g1_1 => ?_)
  · refine S_tabIn dX6_status_1 g1_1 1 rfl (by decide) (off := 52) rfl 53 rfl ?_
    refine S_aload_n dX6_status_53 rfl 0 rfl (pc' := 54) rfl ?_
    refine S_getI fl_X6_99 rfl dX6_status_54 (pc' := 57) rfl (fun x54 => ?_)
    exact S_iret rfl dX6_status_57
  refine Sim.ite (fun g1_2 => ?_) (fun g1_2 => ?_)
  · refine S_tabIn dX6_status_1 g1_2 2 rfl (by decide) (off := 57) rfl 58 rfl ?_
    refine S_aload_n dX6_status_58 rfl 0 rfl (pc' := 59) rfl ?_
    refine S_getI fl_X6_37 rfl dX6_status_59 (pc' := 62) rfl (fun x59 => ?_)
    exact S_iret rfl dX6_status_62
  refine Sim.ite (fun g1_3 => ?_) (fun g1_3 => ?_)
  · refine S_tabIn dX6_status_1 g1_3 3 rfl (by decide) (off := 62) rfl 63 rfl ?_
    refine S_aload_n dX6_status_63 rfl 0 rfl (pc' := 64) rfl ?_
    refine S_getI fl_X6_161 rfl dX6_status_64 (pc' := 67) rfl (fun x64 => ?_)
    exact S_iret rfl dX6_status_67
  refine Sim.ite (fun g1_4 => ?_) (fun g1_4 => ?_)
  · refine S_tabIn dX6_status_1 g1_4 4 rfl (by decide) (off := 67) rfl 68 rfl ?_
    refine S_aload_n dX6_status_68 rfl 0 rfl (pc' := 69) rfl ?_
    refine S_invi ml_X6_298 mi_X6_known (ci := 6) ⟨_, rfl, rfl⟩ (by decide) dX6_status_69 [] rfl (fun v h2 q => c_X6_known Z l _ _ q) ⟨Nat.le_of_ble_eq_true rfl, Nat.le_of_ble_eq_true rfl⟩ (rest := []) (Nat.le_of_ble_eq_true rfl) rfl (pc' := 72) rfl (fun x69 h69 => ?_)
    refine S_stai ml_X6_301 ms_X6_bits dX6_status_72 [.int x69] rfl (fun v h2 q => c_X6_bits Z l _ _ q) ⟨Nat.le_of_ble_eq_true rfl, Nat.le_of_ble_eq_true rfl⟩ (rest := []) (Nat.le_of_ble_eq_true rfl) rfl (pc' := 75) rfl (fun x72 h72 => ?_)
    exact S_iret rfl dX6_status_75
  refine Sim.ite (fun g1_5 => ?_) (fun g1_5 => ?_)
  · refine S_tabIn dX6_status_1 g1_5 5 rfl (by decide) (off := 75) rfl 76 rfl ?_
    refine S_aload_n dX6_status_76 rfl 0 rfl (pc' := 77) rfl ?_
    refine S_getI fl_X6_166 rfl dX6_status_77 (pc' := 80) rfl (fun x77 => ?_)
    exact S_iret rfl dX6_status_80
  refine Sim.ite (fun g1_6 => ?_) (fun g1_6 => ?_)
  · refine S_tabIn dX6_status_1 g1_6 6 rfl (by decide) (off := 80) rfl 81 rfl ?_
    refine S_aload_n dX6_status_81 rfl 0 rfl (pc' := 82) rfl ?_
    refine S_getI fl_X6_71 rfl dX6_status_82 (pc' := 85) rfl (fun x82 => ?_)
    exact S_iret rfl dX6_status_85
  refine Sim.ite (fun g1_7 => ?_) (fun g1_7 => ?_)
  · refine S_tabIn dX6_status_1 g1_7 7 rfl (by decide) (off := 85) rfl 86 rfl ?_
    refine S_iconst dX6_status_86 (v := 0) rfl (pc' := 87) rfl ?_
    refine S_istore_n dX6_status_87 rfl (by decide) (lo' := [(2, .int 0), (0, .ref (zb Z + t)), (1, .int a1)]) rfl (pc' := 88) rfl ?_
    refine S_iconst dX6_status_88 (v := 0) rfl (pc' := 89) rfl ?_
    refine S_istore_n dX6_status_89 rfl (by decide) (lo' := [(3, .int 0), (2, .int 0), (0, .ref (zb Z + t)), (1, .int a1)]) rfl (pc' := 90) rfl ?_
    refine Sim.sub [2, 1, 0] rfl ?_
    refine lq_X6_status_90 Z l t _ ?_ 1000 _ _ _
    intro b2_90 h90_
    refine S_iload_n dX6_status_119 rfl 0 rfl (pc' := 120) rfl ?_
    exact S_iret rfl dX6_status_120
  refine S_tabOut dX6_status_1 (by
      have q0 := i32_ne g1_0
      have q1 := i32_ne g1_1
      have q2 := i32_ne g1_2
      have q3 := i32_ne g1_3
      have q4 := i32_ne g1_4
      have q5 := i32_ne g1_5
      have q6 := i32_ne g1_6
      have q7 := i32_ne g1_7
      simp only [show Int32.toInt 0 = 0 from rfl, show Int32.toInt 1 = 1 from rfl, show Int32.toInt 2 = 2 from rfl, show Int32.toInt 3 = 3 from rfl, show Int32.toInt 4 = 4 from rfl, show Int32.toInt 5 = 5 from rfl, show Int32.toInt 6 = 6 from rfl, show Int32.toInt 7 = 7 from rfl] at q0 q1 q2 q3 q4 q5 q6 q7
      omega) 121 rfl ?_
  refine S_iload_n dX6_status_121 rfl 1 rfl (pc' := 122) rfl ?_
  refine S_i2l dX6_status_122 (pc' := 123) rfl ?_
  refine S_ldc2 dX6_status_123 kc_X6_363 (pc' := 126) rfl ?_
  refine S_ldc2 dX6_status_126 kc_X6_365 (pc' := 129) rfl ?_
  refine S_stai ml_X6_95 ms_X6_in dX6_status_129 [.long a1.toInt64, .long 12, .long 16] rfl (fun v h2 q => c_X6_in Z l _ _ _ _ q) ⟨Nat.le_of_ble_eq_true rfl, Nat.le_of_ble_eq_true rfl⟩ (rest := []) (Nat.le_of_ble_eq_true rfl) rfl (pc' := 132) rfl (fun x129 h129 => ?_)
  refine S_if_eq dX6_status_132 147 rfl (pc' := 135) rfl (fun g132 => ?_) (fun g132 => ?_)
  · refine S_iconst dX6_status_147 (v := (-1)) rfl (pc' := 148) rfl ?_
    exact S_iret rfl dX6_status_148
  · refine S_aload_n dX6_status_135 rfl 0 rfl (pc' := 136) rfl ?_
    refine S_getR fl_X6_34 rfl dX6_status_136 (pc' := 139) rfl (fun x136 => ?_)
    refine S_iload_n dX6_status_139 rfl 1 rfl (pc' := 140) rfl ?_
    refine S_bipush dX6_status_140 (v := 10) rfl (pc' := 142) rfl ?_
    refine S_isub dX6_status_142 (pc' := 143) rfl ?_
    refine S_iaload dX6_status_143 (pc' := 144) rfl (fun x143 => ?_)
    refine S_goto dX6_status_144 148 rfl ?_
    exact S_iret rfl dX6_status_148
