theorem dX1_init_0 : decode cX1_init 0 = .ok (.aload_n 0, 1) := by decide +kernel
theorem dX1_init_1 : decode cX1_init 1 = .ok (.invokespecial 3, 3) := by decide +kernel
theorem dX1_init_4 : decode cX1_init 4 = .ok (.aload_n 0, 1) := by decide +kernel
theorem dX1_init_5 : decode cX1_init 5 = .ok (.new 9, 3) := by decide +kernel
theorem dX1_init_8 : decode cX1_init 8 = .ok (.dup, 1) := by decide +kernel
theorem dX1_init_9 : decode cX1_init 9 = .ok (.invokespecial 11, 3) := by decide +kernel
theorem dX1_init_12 : decode cX1_init 12 = .ok (.putfield 12, 3) := by decide +kernel
theorem dX1_init_15 : decode cX1_init 15 = .ok (.aload_n 0, 1) := by decide +kernel
theorem dX1_init_16 : decode cX1_init 16 = .ok (.bipush 6, 2) := by decide +kernel
theorem dX1_init_18 : decode cX1_init 18 = .ok (.newarray .int, 2) := by decide +kernel
theorem dX1_init_20 : decode cX1_init 20 = .ok (.putfield 18, 3) := by decide +kernel
theorem dX1_init_23 : decode cX1_init 23 = .ok (.return_, 1) := by decide +kernel
set_option maxRecDepth 100000 in
set_option maxHeartbeats 4000000 in
theorem c_X1_init (Z : ZZ) (l : Launch) (t : Nat) (h : HP) {v : Unit} {h1 : HP} (ho : f_X1_init t h = some (v, h1)) : MetP Z l yX1_init cX1_init 1 (none) 2 40 [.ref (zb Z + t)] h (none) h1 := by
  refine MetP_of ho (by decide +kernel) (Nat.le_of_ble_eq_true rfl) [(0, .ref (zb Z + t))] rfl (own := RX1) rfl (nm := "<init>") rfl ?_
  unfold f_X1_init
  refine S_aload_n dX1_init_0 rfl 0 rfl (pc' := 1) rfl ?_
  refine S_obj ob_X1_3 ob_i ob_c dX1_init_1 ⟨Nat.le_of_ble_eq_true rfl, Nat.le_of_ble_eq_true rfl⟩ (pc' := 4) rfl ?_
  refine S_aload_n dX1_init_4 rfl 0 rfl (pc' := 5) rfl ?_
  refine S_new nc_X1_9 dX1_init_5 (pc' := 8) rfl (fun x5 h5 => ?_)
  refine S_dup dX1_init_8 rfl (pc' := 9) rfl ?_
  refine S_ctor ml_X1_11 rfl mc_X0_init dX1_init_9 [] rfl (fun v h2 q => c_X0_init Z l _ _ q) ⟨Nat.le_of_ble_eq_true rfl, Nat.le_of_ble_eq_true rfl⟩ (rest := [.ref (zb Z + x5), .ref (zb Z + t)]) (Nat.le_of_ble_eq_true rfl) rfl (pc' := 12) rfl (fun _ h9 => ?_)
  refine S_putR fl_X1_12 (Or.inl ⟨_, rfl⟩) (fun _ => ⟨rfl, rfl, _, _, rfl⟩) (by decide) rfl dX1_init_12 (pc' := 15) rfl (fun h12 => ?_)
  refine S_aload_n dX1_init_15 rfl 0 rfl (pc' := 16) rfl ?_
  refine S_bipush dX1_init_16 (v := 6) rfl (pc' := 18) rfl ?_
  refine S_newarr 7 0 .int rfl (Or.inl ⟨rfl, rfl⟩) ac_int dX1_init_18 (pc' := 20) rfl (fun x18 h18 => ?_)
  refine S_putR fl_X1_18 (Or.inr ⟨_, rfl⟩) (fun _ => ⟨rfl, rfl, _, _, rfl⟩) (by decide) rfl dX1_init_20 (pc' := 23) rfl (fun h20 => ?_)
  exact S_vret rfl dX1_init_23
theorem dX1_after_0 : decode cX1_after 0 = .ok (.aload_n 0, 1) := by decide +kernel
theorem dX1_after_1 : decode cX1_after 1 = .ok (.getfield 12, 3) := by decide +kernel
theorem dX1_after_4 : decode cX1_after 4 = .ok (.aload_n 1, 1) := by decide +kernel
theorem dX1_after_5 : decode cX1_after 5 = .ok (.invokevirtual 22, 3) := by decide +kernel
theorem dX1_after_8 : decode cX1_after 8 = .ok (.iconst 0, 1) := by decide +kernel
theorem dX1_after_9 : decode cX1_after 9 = .ok (.istore_n 3, 1) := by decide +kernel
theorem dX1_after_10 : decode cX1_after 10 = .ok (.iload_n 3, 1) := by decide +kernel
theorem dX1_after_11 : decode cX1_after 11 = .ok (.iload_n 2, 1) := by decide +kernel
theorem dX1_after_12 : decode cX1_after 12 = .ok (.if_icmp .ge 17, 3) := by decide +kernel
theorem dX1_after_15 : decode cX1_after 15 = .ok (.aload_n 0, 1) := by decide +kernel
theorem dX1_after_16 : decode cX1_after 16 = .ok (.getfield 12, 3) := by decide +kernel
theorem dX1_after_19 : decode cX1_after 19 = .ok (.invokevirtual 26, 3) := by decide +kernel
theorem dX1_after_22 : decode cX1_after 22 = .ok (.pop, 1) := by decide +kernel
theorem dX1_after_23 : decode cX1_after 23 = .ok (.iinc 3 1, 3) := by decide +kernel
theorem dX1_after_26 : decode cX1_after 26 = .ok (.goto (-16), 3) := by decide +kernel
theorem dX1_after_29 : decode cX1_after 29 = .ok (.aload_n 0, 1) := by decide +kernel
theorem dX1_after_30 : decode cX1_after 30 = .ok (.getfield 12, 3) := by decide +kernel
theorem dX1_after_33 : decode cX1_after 33 = .ok (.areturn, 1) := by decide +kernel
set_option maxRecDepth 100000 in
set_option maxHeartbeats 4000000 in
theorem lc_X1_after_10 (Z : ZZ) (l : Launch) (a0 : Nat) (a2 : Int32) {args : Array Value} {h0 h1 : HP} {v0 : Nat} (K : HP → Option (Nat × HP)) (F : Int32 → HP → Option (Nat × HP))
    (hK : ∀ (h : HP), Sim Z l cX1_after RX1 4 5 113 (some (FieldType.object "LostBeforeSung$Isle")) "after" args (Mq Z args h0 h1 (some (.ref (zb Z + v0)))) h0 h1 v0 29 [(0, .ref (zb Z + a0))] [] h (K h))
    (hF : ∀ (b3 : Int32) (h : HP), Sim Z l cX1_after RX1 4 5 113 (some (FieldType.object "LostBeforeSung$Isle")) "after" args (Mq Z args h0 h1 (some (.ref (zb Z + v0)))) h0 h1 v0 10 [(0, .ref (zb Z + a0)), (2, .int a2), (3, .int b3)] [] h (F b3 h)) :
    ∀ (b3 : Int32) (h : HP), Sim Z l cX1_after RX1 4 5 113 (some (FieldType.object "LostBeforeSung$Isle")) "after" args (Mq Z args h0 h1 (some (.ref (zb Z + v0)))) h0 h1 v0 10 [(0, .ref (zb Z + a0)), (2, .int a2), (3, .int b3)] [] h (lb_X1_after_10 a0 a2 K F b3 h) := by
  intro b3 h
  unfold lb_X1_after_10
  refine S_iload_n dX1_after_10 rfl 2 rfl (pc' := 11) rfl ?_
  refine S_iload_n dX1_after_11 rfl 1 rfl (pc' := 12) rfl ?_
  refine S_icmp_ge dX1_after_12 29 rfl (pc' := 15) rfl (fun g12 => ?_) (fun g12 => ?_)
  · refine Sim.sub [0] rfl ?_
    exact hK _
  · refine S_aload_n dX1_after_15 rfl 0 rfl (pc' := 16) rfl ?_
    refine S_getR fl_X1_12 rfl dX1_after_16 (pc' := 19) rfl (fun x16 => ?_)
    refine S_invi ml_X1_26 mi_X0_passYear (ci := 0) ⟨_, rfl, rfl⟩ (by decide) dX1_after_19 [] rfl (fun v h2 q => c_X0_passYear Z l _ _ q) ⟨Nat.le_of_ble_eq_true rfl, Nat.le_of_ble_eq_true rfl⟩ (rest := []) (Nat.le_of_ble_eq_true rfl) rfl (pc' := 22) rfl (fun x19 h19 => ?_)
    refine S_pop dX1_after_22 rfl (pc' := 23) rfl ?_
    refine S_iinc dX1_after_23 (q := 2) rfl (v := b3 + 1) rfl (by decide) (lo' := [(3, .int (b3 + 1)), (0, .ref (zb Z + a0)), (2, .int a2)]) rfl (pc' := 26) rfl ?_
    refine S_goto dX1_after_26 10 rfl ?_
    refine Sim.sub [1, 2, 0] rfl ?_
    exact hF _ _
theorem lq_X1_after_10 (Z : ZZ) (l : Launch) (a0 : Nat) (a2 : Int32) {args : Array Value} {h0 h1 : HP} {v0 : Nat} (K : HP → Option (Nat × HP))
    (hK : ∀ (h : HP), Sim Z l cX1_after RX1 4 5 113 (some (FieldType.object "LostBeforeSung$Isle")) "after" args (Mq Z args h0 h1 (some (.ref (zb Z + v0)))) h0 h1 v0 29 [(0, .ref (zb Z + a0))] [] h (K h)) :
    ∀ (k : Nat) (b3 : Int32) (h : HP), Sim Z l cX1_after RX1 4 5 113 (some (FieldType.object "LostBeforeSung$Isle")) "after" args (Mq Z args h0 h1 (some (.ref (zb Z + v0)))) h0 h1 v0 10 [(0, .ref (zb Z + a0)), (2, .int a2), (3, .int b3)] [] h (lp_X1_after_10 a0 a2 K k b3 h) := by
  intro k
  induction k with
  | zero => exact fun _ _ => Sim.none
  | succ k ih => exact lc_X1_after_10 Z l a0 a2 K _ hK ih
set_option maxRecDepth 100000 in
set_option maxHeartbeats 4000000 in
theorem c_X1_after (Z : ZZ) (l : Launch) (t : Nat) (a1 : Nat) (a2 : Int32) (h : HP) {v : Nat} {h1 : HP} (ho : f_X1_after t a1 a2 h = some (v, h1)) : MetP Z l yX1_after cX1_after 4 (some (FieldType.object "LostBeforeSung$Isle")) 5 113 [.ref (zb Z + t), .ref (zb Z + a1), .int a2] h (some (.ref (zb Z + v))) h1 := by
  refine MetP_of ho (by decide +kernel) (Nat.le_of_ble_eq_true rfl) [(0, .ref (zb Z + t)), (1, .ref (zb Z + a1)), (2, .int a2)] rfl (own := RX1) rfl (nm := "after") rfl ?_
  unfold f_X1_after
  refine S_aload_n dX1_after_0 rfl 0 rfl (pc' := 1) rfl ?_
  refine S_getR fl_X1_12 rfl dX1_after_1 (pc' := 4) rfl (fun x1 => ?_)
  refine S_aload_n dX1_after_4 rfl 1 rfl (pc' := 5) rfl ?_
  refine S_invv ml_X1_22 mi_X0_become (ci := 0) ⟨_, rfl, rfl⟩ (by decide) dX1_after_5 [.ref (zb Z + a1)] rfl (fun v h2 q => c_X0_become Z l _ _ _ q) ⟨Nat.le_of_ble_eq_true rfl, Nat.le_of_ble_eq_true rfl⟩ (rest := []) (Nat.le_of_ble_eq_true rfl) rfl (pc' := 8) rfl (fun _ h5 => ?_)
  refine S_iconst dX1_after_8 (v := 0) rfl (pc' := 9) rfl ?_
  refine S_istore_n dX1_after_9 rfl (by decide) (lo' := [(3, .int 0), (0, .ref (zb Z + t)), (1, .ref (zb Z + a1)), (2, .int a2)]) rfl (pc' := 10) rfl ?_
  refine Sim.sub [1, 3, 0] rfl ?_
  refine lq_X1_after_10 Z l t a2 _ ?_ 1000 _ _
  intro h10_
  refine S_aload_n dX1_after_29 rfl 0 rfl (pc' := 30) rfl ?_
  refine S_getR fl_X1_12 rfl dX1_after_30 (pc' := 33) rfl (fun x30 => ?_)
  exact S_aret rfl (Or.inl ⟨_, rfl⟩) dX1_after_33
theorem dX1_lossFromThen_0 : decode cX1_lossFromThen 0 = .ok (.iconst 0, 1) := by decide +kernel
theorem dX1_lossFromThen_1 : decode cX1_lossFromThen 1 = .ok (.istore_n 3, 1) := by decide +kernel
theorem dX1_lossFromThen_2 : decode cX1_lossFromThen 2 = .ok (.iload_n 3, 1) := by decide +kernel
theorem dX1_lossFromThen_3 : decode cX1_lossFromThen 3 = .ok (.iload_n 2, 1) := by decide +kernel
theorem dX1_lossFromThen_4 : decode cX1_lossFromThen 4 = .ok (.if_icmp .gt 31, 3) := by decide +kernel
theorem dX1_lossFromThen_7 : decode cX1_lossFromThen 7 = .ok (.aload_n 0, 1) := by decide +kernel
theorem dX1_lossFromThen_8 : decode cX1_lossFromThen 8 = .ok (.getfield 12, 3) := by decide +kernel
theorem dX1_lossFromThen_11 : decode cX1_lossFromThen 11 = .ok (.getfield 34, 3) := by decide +kernel
theorem dX1_lossFromThen_14 : decode cX1_lossFromThen 14 = .ok (.iload_n 1, 1) := by decide +kernel
theorem dX1_lossFromThen_15 : decode cX1_lossFromThen 15 = .ok (.iaload, 1) := by decide +kernel
theorem dX1_lossFromThen_16 : decode cX1_lossFromThen 16 = .ok (.ifCond .eq 5, 3) := by decide +kernel
theorem dX1_lossFromThen_19 : decode cX1_lossFromThen 19 = .ok (.iload_n 3, 1) := by decide +kernel
theorem dX1_lossFromThen_20 : decode cX1_lossFromThen 20 = .ok (.ireturn, 1) := by decide +kernel
theorem dX1_lossFromThen_21 : decode cX1_lossFromThen 21 = .ok (.aload_n 0, 1) := by decide +kernel
theorem dX1_lossFromThen_22 : decode cX1_lossFromThen 22 = .ok (.getfield 12, 3) := by decide +kernel
theorem dX1_lossFromThen_25 : decode cX1_lossFromThen 25 = .ok (.iload_n 1, 1) := by decide +kernel
theorem dX1_lossFromThen_26 : decode cX1_lossFromThen 26 = .ok (.invokevirtual 37, 3) := by decide +kernel
theorem dX1_lossFromThen_29 : decode cX1_lossFromThen 29 = .ok (.iinc 3 1, 3) := by decide +kernel
theorem dX1_lossFromThen_32 : decode cX1_lossFromThen 32 = .ok (.goto (-30), 3) := by decide +kernel
theorem dX1_lossFromThen_35 : decode cX1_lossFromThen 35 = .ok (.bipush 61, 2) := by decide +kernel
theorem dX1_lossFromThen_37 : decode cX1_lossFromThen 37 = .ok (.ireturn, 1) := by decide +kernel
set_option maxRecDepth 100000 in
set_option maxHeartbeats 4000000 in
theorem lc_X1_lossFromThen_2 (Z : ZZ) (l : Launch) (a0 : Nat) (a1 : Int32) (a2 : Int32) {args : Array Value} {h0 h1 : HP} {v0 : Int32} (K : HP → Option (Int32 × HP)) (F : Int32 → HP → Option (Int32 × HP))
    (hK : ∀ (h : HP), Sim Z l cX1_lossFromThen RX1 4 5 112 (some .int) "lossFromThen" args (Mq Z args h0 h1 (some (.int v0))) h0 h1 v0 35 [] [] h (K h))
    (hF : ∀ (b3 : Int32) (h : HP), Sim Z l cX1_lossFromThen RX1 4 5 112 (some .int) "lossFromThen" args (Mq Z args h0 h1 (some (.int v0))) h0 h1 v0 2 [(0, .ref (zb Z + a0)), (1, .int a1), (2, .int a2), (3, .int b3)] [] h (F b3 h)) :
    ∀ (b3 : Int32) (h : HP), Sim Z l cX1_lossFromThen RX1 4 5 112 (some .int) "lossFromThen" args (Mq Z args h0 h1 (some (.int v0))) h0 h1 v0 2 [(0, .ref (zb Z + a0)), (1, .int a1), (2, .int a2), (3, .int b3)] [] h (lb_X1_lossFromThen_2 a0 a1 a2 K F b3 h) := by
  intro b3 h
  unfold lb_X1_lossFromThen_2
  refine S_iload_n dX1_lossFromThen_2 rfl 3 rfl (pc' := 3) rfl ?_
  refine S_iload_n dX1_lossFromThen_3 rfl 2 rfl (pc' := 4) rfl ?_
  refine S_icmp_gt dX1_lossFromThen_4 35 rfl (pc' := 7) rfl (fun g4 => ?_) (fun g4 => ?_)
  · refine Sim.sub [] rfl ?_
    exact hK _
  · refine S_aload_n dX1_lossFromThen_7 rfl 0 rfl (pc' := 8) rfl ?_
    refine S_getR fl_X1_12 rfl dX1_lossFromThen_8 (pc' := 11) rfl (fun x8 => ?_)
    refine S_getR fl_X1_34 rfl dX1_lossFromThen_11 (pc' := 14) rfl (fun x11 => ?_)
    refine S_iload_n dX1_lossFromThen_14 rfl 1 rfl (pc' := 15) rfl ?_
    refine S_iaload dX1_lossFromThen_15 (pc' := 16) rfl (fun x15 => ?_)
    refine S_if_eq dX1_lossFromThen_16 21 rfl (pc' := 19) rfl (fun g16 => ?_) (fun g16 => ?_)
    · refine S_aload_n dX1_lossFromThen_21 rfl 0 rfl (pc' := 22) rfl ?_
      refine S_getR fl_X1_12 rfl dX1_lossFromThen_22 (pc' := 25) rfl (fun x22 => ?_)
      refine S_iload_n dX1_lossFromThen_25 rfl 1 rfl (pc' := 26) rfl ?_
      refine S_invv ml_X1_37 mi_X0_passYearOf (ci := 0) ⟨_, rfl, rfl⟩ (by decide) dX1_lossFromThen_26 [.int a1] rfl (fun v h2 q => c_X0_passYearOf Z l _ _ _ q) ⟨Nat.le_of_ble_eq_true rfl, Nat.le_of_ble_eq_true rfl⟩ (rest := []) (Nat.le_of_ble_eq_true rfl) rfl (pc' := 29) rfl (fun _ h26 => ?_)
      refine S_iinc dX1_lossFromThen_29 (q := 3) rfl (v := b3 + 1) rfl (by decide) (lo' := [(3, .int (b3 + 1)), (0, .ref (zb Z + a0)), (1, .int a1), (2, .int a2)]) rfl (pc' := 32) rfl ?_
      refine S_goto dX1_lossFromThen_32 2 rfl ?_
      refine Sim.sub [1, 2, 3, 0] rfl ?_
      exact hF _ _
    · refine S_iload_n dX1_lossFromThen_19 rfl 3 rfl (pc' := 20) rfl ?_
      exact S_iret rfl dX1_lossFromThen_20
theorem lq_X1_lossFromThen_2 (Z : ZZ) (l : Launch) (a0 : Nat) (a1 : Int32) (a2 : Int32) {args : Array Value} {h0 h1 : HP} {v0 : Int32} (K : HP → Option (Int32 × HP))
    (hK : ∀ (h : HP), Sim Z l cX1_lossFromThen RX1 4 5 112 (some .int) "lossFromThen" args (Mq Z args h0 h1 (some (.int v0))) h0 h1 v0 35 [] [] h (K h)) :
    ∀ (k : Nat) (b3 : Int32) (h : HP), Sim Z l cX1_lossFromThen RX1 4 5 112 (some .int) "lossFromThen" args (Mq Z args h0 h1 (some (.int v0))) h0 h1 v0 2 [(0, .ref (zb Z + a0)), (1, .int a1), (2, .int a2), (3, .int b3)] [] h (lp_X1_lossFromThen_2 a0 a1 a2 K k b3 h) := by
  intro k
  induction k with
  | zero => exact fun _ _ => Sim.none
  | succ k ih => exact lc_X1_lossFromThen_2 Z l a0 a1 a2 K _ hK ih
set_option maxRecDepth 100000 in
set_option maxHeartbeats 4000000 in
theorem c_X1_lossFromThen (Z : ZZ) (l : Launch) (t : Nat) (a1 : Int32) (a2 : Int32) (h : HP) {v : Int32} {h1 : HP} (ho : f_X1_lossFromThen t a1 a2 h = some (v, h1)) : MetP Z l yX1_lossFromThen cX1_lossFromThen 4 (some .int) 5 112 [.ref (zb Z + t), .int a1, .int a2] h (some (.int v)) h1 := by
  refine MetP_of ho (by decide +kernel) (Nat.le_of_ble_eq_true rfl) [(0, .ref (zb Z + t)), (1, .int a1), (2, .int a2)] rfl (own := RX1) rfl (nm := "lossFromThen") rfl ?_
  unfold f_X1_lossFromThen
  refine S_iconst dX1_lossFromThen_0 (v := 0) rfl (pc' := 1) rfl ?_
  refine S_istore_n dX1_lossFromThen_1 rfl (by decide) (lo' := [(3, .int 0), (0, .ref (zb Z + t)), (1, .int a1), (2, .int a2)]) rfl (pc' := 2) rfl ?_
  refine Sim.sub [1, 2, 3, 0] rfl ?_
  refine lq_X1_lossFromThen_2 Z l t a1 a2 _ ?_ 1000 _ _
  intro h2_
  refine S_bipush dX1_lossFromThen_35 (v := 61) rfl (pc' := 37) rfl ?_
  exact S_iret rfl dX1_lossFromThen_37
theorem dX1_lossIn_0 : decode cX1_lossIn 0 = .ok (.aload_n 0, 1) := by decide +kernel
theorem dX1_lossIn_1 : decode cX1_lossIn 1 = .ok (.getfield 12, 3) := by decide +kernel
theorem dX1_lossIn_4 : decode cX1_lossIn 4 = .ok (.aload_n 1, 1) := by decide +kernel
theorem dX1_lossIn_5 : decode cX1_lossIn 5 = .ok (.invokevirtual 22, 3) := by decide +kernel
theorem dX1_lossIn_8 : decode cX1_lossIn 8 = .ok (.aload_n 0, 1) := by decide +kernel
theorem dX1_lossIn_9 : decode cX1_lossIn 9 = .ok (.iload_n 2, 1) := by decide +kernel
theorem dX1_lossIn_10 : decode cX1_lossIn 10 = .ok (.bipush 60, 2) := by decide +kernel
theorem dX1_lossIn_12 : decode cX1_lossIn 12 = .ok (.invokevirtual 30, 3) := by decide +kernel
theorem dX1_lossIn_15 : decode cX1_lossIn 15 = .ok (.ireturn, 1) := by decide +kernel
set_option maxRecDepth 100000 in
set_option maxHeartbeats 4000000 in
theorem c_X1_lossIn (Z : ZZ) (l : Launch) (t : Nat) (a1 : Nat) (a2 : Int32) (h : HP) {v : Int32} {h1 : HP} (ho : f_X1_lossIn t a1 a2 h = some (v, h1)) : MetP Z l yX1_lossIn cX1_lossIn 3 (some .int) 6 135 [.ref (zb Z + t), .ref (zb Z + a1), .int a2] h (some (.int v)) h1 := by
  refine MetP_of ho (by decide +kernel) (Nat.le_of_ble_eq_true rfl) [(0, .ref (zb Z + t)), (1, .ref (zb Z + a1)), (2, .int a2)] rfl (own := RX1) rfl (nm := "lossIn") rfl ?_
  unfold f_X1_lossIn
  refine S_aload_n dX1_lossIn_0 rfl 0 rfl (pc' := 1) rfl ?_
  refine S_getR fl_X1_12 rfl dX1_lossIn_1 (pc' := 4) rfl (fun x1 => ?_)
  refine S_aload_n dX1_lossIn_4 rfl 1 rfl (pc' := 5) rfl ?_
  refine S_invv ml_X1_22 mi_X0_become (ci := 0) ⟨_, rfl, rfl⟩ (by decide) dX1_lossIn_5 [.ref (zb Z + a1)] rfl (fun v h2 q => c_X0_become Z l _ _ _ q) ⟨Nat.le_of_ble_eq_true rfl, Nat.le_of_ble_eq_true rfl⟩ (rest := []) (Nat.le_of_ble_eq_true rfl) rfl (pc' := 8) rfl (fun _ h5 => ?_)
  refine S_aload_n dX1_lossIn_8 rfl 0 rfl (pc' := 9) rfl ?_
  refine S_iload_n dX1_lossIn_9 rfl 2 rfl (pc' := 10) rfl ?_
  refine S_bipush dX1_lossIn_10 (v := 60) rfl (pc' := 12) rfl ?_
  refine S_invi ml_X1_30 mi_X1_lossFromThen (ci := 1) ⟨_, rfl, rfl⟩ (by decide) dX1_lossIn_12 [.int a2, .int 60] rfl (fun v h2 q => c_X1_lossFromThen Z l _ _ _ _ q) ⟨Nat.le_of_ble_eq_true rfl, Nat.le_of_ble_eq_true rfl⟩ (rest := []) (Nat.le_of_ble_eq_true rfl) rfl (pc' := 15) rfl (fun x12 h12 => ?_)
  exact S_iret rfl dX1_lossIn_15
theorem dX1_findIn_0 : decode cX1_findIn 0 = .ok (.aload_n 0, 1) := by decide +kernel
theorem dX1_findIn_1 : decode cX1_findIn 1 = .ok (.getfield 12, 3) := by decide +kernel
theorem dX1_findIn_4 : decode cX1_findIn 4 = .ok (.aload_n 1, 1) := by decide +kernel
theorem dX1_findIn_5 : decode cX1_findIn 5 = .ok (.invokevirtual 22, 3) := by decide +kernel
theorem dX1_findIn_8 : decode cX1_findIn 8 = .ok (.iconst 0, 1) := by decide +kernel
theorem dX1_findIn_9 : decode cX1_findIn 9 = .ok (.istore_n 3, 1) := by decide +kernel
theorem dX1_findIn_10 : decode cX1_findIn 10 = .ok (.iload_n 3, 1) := by decide +kernel
theorem dX1_findIn_11 : decode cX1_findIn 11 = .ok (.bipush 60, 2) := by decide +kernel
theorem dX1_findIn_13 : decode cX1_findIn 13 = .ok (.if_icmp .gt 32, 3) := by decide +kernel
theorem dX1_findIn_16 : decode cX1_findIn 16 = .ok (.aload_n 0, 1) := by decide +kernel
theorem dX1_findIn_17 : decode cX1_findIn 17 = .ok (.getfield 12, 3) := by decide +kernel
theorem dX1_findIn_20 : decode cX1_findIn 20 = .ok (.getfield 34, 3) := by decide +kernel
theorem dX1_findIn_23 : decode cX1_findIn 23 = .ok (.iload_n 2, 1) := by decide +kernel
theorem dX1_findIn_24 : decode cX1_findIn 24 = .ok (.iaload, 1) := by decide +kernel
theorem dX1_findIn_25 : decode cX1_findIn 25 = .ok (.iconst 2, 1) := by decide +kernel
theorem dX1_findIn_26 : decode cX1_findIn 26 = .ok (.if_icmp .ne 5, 3) := by decide +kernel
theorem dX1_findIn_29 : decode cX1_findIn 29 = .ok (.iload_n 3, 1) := by decide +kernel
theorem dX1_findIn_30 : decode cX1_findIn 30 = .ok (.ireturn, 1) := by decide +kernel
theorem dX1_findIn_31 : decode cX1_findIn 31 = .ok (.aload_n 0, 1) := by decide +kernel
theorem dX1_findIn_32 : decode cX1_findIn 32 = .ok (.getfield 12, 3) := by decide +kernel
theorem dX1_findIn_35 : decode cX1_findIn 35 = .ok (.iload_n 2, 1) := by decide +kernel
theorem dX1_findIn_36 : decode cX1_findIn 36 = .ok (.invokevirtual 37, 3) := by decide +kernel
theorem dX1_findIn_39 : decode cX1_findIn 39 = .ok (.iinc 3 1, 3) := by decide +kernel
theorem dX1_findIn_42 : decode cX1_findIn 42 = .ok (.goto (-32), 3) := by decide +kernel
theorem dX1_findIn_45 : decode cX1_findIn 45 = .ok (.bipush 61, 2) := by decide +kernel
theorem dX1_findIn_47 : decode cX1_findIn 47 = .ok (.ireturn, 1) := by decide +kernel
set_option maxRecDepth 100000 in
set_option maxHeartbeats 4000000 in
theorem lc_X1_findIn_10 (Z : ZZ) (l : Launch) (a0 : Nat) (a2 : Int32) {args : Array Value} {h0 h1 : HP} {v0 : Int32} (K : HP → Option (Int32 × HP)) (F : Int32 → HP → Option (Int32 × HP))
    (hK : ∀ (h : HP), Sim Z l cX1_findIn RX1 4 5 112 (some .int) "findIn" args (Mq Z args h0 h1 (some (.int v0))) h0 h1 v0 45 [] [] h (K h))
    (hF : ∀ (b3 : Int32) (h : HP), Sim Z l cX1_findIn RX1 4 5 112 (some .int) "findIn" args (Mq Z args h0 h1 (some (.int v0))) h0 h1 v0 10 [(0, .ref (zb Z + a0)), (2, .int a2), (3, .int b3)] [] h (F b3 h)) :
    ∀ (b3 : Int32) (h : HP), Sim Z l cX1_findIn RX1 4 5 112 (some .int) "findIn" args (Mq Z args h0 h1 (some (.int v0))) h0 h1 v0 10 [(0, .ref (zb Z + a0)), (2, .int a2), (3, .int b3)] [] h (lb_X1_findIn_10 a0 a2 K F b3 h) := by
  intro b3 h
  unfold lb_X1_findIn_10
  refine S_iload_n dX1_findIn_10 rfl 2 rfl (pc' := 11) rfl ?_
  refine S_bipush dX1_findIn_11 (v := 60) rfl (pc' := 13) rfl ?_
  refine S_icmp_gt dX1_findIn_13 45 rfl (pc' := 16) rfl (fun g13 => ?_) (fun g13 => ?_)
  · refine Sim.sub [] rfl ?_
    exact hK _
  · refine S_aload_n dX1_findIn_16 rfl 0 rfl (pc' := 17) rfl ?_
    refine S_getR fl_X1_12 rfl dX1_findIn_17 (pc' := 20) rfl (fun x17 => ?_)
    refine S_getR fl_X1_34 rfl dX1_findIn_20 (pc' := 23) rfl (fun x20 => ?_)
    refine S_iload_n dX1_findIn_23 rfl 1 rfl (pc' := 24) rfl ?_
    refine S_iaload dX1_findIn_24 (pc' := 25) rfl (fun x24 => ?_)
    refine S_iconst dX1_findIn_25 (v := 2) rfl (pc' := 26) rfl ?_
    refine S_icmp_ne dX1_findIn_26 31 rfl (pc' := 29) rfl (fun g26 => ?_) (fun g26 => ?_)
    · refine S_aload_n dX1_findIn_31 rfl 0 rfl (pc' := 32) rfl ?_
      refine S_getR fl_X1_12 rfl dX1_findIn_32 (pc' := 35) rfl (fun x32 => ?_)
      refine S_iload_n dX1_findIn_35 rfl 1 rfl (pc' := 36) rfl ?_
      refine S_invv ml_X1_37 mi_X0_passYearOf (ci := 0) ⟨_, rfl, rfl⟩ (by decide) dX1_findIn_36 [.int a2] rfl (fun v h2 q => c_X0_passYearOf Z l _ _ _ q) ⟨Nat.le_of_ble_eq_true rfl, Nat.le_of_ble_eq_true rfl⟩ (rest := []) (Nat.le_of_ble_eq_true rfl) rfl (pc' := 39) rfl (fun _ h36 => ?_)
      refine S_iinc dX1_findIn_39 (q := 2) rfl (v := b3 + 1) rfl (by decide) (lo' := [(3, .int (b3 + 1)), (0, .ref (zb Z + a0)), (2, .int a2)]) rfl (pc' := 42) rfl ?_
      refine S_goto dX1_findIn_42 10 rfl ?_
      refine Sim.sub [1, 2, 0] rfl ?_
      exact hF _ _
    · refine S_iload_n dX1_findIn_29 rfl 2 rfl (pc' := 30) rfl ?_
      exact S_iret rfl dX1_findIn_30
theorem lq_X1_findIn_10 (Z : ZZ) (l : Launch) (a0 : Nat) (a2 : Int32) {args : Array Value} {h0 h1 : HP} {v0 : Int32} (K : HP → Option (Int32 × HP))
    (hK : ∀ (h : HP), Sim Z l cX1_findIn RX1 4 5 112 (some .int) "findIn" args (Mq Z args h0 h1 (some (.int v0))) h0 h1 v0 45 [] [] h (K h)) :
    ∀ (k : Nat) (b3 : Int32) (h : HP), Sim Z l cX1_findIn RX1 4 5 112 (some .int) "findIn" args (Mq Z args h0 h1 (some (.int v0))) h0 h1 v0 10 [(0, .ref (zb Z + a0)), (2, .int a2), (3, .int b3)] [] h (lp_X1_findIn_10 a0 a2 K k b3 h) := by
  intro k
  induction k with
  | zero => exact fun _ _ => Sim.none
  | succ k ih => exact lc_X1_findIn_10 Z l a0 a2 K _ hK ih
set_option maxRecDepth 100000 in
set_option maxHeartbeats 4000000 in
theorem c_X1_findIn (Z : ZZ) (l : Launch) (t : Nat) (a1 : Nat) (a2 : Int32) (h : HP) {v : Int32} {h1 : HP} (ho : f_X1_findIn t a1 a2 h = some (v, h1)) : MetP Z l yX1_findIn cX1_findIn 4 (some .int) 5 112 [.ref (zb Z + t), .ref (zb Z + a1), .int a2] h (some (.int v)) h1 := by
  refine MetP_of ho (by decide +kernel) (Nat.le_of_ble_eq_true rfl) [(0, .ref (zb Z + t)), (1, .ref (zb Z + a1)), (2, .int a2)] rfl (own := RX1) rfl (nm := "findIn") rfl ?_
  unfold f_X1_findIn
  refine S_aload_n dX1_findIn_0 rfl 0 rfl (pc' := 1) rfl ?_
  refine S_getR fl_X1_12 rfl dX1_findIn_1 (pc' := 4) rfl (fun x1 => ?_)
  refine S_aload_n dX1_findIn_4 rfl 1 rfl (pc' := 5) rfl ?_
  refine S_invv ml_X1_22 mi_X0_become (ci := 0) ⟨_, rfl, rfl⟩ (by decide) dX1_findIn_5 [.ref (zb Z + a1)] rfl (fun v h2 q => c_X0_become Z l _ _ _ q) ⟨Nat.le_of_ble_eq_true rfl, Nat.le_of_ble_eq_true rfl⟩ (rest := []) (Nat.le_of_ble_eq_true rfl) rfl (pc' := 8) rfl (fun _ h5 => ?_)
  refine S_iconst dX1_findIn_8 (v := 0) rfl (pc' := 9) rfl ?_
  refine S_istore_n dX1_findIn_9 rfl (by decide) (lo' := [(3, .int 0), (0, .ref (zb Z + t)), (1, .ref (zb Z + a1)), (2, .int a2)]) rfl (pc' := 10) rfl ?_
  refine Sim.sub [1, 3, 0] rfl ?_
  refine lq_X1_findIn_10 Z l t a2 _ ?_ 1000 _ _
  intro h10_
  refine S_bipush dX1_findIn_45 (v := 61) rfl (pc' := 47) rfl ?_
  exact S_iret rfl dX1_findIn_47
theorem dX1_forgetIn_0 : decode cX1_forgetIn 0 = .ok (.aload_n 0, 1) := by decide +kernel
theorem dX1_forgetIn_1 : decode cX1_forgetIn 1 = .ok (.getfield 12, 3) := by decide +kernel
theorem dX1_forgetIn_4 : decode cX1_forgetIn 4 = .ok (.aload_n 1, 1) := by decide +kernel
theorem dX1_forgetIn_5 : decode cX1_forgetIn 5 = .ok (.invokevirtual 22, 3) := by decide +kernel
theorem dX1_forgetIn_8 : decode cX1_forgetIn 8 = .ok (.iconst 0, 1) := by decide +kernel
theorem dX1_forgetIn_9 : decode cX1_forgetIn 9 = .ok (.istore 4, 2) := by decide +kernel
theorem dX1_forgetIn_11 : decode cX1_forgetIn 11 = .ok (.iload 4, 2) := by decide +kernel
theorem dX1_forgetIn_13 : decode cX1_forgetIn 13 = .ok (.bipush 60, 2) := by decide +kernel
theorem dX1_forgetIn_15 : decode cX1_forgetIn 15 = .ok (.if_icmp .gt 33, 3) := by decide +kernel
theorem dX1_forgetIn_18 : decode cX1_forgetIn 18 = .ok (.aload_n 0, 1) := by decide +kernel
theorem dX1_forgetIn_19 : decode cX1_forgetIn 19 = .ok (.getfield 12, 3) := by decide +kernel
theorem dX1_forgetIn_22 : decode cX1_forgetIn 22 = .ok (.iload_n 2, 1) := by decide +kernel
theorem dX1_forgetIn_23 : decode cX1_forgetIn 23 = .ok (.iload_n 3, 1) := by decide +kernel
theorem dX1_forgetIn_24 : decode cX1_forgetIn 24 = .ok (.invokevirtual 41, 3) := by decide +kernel
theorem dX1_forgetIn_27 : decode cX1_forgetIn 27 = .ok (.iconst (-1), 1) := by decide +kernel
theorem dX1_forgetIn_28 : decode cX1_forgetIn 28 = .ok (.if_icmp .ne 6, 3) := by decide +kernel
theorem dX1_forgetIn_31 : decode cX1_forgetIn 31 = .ok (.iload 4, 2) := by decide +kernel
theorem dX1_forgetIn_33 : decode cX1_forgetIn 33 = .ok (.ireturn, 1) := by decide +kernel
theorem dX1_forgetIn_34 : decode cX1_forgetIn 34 = .ok (.aload_n 0, 1) := by decide +kernel
theorem dX1_forgetIn_35 : decode cX1_forgetIn 35 = .ok (.getfield 12, 3) := by decide +kernel
theorem dX1_forgetIn_38 : decode cX1_forgetIn 38 = .ok (.iload_n 3, 1) := by decide +kernel
theorem dX1_forgetIn_39 : decode cX1_forgetIn 39 = .ok (.invokevirtual 37, 3) := by decide +kernel
theorem dX1_forgetIn_42 : decode cX1_forgetIn 42 = .ok (.iinc 4 1, 3) := by decide +kernel
theorem dX1_forgetIn_45 : decode cX1_forgetIn 45 = .ok (.goto (-34), 3) := by decide +kernel
theorem dX1_forgetIn_48 : decode cX1_forgetIn 48 = .ok (.bipush 61, 2) := by decide +kernel
theorem dX1_forgetIn_50 : decode cX1_forgetIn 50 = .ok (.ireturn, 1) := by decide +kernel
set_option maxRecDepth 100000 in
set_option maxHeartbeats 4000000 in
theorem lc_X1_forgetIn_11 (Z : ZZ) (l : Launch) (a0 : Nat) (a2 : Int32) (a3 : Int32) {args : Array Value} {h0 h1 : HP} {v0 : Int32} (K : HP → Option (Int32 × HP)) (F : Int32 → HP → Option (Int32 × HP))
    (hK : ∀ (h : HP), Sim Z l cX1_forgetIn RX1 5 5 112 (some .int) "forgetIn" args (Mq Z args h0 h1 (some (.int v0))) h0 h1 v0 48 [] [] h (K h))
    (hF : ∀ (b4 : Int32) (h : HP), Sim Z l cX1_forgetIn RX1 5 5 112 (some .int) "forgetIn" args (Mq Z args h0 h1 (some (.int v0))) h0 h1 v0 11 [(0, .ref (zb Z + a0)), (2, .int a2), (3, .int a3), (4, .int b4)] [] h (F b4 h)) :
    ∀ (b4 : Int32) (h : HP), Sim Z l cX1_forgetIn RX1 5 5 112 (some .int) "forgetIn" args (Mq Z args h0 h1 (some (.int v0))) h0 h1 v0 11 [(0, .ref (zb Z + a0)), (2, .int a2), (3, .int a3), (4, .int b4)] [] h (lb_X1_forgetIn_11 a0 a2 a3 K F b4 h) := by
  intro b4 h
  unfold lb_X1_forgetIn_11
  refine S_iload dX1_forgetIn_11 3 rfl (pc' := 13) rfl ?_
  refine S_bipush dX1_forgetIn_13 (v := 60) rfl (pc' := 15) rfl ?_
  refine S_icmp_gt dX1_forgetIn_15 48 rfl (pc' := 18) rfl (fun g15 => ?_) (fun g15 => ?_)
  · refine Sim.sub [] rfl ?_
    exact hK _
  · refine S_aload_n dX1_forgetIn_18 rfl 0 rfl (pc' := 19) rfl ?_
    refine S_getR fl_X1_12 rfl dX1_forgetIn_19 (pc' := 22) rfl (fun x19 => ?_)
    refine S_iload_n dX1_forgetIn_22 rfl 1 rfl (pc' := 23) rfl ?_
    refine S_iload_n dX1_forgetIn_23 rfl 2 rfl (pc' := 24) rfl ?_
    refine S_invi ml_X1_41 mi_X0_heldFor (ci := 0) ⟨_, rfl, rfl⟩ (by decide) dX1_forgetIn_24 [.int a2, .int a3] rfl (fun v h2 q => c_X0_heldFor Z l _ _ _ _ q) ⟨Nat.le_of_ble_eq_true rfl, Nat.le_of_ble_eq_true rfl⟩ (rest := []) (Nat.le_of_ble_eq_true rfl) rfl (pc' := 27) rfl (fun x24 h24 => ?_)
    refine S_iconst dX1_forgetIn_27 (v := (-1)) rfl (pc' := 28) rfl ?_
    refine S_icmp_ne dX1_forgetIn_28 34 rfl (pc' := 31) rfl (fun g28 => ?_) (fun g28 => ?_)
    · refine S_aload_n dX1_forgetIn_34 rfl 0 rfl (pc' := 35) rfl ?_
      refine S_getR fl_X1_12 rfl dX1_forgetIn_35 (pc' := 38) rfl (fun x35 => ?_)
      refine S_iload_n dX1_forgetIn_38 rfl 2 rfl (pc' := 39) rfl ?_
      refine S_invv ml_X1_37 mi_X0_passYearOf (ci := 0) ⟨_, rfl, rfl⟩ (by decide) dX1_forgetIn_39 [.int a3] rfl (fun v h2 q => c_X0_passYearOf Z l _ _ _ q) ⟨Nat.le_of_ble_eq_true rfl, Nat.le_of_ble_eq_true rfl⟩ (rest := []) (Nat.le_of_ble_eq_true rfl) rfl (pc' := 42) rfl (fun _ h39 => ?_)
      refine S_iinc dX1_forgetIn_42 (q := 3) rfl (v := b4 + 1) rfl (by decide) (lo' := [(4, .int (b4 + 1)), (0, .ref (zb Z + a0)), (2, .int a2), (3, .int a3)]) rfl (pc' := 45) rfl ?_
      refine S_goto dX1_forgetIn_45 11 rfl ?_
      refine Sim.sub [1, 2, 3, 0] rfl ?_
      exact hF _ _
    · refine S_iload dX1_forgetIn_31 3 rfl (pc' := 33) rfl ?_
      exact S_iret rfl dX1_forgetIn_33
theorem lq_X1_forgetIn_11 (Z : ZZ) (l : Launch) (a0 : Nat) (a2 : Int32) (a3 : Int32) {args : Array Value} {h0 h1 : HP} {v0 : Int32} (K : HP → Option (Int32 × HP))
    (hK : ∀ (h : HP), Sim Z l cX1_forgetIn RX1 5 5 112 (some .int) "forgetIn" args (Mq Z args h0 h1 (some (.int v0))) h0 h1 v0 48 [] [] h (K h)) :
    ∀ (k : Nat) (b4 : Int32) (h : HP), Sim Z l cX1_forgetIn RX1 5 5 112 (some .int) "forgetIn" args (Mq Z args h0 h1 (some (.int v0))) h0 h1 v0 11 [(0, .ref (zb Z + a0)), (2, .int a2), (3, .int a3), (4, .int b4)] [] h (lp_X1_forgetIn_11 a0 a2 a3 K k b4 h) := by
  intro k
  induction k with
  | zero => exact fun _ _ => Sim.none
  | succ k ih => exact lc_X1_forgetIn_11 Z l a0 a2 a3 K _ hK ih
set_option maxRecDepth 100000 in
set_option maxHeartbeats 4000000 in
theorem c_X1_forgetIn (Z : ZZ) (l : Launch) (t : Nat) (a1 : Nat) (a2 : Int32) (a3 : Int32) (h : HP) {v : Int32} {h1 : HP} (ho : f_X1_forgetIn t a1 a2 a3 h = some (v, h1)) : MetP Z l yX1_forgetIn cX1_forgetIn 5 (some .int) 5 112 [.ref (zb Z + t), .ref (zb Z + a1), .int a2, .int a3] h (some (.int v)) h1 := by
  refine MetP_of ho (by decide +kernel) (Nat.le_of_ble_eq_true rfl) [(0, .ref (zb Z + t)), (1, .ref (zb Z + a1)), (2, .int a2), (3, .int a3)] rfl (own := RX1) rfl (nm := "forgetIn") rfl ?_
  unfold f_X1_forgetIn
  refine S_aload_n dX1_forgetIn_0 rfl 0 rfl (pc' := 1) rfl ?_
  refine S_getR fl_X1_12 rfl dX1_forgetIn_1 (pc' := 4) rfl (fun x1 => ?_)
  refine S_aload_n dX1_forgetIn_4 rfl 1 rfl (pc' := 5) rfl ?_
  refine S_invv ml_X1_22 mi_X0_become (ci := 0) ⟨_, rfl, rfl⟩ (by decide) dX1_forgetIn_5 [.ref (zb Z + a1)] rfl (fun v h2 q => c_X0_become Z l _ _ _ q) ⟨Nat.le_of_ble_eq_true rfl, Nat.le_of_ble_eq_true rfl⟩ (rest := []) (Nat.le_of_ble_eq_true rfl) rfl (pc' := 8) rfl (fun _ h5 => ?_)
  refine S_iconst dX1_forgetIn_8 (v := 0) rfl (pc' := 9) rfl ?_
  refine S_istore dX1_forgetIn_9 (by decide) (lo' := [(4, .int 0), (0, .ref (zb Z + t)), (1, .ref (zb Z + a1)), (2, .int a2), (3, .int a3)]) rfl (pc' := 11) rfl ?_
  refine Sim.sub [1, 3, 4, 0] rfl ?_
  refine lq_X1_forgetIn_11 Z l t a2 a3 _ ?_ 1000 _ _
  intro h11_
  refine S_bipush dX1_forgetIn_48 (v := 61) rfl (pc' := 50) rfl ?_
  exact S_iret rfl dX1_forgetIn_50
theorem dX1_lastHavers_0 : decode cX1_lastHavers 0 = .ok (.aload_n 1, 1) := by decide +kernel
theorem dX1_lastHavers_1 : decode cX1_lastHavers 1 = .ok (.getfield 34, 3) := by decide +kernel
theorem dX1_lastHavers_4 : decode cX1_lastHavers 4 = .ok (.iload_n 2, 1) := by decide +kernel
theorem dX1_lastHavers_5 : decode cX1_lastHavers 5 = .ok (.iaload, 1) := by decide +kernel
theorem dX1_lastHavers_6 : decode cX1_lastHavers 6 = .ok (.ifCond .eq 5, 3) := by decide +kernel
theorem dX1_lastHavers_9 : decode cX1_lastHavers 9 = .ok (.iconst (-1), 1) := by decide +kernel
theorem dX1_lastHavers_10 : decode cX1_lastHavers 10 = .ok (.ireturn, 1) := by decide +kernel
theorem dX1_lastHavers_11 : decode cX1_lastHavers 11 = .ok (.aload_n 0, 1) := by decide +kernel
theorem dX1_lastHavers_12 : decode cX1_lastHavers 12 = .ok (.getfield 12, 3) := by decide +kernel
theorem dX1_lastHavers_15 : decode cX1_lastHavers 15 = .ok (.aload_n 1, 1) := by decide +kernel
theorem dX1_lastHavers_16 : decode cX1_lastHavers 16 = .ok (.invokevirtual 22, 3) := by decide +kernel
theorem dX1_lastHavers_19 : decode cX1_lastHavers 19 = .ok (.iconst 1, 1) := by decide +kernel
theorem dX1_lastHavers_20 : decode cX1_lastHavers 20 = .ok (.istore_n 3, 1) := by decide +kernel
theorem dX1_lastHavers_21 : decode cX1_lastHavers 21 = .ok (.iload_n 3, 1) := by decide +kernel
theorem dX1_lastHavers_22 : decode cX1_lastHavers 22 = .ok (.bipush 60, 2) := by decide +kernel
theorem dX1_lastHavers_24 : decode cX1_lastHavers 24 = .ok (.if_icmp .gt 42, 3) := by decide +kernel
theorem dX1_lastHavers_27 : decode cX1_lastHavers 27 = .ok (.aload_n 0, 1) := by decide +kernel
theorem dX1_lastHavers_28 : decode cX1_lastHavers 28 = .ok (.getfield 12, 3) := by decide +kernel
theorem dX1_lastHavers_31 : decode cX1_lastHavers 31 = .ok (.iload_n 2, 1) := by decide +kernel
theorem dX1_lastHavers_32 : decode cX1_lastHavers 32 = .ok (.invokevirtual 44, 3) := by decide +kernel
theorem dX1_lastHavers_35 : decode cX1_lastHavers 35 = .ok (.istore 4, 2) := by decide +kernel
theorem dX1_lastHavers_37 : decode cX1_lastHavers 37 = .ok (.aload_n 0, 1) := by decide +kernel
theorem dX1_lastHavers_38 : decode cX1_lastHavers 38 = .ok (.getfield 12, 3) := by decide +kernel
theorem dX1_lastHavers_41 : decode cX1_lastHavers 41 = .ok (.iload_n 2, 1) := by decide +kernel
theorem dX1_lastHavers_42 : decode cX1_lastHavers 42 = .ok (.invokevirtual 37, 3) := by decide +kernel
theorem dX1_lastHavers_45 : decode cX1_lastHavers 45 = .ok (.aload_n 0, 1) := by decide +kernel
theorem dX1_lastHavers_46 : decode cX1_lastHavers 46 = .ok (.getfield 12, 3) := by decide +kernel
theorem dX1_lastHavers_49 : decode cX1_lastHavers 49 = .ok (.getfield 34, 3) := by decide +kernel
theorem dX1_lastHavers_52 : decode cX1_lastHavers 52 = .ok (.iload_n 2, 1) := by decide +kernel
theorem dX1_lastHavers_53 : decode cX1_lastHavers 53 = .ok (.iaload, 1) := by decide +kernel
theorem dX1_lastHavers_54 : decode cX1_lastHavers 54 = .ok (.ifCond .eq 6, 3) := by decide +kernel
theorem dX1_lastHavers_57 : decode cX1_lastHavers 57 = .ok (.iload 4, 2) := by decide +kernel
theorem dX1_lastHavers_59 : decode cX1_lastHavers 59 = .ok (.ireturn, 1) := by decide +kernel
theorem dX1_lastHavers_60 : decode cX1_lastHavers 60 = .ok (.iinc 3 1, 3) := by decide +kernel
theorem dX1_lastHavers_63 : decode cX1_lastHavers 63 = .ok (.goto (-42), 3) := by decide +kernel
theorem dX1_lastHavers_66 : decode cX1_lastHavers 66 = .ok (.iconst (-1), 1) := by decide +kernel
theorem dX1_lastHavers_67 : decode cX1_lastHavers 67 = .ok (.ireturn, 1) := by decide +kernel
set_option maxRecDepth 100000 in
set_option maxHeartbeats 4000000 in
theorem lc_X1_lastHavers_21 (Z : ZZ) (l : Launch) (a0 : Nat) (a2 : Int32) {args : Array Value} {h0 h1 : HP} {v0 : Int32} (K : HP → Option (Int32 × HP)) (F : Int32 → HP → Option (Int32 × HP))
    (hK : ∀ (h : HP), Sim Z l cX1_lastHavers RX1 5 5 112 (some .int) "lastHavers" args (Mq Z args h0 h1 (some (.int v0))) h0 h1 v0 66 [] [] h (K h))
    (hF : ∀ (b3 : Int32) (h : HP), Sim Z l cX1_lastHavers RX1 5 5 112 (some .int) "lastHavers" args (Mq Z args h0 h1 (some (.int v0))) h0 h1 v0 21 [(0, .ref (zb Z + a0)), (2, .int a2), (3, .int b3)] [] h (F b3 h)) :
    ∀ (b3 : Int32) (h : HP), Sim Z l cX1_lastHavers RX1 5 5 112 (some .int) "lastHavers" args (Mq Z args h0 h1 (some (.int v0))) h0 h1 v0 21 [(0, .ref (zb Z + a0)), (2, .int a2), (3, .int b3)] [] h (lb_X1_lastHavers_21 a0 a2 K F b3 h) := by
  intro b3 h
  unfold lb_X1_lastHavers_21
  refine S_iload_n dX1_lastHavers_21 rfl 2 rfl (pc' := 22) rfl ?_
  refine S_bipush dX1_lastHavers_22 (v := 60) rfl (pc' := 24) rfl ?_
  refine S_icmp_gt dX1_lastHavers_24 66 rfl (pc' := 27) rfl (fun g24 => ?_) (fun g24 => ?_)
  · refine Sim.sub [] rfl ?_
    exact hK _
  · refine S_aload_n dX1_lastHavers_27 rfl 0 rfl (pc' := 28) rfl ?_
    refine S_getR fl_X1_12 rfl dX1_lastHavers_28 (pc' := 31) rfl (fun x28 => ?_)
    refine S_iload_n dX1_lastHavers_31 rfl 1 rfl (pc' := 32) rfl ?_
    refine S_invi ml_X1_44 mi_X0_havers (ci := 0) ⟨_, rfl, rfl⟩ (by decide) dX1_lastHavers_32 [.int a2] rfl (fun v h2 q => c_X0_havers Z l _ _ _ q) ⟨Nat.le_of_ble_eq_true rfl, Nat.le_of_ble_eq_true rfl⟩ (rest := []) (Nat.le_of_ble_eq_true rfl) rfl (pc' := 35) rfl (fun x32 h32 => ?_)
    refine S_istore dX1_lastHavers_35 (by decide) (lo' := [(4, .int x32), (0, .ref (zb Z + a0)), (2, .int a2), (3, .int b3)]) rfl (pc' := 37) rfl ?_
    refine S_aload_n dX1_lastHavers_37 rfl 1 rfl (pc' := 38) rfl ?_
    refine S_getR fl_X1_12 rfl dX1_lastHavers_38 (pc' := 41) rfl (fun x38 => ?_)
    refine S_iload_n dX1_lastHavers_41 rfl 2 rfl (pc' := 42) rfl ?_
    refine S_invv ml_X1_37 mi_X0_passYearOf (ci := 0) ⟨_, rfl, rfl⟩ (by decide) dX1_lastHavers_42 [.int a2] rfl (fun v h2 q => c_X0_passYearOf Z l _ _ _ q) ⟨Nat.le_of_ble_eq_true rfl, Nat.le_of_ble_eq_true rfl⟩ (rest := []) (Nat.le_of_ble_eq_true rfl) rfl (pc' := 45) rfl (fun _ h42 => ?_)
    refine S_aload_n dX1_lastHavers_45 rfl 1 rfl (pc' := 46) rfl ?_
    refine S_getR fl_X1_12 rfl dX1_lastHavers_46 (pc' := 49) rfl (fun x46 => ?_)
    refine S_getR fl_X1_34 rfl dX1_lastHavers_49 (pc' := 52) rfl (fun x49 => ?_)
    refine S_iload_n dX1_lastHavers_52 rfl 2 rfl (pc' := 53) rfl ?_
    refine S_iaload dX1_lastHavers_53 (pc' := 54) rfl (fun x53 => ?_)
    refine S_if_eq dX1_lastHavers_54 60 rfl (pc' := 57) rfl (fun g54 => ?_) (fun g54 => ?_)
    · refine S_iinc dX1_lastHavers_60 (q := 3) rfl (v := b3 + 1) rfl (by decide) (lo' := [(3, .int (b3 + 1)), (4, .int x32), (0, .ref (zb Z + a0)), (2, .int a2)]) rfl (pc' := 63) rfl ?_
      refine S_goto dX1_lastHavers_63 21 rfl ?_
      refine Sim.sub [2, 3, 0] rfl ?_
      exact hF _ _
    · refine S_iload dX1_lastHavers_57 0 rfl (pc' := 59) rfl ?_
      exact S_iret rfl dX1_lastHavers_59
theorem lq_X1_lastHavers_21 (Z : ZZ) (l : Launch) (a0 : Nat) (a2 : Int32) {args : Array Value} {h0 h1 : HP} {v0 : Int32} (K : HP → Option (Int32 × HP))
    (hK : ∀ (h : HP), Sim Z l cX1_lastHavers RX1 5 5 112 (some .int) "lastHavers" args (Mq Z args h0 h1 (some (.int v0))) h0 h1 v0 66 [] [] h (K h)) :
    ∀ (k : Nat) (b3 : Int32) (h : HP), Sim Z l cX1_lastHavers RX1 5 5 112 (some .int) "lastHavers" args (Mq Z args h0 h1 (some (.int v0))) h0 h1 v0 21 [(0, .ref (zb Z + a0)), (2, .int a2), (3, .int b3)] [] h (lp_X1_lastHavers_21 a0 a2 K k b3 h) := by
  intro k
  induction k with
  | zero => exact fun _ _ => Sim.none
  | succ k ih => exact lc_X1_lastHavers_21 Z l a0 a2 K _ hK ih
set_option maxRecDepth 100000 in
set_option maxHeartbeats 4000000 in
theorem c_X1_lastHavers (Z : ZZ) (l : Launch) (t : Nat) (a1 : Nat) (a2 : Int32) (h : HP) {v : Int32} {h1 : HP} (ho : f_X1_lastHavers t a1 a2 h = some (v, h1)) : MetP Z l yX1_lastHavers cX1_lastHavers 5 (some .int) 5 112 [.ref (zb Z + t), .ref (zb Z + a1), .int a2] h (some (.int v)) h1 := by
  refine MetP_of ho (by decide +kernel) (Nat.le_of_ble_eq_true rfl) [(0, .ref (zb Z + t)), (1, .ref (zb Z + a1)), (2, .int a2)] rfl (own := RX1) rfl (nm := "lastHavers") rfl ?_
  unfold f_X1_lastHavers
  refine S_aload_n dX1_lastHavers_0 rfl 1 rfl (pc' := 1) rfl ?_
  refine S_getR fl_X1_34 rfl dX1_lastHavers_1 (pc' := 4) rfl (fun x1 => ?_)
  refine S_iload_n dX1_lastHavers_4 rfl 2 rfl (pc' := 5) rfl ?_
  refine S_iaload dX1_lastHavers_5 (pc' := 6) rfl (fun x5 => ?_)
  refine S_if_eq dX1_lastHavers_6 11 rfl (pc' := 9) rfl (fun g6 => ?_) (fun g6 => ?_)
  · refine S_aload_n dX1_lastHavers_11 rfl 0 rfl (pc' := 12) rfl ?_
    refine S_getR fl_X1_12 rfl dX1_lastHavers_12 (pc' := 15) rfl (fun x12 => ?_)
    refine S_aload_n dX1_lastHavers_15 rfl 1 rfl (pc' := 16) rfl ?_
    refine S_invv ml_X1_22 mi_X0_become (ci := 0) ⟨_, rfl, rfl⟩ (by decide) dX1_lastHavers_16 [.ref (zb Z + a1)] rfl (fun v h2 q => c_X0_become Z l _ _ _ q) ⟨Nat.le_of_ble_eq_true rfl, Nat.le_of_ble_eq_true rfl⟩ (rest := []) (Nat.le_of_ble_eq_true rfl) rfl (pc' := 19) rfl (fun _ h16 => ?_)
    refine S_iconst dX1_lastHavers_19 (v := 1) rfl (pc' := 20) rfl ?_
    refine S_istore_n dX1_lastHavers_20 rfl (by decide) (lo' := [(3, .int 1), (0, .ref (zb Z + t)), (1, .ref (zb Z + a1)), (2, .int a2)]) rfl (pc' := 21) rfl ?_
    refine Sim.sub [1, 3, 0] rfl ?_
    refine lq_X1_lastHavers_21 Z l t a2 _ ?_ 1000 _ _
    intro h21_
    refine S_iconst dX1_lastHavers_66 (v := (-1)) rfl (pc' := 67) rfl ?_
    exact S_iret rfl dX1_lastHavers_67
  · refine S_iconst dX1_lastHavers_9 (v := (-1)) rfl (pc' := 10) rfl ?_
    exact S_iret rfl dX1_lastHavers_10
theorem dX1_neededAtTable_0 : decode cX1_neededAtTable 0 = .ok (.iconst (-1), 1) := by decide +kernel
theorem dX1_neededAtTable_1 : decode cX1_neededAtTable 1 = .ok (.istore_n 3, 1) := by decide +kernel
theorem dX1_neededAtTable_2 : decode cX1_neededAtTable 2 = .ok (.bipush 61, 2) := by decide +kernel
theorem dX1_neededAtTable_4 : decode cX1_neededAtTable 4 = .ok (.istore 4, 2) := by decide +kernel
theorem dX1_neededAtTable_6 : decode cX1_neededAtTable 6 = .ok (.iconst 0, 1) := by decide +kernel
theorem dX1_neededAtTable_7 : decode cX1_neededAtTable 7 = .ok (.istore 5, 2) := by decide +kernel
theorem dX1_neededAtTable_9 : decode cX1_neededAtTable 9 = .ok (.iload 5, 2) := by decide +kernel
theorem dX1_neededAtTable_11 : decode cX1_neededAtTable 11 = .ok (.aload_n 1, 1) := by decide +kernel
theorem dX1_neededAtTable_12 : decode cX1_neededAtTable 12 = .ok (.getfield 48, 3) := by decide +kernel
theorem dX1_neededAtTable_15 : decode cX1_neededAtTable 15 = .ok (.if_icmp .ge 51, 3) := by decide +kernel
theorem dX1_neededAtTable_18 : decode cX1_neededAtTable 18 = .ok (.aload_n 0, 1) := by decide +kernel
theorem dX1_neededAtTable_19 : decode cX1_neededAtTable 19 = .ok (.getfield 12, 3) := by decide +kernel
theorem dX1_neededAtTable_22 : decode cX1_neededAtTable 22 = .ok (.aload_n 1, 1) := by decide +kernel
theorem dX1_neededAtTable_23 : decode cX1_neededAtTable 23 = .ok (.invokevirtual 22, 3) := by decide +kernel
theorem dX1_neededAtTable_26 : decode cX1_neededAtTable 26 = .ok (.aload_n 0, 1) := by decide +kernel
theorem dX1_neededAtTable_27 : decode cX1_neededAtTable 27 = .ok (.getfield 12, 3) := by decide +kernel
theorem dX1_neededAtTable_30 : decode cX1_neededAtTable 30 = .ok (.iload 5, 2) := by decide +kernel
theorem dX1_neededAtTable_32 : decode cX1_neededAtTable 32 = .ok (.invokevirtual 52, 3) := by decide +kernel
theorem dX1_neededAtTable_35 : decode cX1_neededAtTable 35 = .ok (.aload_n 0, 1) := by decide +kernel
theorem dX1_neededAtTable_36 : decode cX1_neededAtTable 36 = .ok (.iload_n 2, 1) := by decide +kernel
theorem dX1_neededAtTable_37 : decode cX1_neededAtTable 37 = .ok (.iload 4, 2) := by decide +kernel
theorem dX1_neededAtTable_39 : decode cX1_neededAtTable 39 = .ok (.iconst 1, 1) := by decide +kernel
theorem dX1_neededAtTable_40 : decode cX1_neededAtTable 40 = .ok (.isub, 1) := by decide +kernel
theorem dX1_neededAtTable_41 : decode cX1_neededAtTable 41 = .ok (.invokevirtual 30, 3) := by decide +kernel
theorem dX1_neededAtTable_44 : decode cX1_neededAtTable 44 = .ok (.istore 6, 2) := by decide +kernel
theorem dX1_neededAtTable_46 : decode cX1_neededAtTable 46 = .ok (.iload 6, 2) := by decide +kernel
theorem dX1_neededAtTable_48 : decode cX1_neededAtTable 48 = .ok (.iload 4, 2) := by decide +kernel
theorem dX1_neededAtTable_50 : decode cX1_neededAtTable 50 = .ok (.if_icmp .ge 10, 3) := by decide +kernel
theorem dX1_neededAtTable_53 : decode cX1_neededAtTable 53 = .ok (.iload 5, 2) := by decide +kernel
theorem dX1_neededAtTable_55 : decode cX1_neededAtTable 55 = .ok (.istore_n 3, 1) := by decide +kernel
theorem dX1_neededAtTable_56 : decode cX1_neededAtTable 56 = .ok (.iload 6, 2) := by decide +kernel
theorem dX1_neededAtTable_58 : decode cX1_neededAtTable 58 = .ok (.istore 4, 2) := by decide +kernel
theorem dX1_neededAtTable_60 : decode cX1_neededAtTable 60 = .ok (.iinc 5 1, 3) := by decide +kernel
theorem dX1_neededAtTable_63 : decode cX1_neededAtTable 63 = .ok (.goto (-54), 3) := by decide +kernel
theorem dX1_neededAtTable_66 : decode cX1_neededAtTable 66 = .ok (.iload_n 3, 1) := by decide +kernel
theorem dX1_neededAtTable_67 : decode cX1_neededAtTable 67 = .ok (.ireturn, 1) := by decide +kernel
set_option maxRecDepth 100000 in
set_option maxHeartbeats 4000000 in
theorem lc_X1_neededAtTable_9 (Z : ZZ) (l : Launch) (a0 : Nat) (a1 : Nat) (a2 : Int32) {args : Array Value} {h0 h1 : HP} {v0 : Int32} (K : Int32 → HP → Option (Int32 × HP)) (F : Int32 → Int32 → Int32 → HP → Option (Int32 × HP))
    (hK : ∀ (b3 : Int32) (h : HP), Sim Z l cX1_neededAtTable RX1 7 6 135 (some .int) "neededAtTable" args (Mq Z args h0 h1 (some (.int v0))) h0 h1 v0 66 [(3, .int b3)] [] h (K b3 h))
    (hF : ∀ (b3 : Int32) (b4 : Int32) (b5 : Int32) (h : HP), Sim Z l cX1_neededAtTable RX1 7 6 135 (some .int) "neededAtTable" args (Mq Z args h0 h1 (some (.int v0))) h0 h1 v0 9 [(0, .ref (zb Z + a0)), (1, .ref (zb Z + a1)), (2, .int a2), (3, .int b3), (4, .int b4), (5, .int b5)] [] h (F b3 b4 b5 h)) :
    ∀ (b3 : Int32) (b4 : Int32) (b5 : Int32) (h : HP), Sim Z l cX1_neededAtTable RX1 7 6 135 (some .int) "neededAtTable" args (Mq Z args h0 h1 (some (.int v0))) h0 h1 v0 9 [(0, .ref (zb Z + a0)), (1, .ref (zb Z + a1)), (2, .int a2), (3, .int b3), (4, .int b4), (5, .int b5)] [] h (lb_X1_neededAtTable_9 a0 a1 a2 K F b3 b4 b5 h) := by
  intro b3 b4 b5 h
  unfold lb_X1_neededAtTable_9
  refine S_iload dX1_neededAtTable_9 5 rfl (pc' := 11) rfl ?_
  refine S_aload_n dX1_neededAtTable_11 rfl 1 rfl (pc' := 12) rfl ?_
  refine S_getI fl_X1_48 rfl dX1_neededAtTable_12 (pc' := 15) rfl (fun x12 => ?_)
  refine S_icmp_ge dX1_neededAtTable_15 66 rfl (pc' := 18) rfl (fun g15 => ?_) (fun g15 => ?_)
  · refine Sim.sub [3] rfl ?_
    exact hK _ _
  · refine S_aload_n dX1_neededAtTable_18 rfl 0 rfl (pc' := 19) rfl ?_
    refine S_getR fl_X1_12 rfl dX1_neededAtTable_19 (pc' := 22) rfl (fun x19 => ?_)
    refine S_aload_n dX1_neededAtTable_22 rfl 1 rfl (pc' := 23) rfl ?_
    refine S_invv ml_X1_22 mi_X0_become (ci := 0) ⟨_, rfl, rfl⟩ (by decide) dX1_neededAtTable_23 [.ref (zb Z + a1)] rfl (fun v h2 q => c_X0_become Z l _ _ _ q) ⟨Nat.le_of_ble_eq_true rfl, Nat.le_of_ble_eq_true rfl⟩ (rest := []) (Nat.le_of_ble_eq_true rfl) rfl (pc' := 26) rfl (fun _ h23 => ?_)
    refine S_aload_n dX1_neededAtTable_26 rfl 0 rfl (pc' := 27) rfl ?_
    refine S_getR fl_X1_12 rfl dX1_neededAtTable_27 (pc' := 30) rfl (fun x27 => ?_)
    refine S_iload dX1_neededAtTable_30 5 rfl (pc' := 32) rfl ?_
    refine S_invv ml_X1_52 mi_X0_leaveTable (ci := 0) ⟨_, rfl, rfl⟩ (by decide) dX1_neededAtTable_32 [.int b5] rfl (fun v h2 q => c_X0_leaveTable Z l _ _ _ q) ⟨Nat.le_of_ble_eq_true rfl, Nat.le_of_ble_eq_true rfl⟩ (rest := []) (Nat.le_of_ble_eq_true rfl) rfl (pc' := 35) rfl (fun _ h32 => ?_)
    refine S_aload_n dX1_neededAtTable_35 rfl 0 rfl (pc' := 36) rfl ?_
    refine S_iload_n dX1_neededAtTable_36 rfl 2 rfl (pc' := 37) rfl ?_
    refine S_iload dX1_neededAtTable_37 4 rfl (pc' := 39) rfl ?_
    refine S_iconst dX1_neededAtTable_39 (v := 1) rfl (pc' := 40) rfl ?_
    refine S_isub dX1_neededAtTable_40 (pc' := 41) rfl ?_
    refine S_invi ml_X1_30 mi_X1_lossFromThen (ci := 1) ⟨_, rfl, rfl⟩ (by decide) dX1_neededAtTable_41 [.int a2, .int (b4 - 1)] rfl (fun v h2 q => c_X1_lossFromThen Z l _ _ _ _ q) ⟨Nat.le_of_ble_eq_true rfl, Nat.le_of_ble_eq_true rfl⟩ (rest := []) (Nat.le_of_ble_eq_true rfl) rfl (pc' := 44) rfl (fun x41 h41 => ?_)
    refine S_istore dX1_neededAtTable_44 (by decide) (lo' := [(6, .int x41), (0, .ref (zb Z + a0)), (1, .ref (zb Z + a1)), (2, .int a2), (3, .int b3), (4, .int b4), (5, .int b5)]) rfl (pc' := 46) rfl ?_
    refine S_iload dX1_neededAtTable_46 0 rfl (pc' := 48) rfl ?_
    refine S_iload dX1_neededAtTable_48 5 rfl (pc' := 50) rfl ?_
    refine S_icmp_ge dX1_neededAtTable_50 60 rfl (pc' := 53) rfl (fun g50 => ?_) (fun g50 => ?_)
    · refine S_iinc dX1_neededAtTable_60 (q := 6) rfl (v := b5 + 1) rfl (by decide) (lo' := [(5, .int (b5 + 1)), (6, .int x41), (0, .ref (zb Z + a0)), (1, .ref (zb Z + a1)), (2, .int a2), (3, .int b3), (4, .int b4)]) rfl (pc' := 63) rfl ?_
      refine S_goto dX1_neededAtTable_63 9 rfl ?_
      refine Sim.sub [2, 3, 4, 5, 6, 0] rfl ?_
      exact hF _ _ _ _
    · refine S_iload dX1_neededAtTable_53 6 rfl (pc' := 55) rfl ?_
      refine S_istore_n dX1_neededAtTable_55 rfl (by decide) (lo' := [(3, .int b5), (6, .int x41), (0, .ref (zb Z + a0)), (1, .ref (zb Z + a1)), (2, .int a2), (4, .int b4), (5, .int b5)]) rfl (pc' := 56) rfl ?_
      refine S_iload dX1_neededAtTable_56 1 rfl (pc' := 58) rfl ?_
      refine S_istore dX1_neededAtTable_58 (by decide) (lo' := [(4, .int x41), (3, .int b5), (6, .int x41), (0, .ref (zb Z + a0)), (1, .ref (zb Z + a1)), (2, .int a2), (5, .int b5)]) rfl (pc' := 60) rfl ?_
      refine S_iinc dX1_neededAtTable_60 (q := 6) rfl (v := b5 + 1) rfl (by decide) (lo' := [(5, .int (b5 + 1)), (4, .int x41), (3, .int b5), (6, .int x41), (0, .ref (zb Z + a0)), (1, .ref (zb Z + a1)), (2, .int a2)]) rfl (pc' := 63) rfl ?_
      refine S_goto dX1_neededAtTable_63 9 rfl ?_
      refine Sim.sub [4, 5, 6, 2, 1, 0] rfl ?_
      exact hF _ _ _ _
theorem lq_X1_neededAtTable_9 (Z : ZZ) (l : Launch) (a0 : Nat) (a1 : Nat) (a2 : Int32) {args : Array Value} {h0 h1 : HP} {v0 : Int32} (K : Int32 → HP → Option (Int32 × HP))
    (hK : ∀ (b3 : Int32) (h : HP), Sim Z l cX1_neededAtTable RX1 7 6 135 (some .int) "neededAtTable" args (Mq Z args h0 h1 (some (.int v0))) h0 h1 v0 66 [(3, .int b3)] [] h (K b3 h)) :
    ∀ (k : Nat) (b3 : Int32) (b4 : Int32) (b5 : Int32) (h : HP), Sim Z l cX1_neededAtTable RX1 7 6 135 (some .int) "neededAtTable" args (Mq Z args h0 h1 (some (.int v0))) h0 h1 v0 9 [(0, .ref (zb Z + a0)), (1, .ref (zb Z + a1)), (2, .int a2), (3, .int b3), (4, .int b4), (5, .int b5)] [] h (lp_X1_neededAtTable_9 a0 a1 a2 K k b3 b4 b5 h) := by
  intro k
  induction k with
  | zero => exact fun _ _ _ _ => Sim.none
  | succ k ih => exact lc_X1_neededAtTable_9 Z l a0 a1 a2 K _ hK ih
set_option maxRecDepth 100000 in
set_option maxHeartbeats 4000000 in
theorem c_X1_neededAtTable (Z : ZZ) (l : Launch) (t : Nat) (a1 : Nat) (a2 : Int32) (h : HP) {v : Int32} {h1 : HP} (ho : f_X1_neededAtTable t a1 a2 h = some (v, h1)) : MetP Z l yX1_neededAtTable cX1_neededAtTable 7 (some .int) 6 135 [.ref (zb Z + t), .ref (zb Z + a1), .int a2] h (some (.int v)) h1 := by
  refine MetP_of ho (by decide +kernel) (Nat.le_of_ble_eq_true rfl) [(0, .ref (zb Z + t)), (1, .ref (zb Z + a1)), (2, .int a2)] rfl (own := RX1) rfl (nm := "neededAtTable") rfl ?_
  unfold f_X1_neededAtTable
  refine S_iconst dX1_neededAtTable_0 (v := (-1)) rfl (pc' := 1) rfl ?_
  refine S_istore_n dX1_neededAtTable_1 rfl (by decide) (lo' := [(3, .int (-1)), (0, .ref (zb Z + t)), (1, .ref (zb Z + a1)), (2, .int a2)]) rfl (pc' := 2) rfl ?_
  refine S_bipush dX1_neededAtTable_2 (v := 61) rfl (pc' := 4) rfl ?_
  refine S_istore dX1_neededAtTable_4 (by decide) (lo' := [(4, .int 61), (3, .int (-1)), (0, .ref (zb Z + t)), (1, .ref (zb Z + a1)), (2, .int a2)]) rfl (pc' := 6) rfl ?_
  refine S_iconst dX1_neededAtTable_6 (v := 0) rfl (pc' := 7) rfl ?_
  refine S_istore dX1_neededAtTable_7 (by decide) (lo' := [(5, .int 0), (4, .int 61), (3, .int (-1)), (0, .ref (zb Z + t)), (1, .ref (zb Z + a1)), (2, .int a2)]) rfl (pc' := 9) rfl ?_
  refine Sim.sub [3, 4, 5, 2, 1, 0] rfl ?_
  refine lq_X1_neededAtTable_9 Z l t a1 a2 _ ?_ 1000 _ _ _ _
  intro b3_9 h9_
  refine S_iload_n dX1_neededAtTable_66 rfl 0 rfl (pc' := 67) rfl ?_
  exact S_iret rfl dX1_neededAtTable_67
theorem dX1_leastWork_0 : decode cX1_leastWork 0 = .ok (.iconst 0, 1) := by decide +kernel
theorem dX1_leastWork_1 : decode cX1_leastWork 1 = .ok (.istore 4, 2) := by decide +kernel
theorem dX1_leastWork_3 : decode cX1_leastWork 3 = .ok (.iload 4, 2) := by decide +kernel
theorem dX1_leastWork_5 : decode cX1_leastWork 5 = .ok (.bipush 10, 2) := by decide +kernel
theorem dX1_leastWork_7 : decode cX1_leastWork 7 = .ok (.if_icmp .ge 40, 3) := by decide +kernel
theorem dX1_leastWork_10 : decode cX1_leastWork 10 = .ok (.aload_n 0, 1) := by decide +kernel
theorem dX1_leastWork_11 : decode cX1_leastWork 11 = .ok (.getfield 12, 3) := by decide +kernel
theorem dX1_leastWork_14 : decode cX1_leastWork 14 = .ok (.aload_n 1, 1) := by decide +kernel
theorem dX1_leastWork_15 : decode cX1_leastWork 15 = .ok (.invokevirtual 22, 3) := by decide +kernel
theorem dX1_leastWork_18 : decode cX1_leastWork 18 = .ok (.aload_n 0, 1) := by decide +kernel
theorem dX1_leastWork_19 : decode cX1_leastWork 19 = .ok (.getfield 12, 3) := by decide +kernel
theorem dX1_leastWork_22 : decode cX1_leastWork 22 = .ok (.iload 4, 2) := by decide +kernel
theorem dX1_leastWork_24 : decode cX1_leastWork 24 = .ok (.putfield 55, 3) := by decide +kernel
theorem dX1_leastWork_27 : decode cX1_leastWork 27 = .ok (.aload_n 0, 1) := by decide +kernel
theorem dX1_leastWork_28 : decode cX1_leastWork 28 = .ok (.iload_n 2, 1) := by decide +kernel
theorem dX1_leastWork_29 : decode cX1_leastWork 29 = .ok (.iload_n 3, 1) := by decide +kernel
theorem dX1_leastWork_30 : decode cX1_leastWork 30 = .ok (.invokevirtual 30, 3) := by decide +kernel
theorem dX1_leastWork_33 : decode cX1_leastWork 33 = .ok (.bipush 61, 2) := by decide +kernel
theorem dX1_leastWork_35 : decode cX1_leastWork 35 = .ok (.if_icmp .eq 6, 3) := by decide +kernel
theorem dX1_leastWork_38 : decode cX1_leastWork 38 = .ok (.iload 4, 2) := by decide +kernel
theorem dX1_leastWork_40 : decode cX1_leastWork 40 = .ok (.ireturn, 1) := by decide +kernel
theorem dX1_leastWork_41 : decode cX1_leastWork 41 = .ok (.iinc 4 1, 3) := by decide +kernel
theorem dX1_leastWork_44 : decode cX1_leastWork 44 = .ok (.goto (-41), 3) := by decide +kernel
theorem dX1_leastWork_47 : decode cX1_leastWork 47 = .ok (.iconst (-1), 1) := by decide +kernel
theorem dX1_leastWork_48 : decode cX1_leastWork 48 = .ok (.ireturn, 1) := by decide +kernel
set_option maxRecDepth 100000 in
set_option maxHeartbeats 4000000 in
theorem lc_X1_leastWork_3 (Z : ZZ) (l : Launch) (a0 : Nat) (a1 : Nat) (a2 : Int32) (a3 : Int32) {args : Array Value} {h0 h1 : HP} {v0 : Int32} (K : HP → Option (Int32 × HP)) (F : Int32 → HP → Option (Int32 × HP))
    (hK : ∀ (h : HP), Sim Z l cX1_leastWork RX1 5 6 135 (some .int) "leastWork" args (Mq Z args h0 h1 (some (.int v0))) h0 h1 v0 47 [] [] h (K h))
    (hF : ∀ (b4 : Int32) (h : HP), Sim Z l cX1_leastWork RX1 5 6 135 (some .int) "leastWork" args (Mq Z args h0 h1 (some (.int v0))) h0 h1 v0 3 [(0, .ref (zb Z + a0)), (1, .ref (zb Z + a1)), (2, .int a2), (3, .int a3), (4, .int b4)] [] h (F b4 h)) :
    ∀ (b4 : Int32) (h : HP), Sim Z l cX1_leastWork RX1 5 6 135 (some .int) "leastWork" args (Mq Z args h0 h1 (some (.int v0))) h0 h1 v0 3 [(0, .ref (zb Z + a0)), (1, .ref (zb Z + a1)), (2, .int a2), (3, .int a3), (4, .int b4)] [] h (lb_X1_leastWork_3 a0 a1 a2 a3 K F b4 h) := by
  intro b4 h
  unfold lb_X1_leastWork_3
  refine S_iload dX1_leastWork_3 4 rfl (pc' := 5) rfl ?_
  refine S_bipush dX1_leastWork_5 (v := 10) rfl (pc' := 7) rfl ?_
  refine S_icmp_ge dX1_leastWork_7 47 rfl (pc' := 10) rfl (fun g7 => ?_) (fun g7 => ?_)
  · refine Sim.sub [] rfl ?_
    exact hK _
  · refine S_aload_n dX1_leastWork_10 rfl 0 rfl (pc' := 11) rfl ?_
    refine S_getR fl_X1_12 rfl dX1_leastWork_11 (pc' := 14) rfl (fun x11 => ?_)
    refine S_aload_n dX1_leastWork_14 rfl 1 rfl (pc' := 15) rfl ?_
    refine S_invv ml_X1_22 mi_X0_become (ci := 0) ⟨_, rfl, rfl⟩ (by decide) dX1_leastWork_15 [.ref (zb Z + a1)] rfl (fun v h2 q => c_X0_become Z l _ _ _ q) ⟨Nat.le_of_ble_eq_true rfl, Nat.le_of_ble_eq_true rfl⟩ (rest := []) (Nat.le_of_ble_eq_true rfl) rfl (pc' := 18) rfl (fun _ h15 => ?_)
    refine S_aload_n dX1_leastWork_18 rfl 0 rfl (pc' := 19) rfl ?_
    refine S_getR fl_X1_12 rfl dX1_leastWork_19 (pc' := 22) rfl (fun x19 => ?_)
    refine S_iload dX1_leastWork_22 4 rfl (pc' := 24) rfl ?_
    refine S_putI fl_X1_55 (by decide) rfl dX1_leastWork_24 (pc' := 27) rfl (fun h24 => ?_)
    refine S_aload_n dX1_leastWork_27 rfl 0 rfl (pc' := 28) rfl ?_
    refine S_iload_n dX1_leastWork_28 rfl 2 rfl (pc' := 29) rfl ?_
    refine S_iload_n dX1_leastWork_29 rfl 3 rfl (pc' := 30) rfl ?_
    refine S_invi ml_X1_30 mi_X1_lossFromThen (ci := 1) ⟨_, rfl, rfl⟩ (by decide) dX1_leastWork_30 [.int a2, .int a3] rfl (fun v h2 q => c_X1_lossFromThen Z l _ _ _ _ q) ⟨Nat.le_of_ble_eq_true rfl, Nat.le_of_ble_eq_true rfl⟩ (rest := []) (Nat.le_of_ble_eq_true rfl) rfl (pc' := 33) rfl (fun x30 h30 => ?_)
    refine S_bipush dX1_leastWork_33 (v := 61) rfl (pc' := 35) rfl ?_
    refine S_icmp_eq dX1_leastWork_35 41 rfl (pc' := 38) rfl (fun g35 => ?_) (fun g35 => ?_)
    · refine S_iinc dX1_leastWork_41 (q := 4) rfl (v := b4 + 1) rfl (by decide) (lo' := [(4, .int (b4 + 1)), (0, .ref (zb Z + a0)), (1, .ref (zb Z + a1)), (2, .int a2), (3, .int a3)]) rfl (pc' := 44) rfl ?_
      refine S_goto dX1_leastWork_44 3 rfl ?_
      refine Sim.sub [1, 2, 3, 4, 0] rfl ?_
      exact hF _ _
    · refine S_iload dX1_leastWork_38 4 rfl (pc' := 40) rfl ?_
      exact S_iret rfl dX1_leastWork_40
theorem lq_X1_leastWork_3 (Z : ZZ) (l : Launch) (a0 : Nat) (a1 : Nat) (a2 : Int32) (a3 : Int32) {args : Array Value} {h0 h1 : HP} {v0 : Int32} (K : HP → Option (Int32 × HP))
    (hK : ∀ (h : HP), Sim Z l cX1_leastWork RX1 5 6 135 (some .int) "leastWork" args (Mq Z args h0 h1 (some (.int v0))) h0 h1 v0 47 [] [] h (K h)) :
    ∀ (k : Nat) (b4 : Int32) (h : HP), Sim Z l cX1_leastWork RX1 5 6 135 (some .int) "leastWork" args (Mq Z args h0 h1 (some (.int v0))) h0 h1 v0 3 [(0, .ref (zb Z + a0)), (1, .ref (zb Z + a1)), (2, .int a2), (3, .int a3), (4, .int b4)] [] h (lp_X1_leastWork_3 a0 a1 a2 a3 K k b4 h) := by
  intro k
  induction k with
  | zero => exact fun _ _ => Sim.none
  | succ k ih => exact lc_X1_leastWork_3 Z l a0 a1 a2 a3 K _ hK ih
set_option maxRecDepth 100000 in
set_option maxHeartbeats 4000000 in
theorem c_X1_leastWork (Z : ZZ) (l : Launch) (t : Nat) (a1 : Nat) (a2 : Int32) (a3 : Int32) (h : HP) {v : Int32} {h1 : HP} (ho : f_X1_leastWork t a1 a2 a3 h = some (v, h1)) : MetP Z l yX1_leastWork cX1_leastWork 5 (some .int) 6 135 [.ref (zb Z + t), .ref (zb Z + a1), .int a2, .int a3] h (some (.int v)) h1 := by
  refine MetP_of ho (by decide +kernel) (Nat.le_of_ble_eq_true rfl) [(0, .ref (zb Z + t)), (1, .ref (zb Z + a1)), (2, .int a2), (3, .int a3)] rfl (own := RX1) rfl (nm := "leastWork") rfl ?_
  unfold f_X1_leastWork
  refine S_iconst dX1_leastWork_0 (v := 0) rfl (pc' := 1) rfl ?_
  refine S_istore dX1_leastWork_1 (by decide) (lo' := [(4, .int 0), (0, .ref (zb Z + t)), (1, .ref (zb Z + a1)), (2, .int a2), (3, .int a3)]) rfl (pc' := 3) rfl ?_
  refine Sim.sub [1, 2, 3, 4, 0] rfl ?_
  refine lq_X1_leastWork_3 Z l t a1 a2 a3 _ ?_ 1000 _ _
  intro h3_
  refine S_iconst dX1_leastWork_47 (v := (-1)) rfl (pc' := 48) rfl ?_
  exact S_iret rfl dX1_leastWork_48
theorem dX1_teachThen_0 : decode cX1_teachThen 0 = .ok (.iconst 0, 1) := by decide +kernel
theorem dX1_teachThen_1 : decode cX1_teachThen 1 = .ok (.istore_n 3, 1) := by decide +kernel
theorem dX1_teachThen_2 : decode cX1_teachThen 2 = .ok (.iload_n 3, 1) := by decide +kernel
theorem dX1_teachThen_3 : decode cX1_teachThen 3 = .ok (.aload_n 0, 1) := by decide +kernel
theorem dX1_teachThen_4 : decode cX1_teachThen 4 = .ok (.getfield 12, 3) := by decide +kernel
theorem dX1_teachThen_7 : decode cX1_teachThen 7 = .ok (.getfield 48, 3) := by decide +kernel
theorem dX1_teachThen_10 : decode cX1_teachThen 10 = .ok (.if_icmp .ge 28, 3) := by decide +kernel
theorem dX1_teachThen_13 : decode cX1_teachThen 13 = .ok (.iload_n 1, 1) := by decide +kernel
theorem dX1_teachThen_14 : decode cX1_teachThen 14 = .ok (.iload_n 3, 1) := by decide +kernel
theorem dX1_teachThen_15 : decode cX1_teachThen 15 = .ok (.ishr, 1) := by decide +kernel
theorem dX1_teachThen_16 : decode cX1_teachThen 16 = .ok (.iconst 1, 1) := by decide +kernel
theorem dX1_teachThen_17 : decode cX1_teachThen 17 = .ok (.iand, 1) := by decide +kernel
theorem dX1_teachThen_18 : decode cX1_teachThen 18 = .ok (.iconst 1, 1) := by decide +kernel
theorem dX1_teachThen_19 : decode cX1_teachThen 19 = .ok (.if_icmp .ne 13, 3) := by decide +kernel
theorem dX1_teachThen_22 : decode cX1_teachThen 22 = .ok (.aload_n 0, 1) := by decide +kernel
theorem dX1_teachThen_23 : decode cX1_teachThen 23 = .ok (.getfield 12, 3) := by decide +kernel
theorem dX1_teachThen_26 : decode cX1_teachThen 26 = .ok (.iload_n 3, 1) := by decide +kernel
theorem dX1_teachThen_27 : decode cX1_teachThen 27 = .ok (.iload_n 2, 1) := by decide +kernel
theorem dX1_teachThen_28 : decode cX1_teachThen 28 = .ok (.iconst 0, 1) := by decide +kernel
theorem dX1_teachThen_29 : decode cX1_teachThen 29 = .ok (.invokevirtual 67, 3) := by decide +kernel
theorem dX1_teachThen_32 : decode cX1_teachThen 32 = .ok (.iinc 3 1, 3) := by decide +kernel
theorem dX1_teachThen_35 : decode cX1_teachThen 35 = .ok (.goto (-33), 3) := by decide +kernel
theorem dX1_teachThen_38 : decode cX1_teachThen 38 = .ok (.return_, 1) := by decide +kernel
set_option maxRecDepth 100000 in
set_option maxHeartbeats 4000000 in
theorem lc_X1_teachThen_2 (Z : ZZ) (l : Launch) (a0 : Nat) (a1 : Int32) (a2 : Int32) {args : Array Value} {h0 h1 : HP} {v0 : Unit} (K : HP → Option (Unit × HP)) (F : Int32 → HP → Option (Unit × HP))
    (hK : ∀ (h : HP), Sim Z l cX1_teachThen RX1 4 1 23 (none) "teachThen" args (Mq Z args h0 h1 (none)) h0 h1 v0 38 [] [] h (K h))
    (hF : ∀ (b3 : Int32) (h : HP), Sim Z l cX1_teachThen RX1 4 1 23 (none) "teachThen" args (Mq Z args h0 h1 (none)) h0 h1 v0 2 [(0, .ref (zb Z + a0)), (1, .int a1), (2, .int a2), (3, .int b3)] [] h (F b3 h)) :
    ∀ (b3 : Int32) (h : HP), Sim Z l cX1_teachThen RX1 4 1 23 (none) "teachThen" args (Mq Z args h0 h1 (none)) h0 h1 v0 2 [(0, .ref (zb Z + a0)), (1, .int a1), (2, .int a2), (3, .int b3)] [] h (lb_X1_teachThen_2 a0 a1 a2 K F b3 h) := by
  intro b3 h
  unfold lb_X1_teachThen_2
  refine S_iload_n dX1_teachThen_2 rfl 3 rfl (pc' := 3) rfl ?_
  refine S_aload_n dX1_teachThen_3 rfl 0 rfl (pc' := 4) rfl ?_
  refine S_getR fl_X1_12 rfl dX1_teachThen_4 (pc' := 7) rfl (fun x4 => ?_)
  refine S_getI fl_X1_48 rfl dX1_teachThen_7 (pc' := 10) rfl (fun x7 => ?_)
  refine S_icmp_ge dX1_teachThen_10 38 rfl (pc' := 13) rfl (fun g10 => ?_) (fun g10 => ?_)
  · refine Sim.sub [] rfl ?_
    exact hK _
  · refine S_iload_n dX1_teachThen_13 rfl 1 rfl (pc' := 14) rfl ?_
    refine S_iload_n dX1_teachThen_14 rfl 3 rfl (pc' := 15) rfl ?_
    refine S_ishr dX1_teachThen_15 (pc' := 16) rfl ?_
    refine S_iconst dX1_teachThen_16 (v := 1) rfl (pc' := 17) rfl ?_
    refine S_iand dX1_teachThen_17 (pc' := 18) rfl ?_
    refine S_iconst dX1_teachThen_18 (v := 1) rfl (pc' := 19) rfl ?_
    refine S_icmp_ne dX1_teachThen_19 32 rfl (pc' := 22) rfl (fun g19 => ?_) (fun g19 => ?_)
    · refine S_iinc dX1_teachThen_32 (q := 3) rfl (v := b3 + 1) rfl (by decide) (lo' := [(3, .int (b3 + 1)), (0, .ref (zb Z + a0)), (1, .int a1), (2, .int a2)]) rfl (pc' := 35) rfl ?_
      refine S_goto dX1_teachThen_35 2 rfl ?_
      refine Sim.sub [1, 2, 3, 0] rfl ?_
      exact hF _ _
    · refine S_aload_n dX1_teachThen_22 rfl 0 rfl (pc' := 23) rfl ?_
      refine S_getR fl_X1_12 rfl dX1_teachThen_23 (pc' := 26) rfl (fun x23 => ?_)
      refine S_iload_n dX1_teachThen_26 rfl 3 rfl (pc' := 27) rfl ?_
      refine S_iload_n dX1_teachThen_27 rfl 2 rfl (pc' := 28) rfl ?_
      refine S_iconst dX1_teachThen_28 (v := 0) rfl (pc' := 29) rfl ?_
      refine S_invv ml_X1_67 mi_X0_setHeld (ci := 0) ⟨_, rfl, rfl⟩ (by decide) dX1_teachThen_29 [.int b3, .int a2, .int 0] rfl (fun v h2 q => c_X0_setHeld Z l _ _ _ _ _ q) ⟨Nat.le_of_ble_eq_true rfl, Nat.le_of_ble_eq_true rfl⟩ (rest := []) (Nat.le_of_ble_eq_true rfl) rfl (pc' := 32) rfl (fun _ h29 => ?_)
      refine S_iinc dX1_teachThen_32 (q := 3) rfl (v := b3 + 1) rfl (by decide) (lo' := [(3, .int (b3 + 1)), (0, .ref (zb Z + a0)), (1, .int a1), (2, .int a2)]) rfl (pc' := 35) rfl ?_
      refine S_goto dX1_teachThen_35 2 rfl ?_
      refine Sim.sub [1, 2, 3, 0] rfl ?_
      exact hF _ _
theorem lq_X1_teachThen_2 (Z : ZZ) (l : Launch) (a0 : Nat) (a1 : Int32) (a2 : Int32) {args : Array Value} {h0 h1 : HP} {v0 : Unit} (K : HP → Option (Unit × HP))
    (hK : ∀ (h : HP), Sim Z l cX1_teachThen RX1 4 1 23 (none) "teachThen" args (Mq Z args h0 h1 (none)) h0 h1 v0 38 [] [] h (K h)) :
    ∀ (k : Nat) (b3 : Int32) (h : HP), Sim Z l cX1_teachThen RX1 4 1 23 (none) "teachThen" args (Mq Z args h0 h1 (none)) h0 h1 v0 2 [(0, .ref (zb Z + a0)), (1, .int a1), (2, .int a2), (3, .int b3)] [] h (lp_X1_teachThen_2 a0 a1 a2 K k b3 h) := by
  intro k
  induction k with
  | zero => exact fun _ _ => Sim.none
  | succ k ih => exact lc_X1_teachThen_2 Z l a0 a1 a2 K _ hK ih
set_option maxRecDepth 100000 in
set_option maxHeartbeats 4000000 in
theorem c_X1_teachThen (Z : ZZ) (l : Launch) (t : Nat) (a1 : Int32) (a2 : Int32) (h : HP) {v : Unit} {h1 : HP} (ho : f_X1_teachThen t a1 a2 h = some (v, h1)) : MetP Z l yX1_teachThen cX1_teachThen 4 (none) 1 23 [.ref (zb Z + t), .int a1, .int a2] h (none) h1 := by
  refine MetP_of ho (by decide +kernel) (Nat.le_of_ble_eq_true rfl) [(0, .ref (zb Z + t)), (1, .int a1), (2, .int a2)] rfl (own := RX1) rfl (nm := "teachThen") rfl ?_
  unfold f_X1_teachThen
  refine S_iconst dX1_teachThen_0 (v := 0) rfl (pc' := 1) rfl ?_
  refine S_istore_n dX1_teachThen_1 rfl (by decide) (lo' := [(3, .int 0), (0, .ref (zb Z + t)), (1, .int a1), (2, .int a2)]) rfl (pc' := 2) rfl ?_
  refine Sim.sub [1, 2, 3, 0] rfl ?_
  refine lq_X1_teachThen_2 Z l t a1 a2 _ ?_ 1000 _ _
  intro h2_
  exact S_vret rfl dX1_teachThen_38
theorem dX1_worstPupils_0 : decode cX1_worstPupils 0 = .ok (.aload_n 1, 1) := by decide +kernel
theorem dX1_worstPupils_1 : decode cX1_worstPupils 1 = .ok (.iload_n 2, 1) := by decide +kernel
theorem dX1_worstPupils_2 : decode cX1_worstPupils 2 = .ok (.invokevirtual 44, 3) := by decide +kernel
theorem dX1_worstPupils_5 : decode cX1_worstPupils 5 = .ok (.istore 4, 2) := by decide +kernel
theorem dX1_worstPupils_7 : decode cX1_worstPupils 7 = .ok (.iconst (-1), 1) := by decide +kernel
theorem dX1_worstPupils_8 : decode cX1_worstPupils 8 = .ok (.istore 5, 2) := by decide +kernel
theorem dX1_worstPupils_10 : decode cX1_worstPupils 10 = .ok (.bipush 61, 2) := by decide +kernel
theorem dX1_worstPupils_12 : decode cX1_worstPupils 12 = .ok (.istore 6, 2) := by decide +kernel
theorem dX1_worstPupils_14 : decode cX1_worstPupils 14 = .ok (.iconst 0, 1) := by decide +kernel
theorem dX1_worstPupils_15 : decode cX1_worstPupils 15 = .ok (.istore 7, 2) := by decide +kernel
theorem dX1_worstPupils_17 : decode cX1_worstPupils 17 = .ok (.iload 7, 2) := by decide +kernel
theorem dX1_worstPupils_19 : decode cX1_worstPupils 19 = .ok (.iconst 1, 1) := by decide +kernel
theorem dX1_worstPupils_20 : decode cX1_worstPupils 20 = .ok (.aload_n 1, 1) := by decide +kernel
theorem dX1_worstPupils_21 : decode cX1_worstPupils 21 = .ok (.getfield 48, 3) := by decide +kernel
theorem dX1_worstPupils_24 : decode cX1_worstPupils 24 = .ok (.ishl, 1) := by decide +kernel
theorem dX1_worstPupils_25 : decode cX1_worstPupils 25 = .ok (.if_icmp .ge 67, 3) := by decide +kernel
theorem dX1_worstPupils_28 : decode cX1_worstPupils 28 = .ok (.iload 7, 2) := by decide +kernel
theorem dX1_worstPupils_30 : decode cX1_worstPupils 30 = .ok (.iload 4, 2) := by decide +kernel
theorem dX1_worstPupils_32 : decode cX1_worstPupils 32 = .ok (.iand, 1) := by decide +kernel
theorem dX1_worstPupils_33 : decode cX1_worstPupils 33 = .ok (.ifCond .ne 53, 3) := by decide +kernel
theorem dX1_worstPupils_36 : decode cX1_worstPupils 36 = .ok (.iload 7, 2) := by decide +kernel
theorem dX1_worstPupils_38 : decode cX1_worstPupils 38 = .ok (.invokestatic 58, 3) := by decide +kernel
theorem dX1_worstPupils_41 : decode cX1_worstPupils 41 = .ok (.iload_n 3, 1) := by decide +kernel
theorem dX1_worstPupils_42 : decode cX1_worstPupils 42 = .ok (.if_icmp .ne 44, 3) := by decide +kernel
theorem dX1_worstPupils_45 : decode cX1_worstPupils 45 = .ok (.aload_n 0, 1) := by decide +kernel
theorem dX1_worstPupils_46 : decode cX1_worstPupils 46 = .ok (.getfield 12, 3) := by decide +kernel
theorem dX1_worstPupils_49 : decode cX1_worstPupils 49 = .ok (.aload_n 1, 1) := by decide +kernel
theorem dX1_worstPupils_50 : decode cX1_worstPupils 50 = .ok (.invokevirtual 22, 3) := by decide +kernel
theorem dX1_worstPupils_53 : decode cX1_worstPupils 53 = .ok (.aload_n 0, 1) := by decide +kernel
theorem dX1_worstPupils_54 : decode cX1_worstPupils 54 = .ok (.iload 7, 2) := by decide +kernel
theorem dX1_worstPupils_56 : decode cX1_worstPupils 56 = .ok (.iload_n 2, 1) := by decide +kernel
theorem dX1_worstPupils_57 : decode cX1_worstPupils 57 = .ok (.invokevirtual 63, 3) := by decide +kernel
theorem dX1_worstPupils_60 : decode cX1_worstPupils 60 = .ok (.aload_n 0, 1) := by decide +kernel
theorem dX1_worstPupils_61 : decode cX1_worstPupils 61 = .ok (.iload_n 2, 1) := by decide +kernel
theorem dX1_worstPupils_62 : decode cX1_worstPupils 62 = .ok (.iload 6, 2) := by decide +kernel
theorem dX1_worstPupils_64 : decode cX1_worstPupils 64 = .ok (.iconst 1, 1) := by decide +kernel
theorem dX1_worstPupils_65 : decode cX1_worstPupils 65 = .ok (.isub, 1) := by decide +kernel
theorem dX1_worstPupils_66 : decode cX1_worstPupils 66 = .ok (.invokevirtual 30, 3) := by decide +kernel
theorem dX1_worstPupils_69 : decode cX1_worstPupils 69 = .ok (.istore 8, 2) := by decide +kernel
theorem dX1_worstPupils_71 : decode cX1_worstPupils 71 = .ok (.iload 8, 2) := by decide +kernel
theorem dX1_worstPupils_73 : decode cX1_worstPupils 73 = .ok (.iload 6, 2) := by decide +kernel
theorem dX1_worstPupils_75 : decode cX1_worstPupils 75 = .ok (.if_icmp .ge 11, 3) := by decide +kernel
theorem dX1_worstPupils_78 : decode cX1_worstPupils 78 = .ok (.iload 7, 2) := by decide +kernel
theorem dX1_worstPupils_80 : decode cX1_worstPupils 80 = .ok (.istore 5, 2) := by decide +kernel
theorem dX1_worstPupils_82 : decode cX1_worstPupils 82 = .ok (.iload 8, 2) := by decide +kernel
theorem dX1_worstPupils_84 : decode cX1_worstPupils 84 = .ok (.istore 6, 2) := by decide +kernel
theorem dX1_worstPupils_86 : decode cX1_worstPupils 86 = .ok (.iinc 7 1, 3) := by decide +kernel
theorem dX1_worstPupils_89 : decode cX1_worstPupils 89 = .ok (.goto (-72), 3) := by decide +kernel
theorem dX1_worstPupils_92 : decode cX1_worstPupils 92 = .ok (.iload 5, 2) := by decide +kernel
theorem dX1_worstPupils_94 : decode cX1_worstPupils 94 = .ok (.ireturn, 1) := by decide +kernel
set_option maxRecDepth 100000 in
set_option maxHeartbeats 4000000 in
theorem lc_X1_worstPupils_17 (Z : ZZ) (l : Launch) (a0 : Nat) (a1 : Nat) (a2 : Int32) (a3 : Int32) (a4 : Int32) {args : Array Value} {h0 h1 : HP} {v0 : Int32} (K : Int32 → HP → Option (Int32 × HP)) (F : Int32 → Int32 → Int32 → HP → Option (Int32 × HP))
    (hK : ∀ (b5 : Int32) (h : HP), Sim Z l cX1_worstPupils RX1 9 6 135 (some .int) "worstPupils" args (Mq Z args h0 h1 (some (.int v0))) h0 h1 v0 92 [(5, .int b5)] [] h (K b5 h))
    (hF : ∀ (b5 : Int32) (b6 : Int32) (b7 : Int32) (h : HP), Sim Z l cX1_worstPupils RX1 9 6 135 (some .int) "worstPupils" args (Mq Z args h0 h1 (some (.int v0))) h0 h1 v0 17 [(0, .ref (zb Z + a0)), (1, .ref (zb Z + a1)), (2, .int a2), (3, .int a3), (4, .int a4), (5, .int b5), (6, .int b6), (7, .int b7)] [] h (F b5 b6 b7 h)) :
    ∀ (b5 : Int32) (b6 : Int32) (b7 : Int32) (h : HP), Sim Z l cX1_worstPupils RX1 9 6 135 (some .int) "worstPupils" args (Mq Z args h0 h1 (some (.int v0))) h0 h1 v0 17 [(0, .ref (zb Z + a0)), (1, .ref (zb Z + a1)), (2, .int a2), (3, .int a3), (4, .int a4), (5, .int b5), (6, .int b6), (7, .int b7)] [] h (lb_X1_worstPupils_17 a0 a1 a2 a3 a4 K F b5 b6 b7 h) := by
  intro b5 b6 b7 h
  unfold lb_X1_worstPupils_17
  refine S_iload dX1_worstPupils_17 7 rfl (pc' := 19) rfl ?_
  refine S_iconst dX1_worstPupils_19 (v := 1) rfl (pc' := 20) rfl ?_
  refine S_aload_n dX1_worstPupils_20 rfl 1 rfl (pc' := 21) rfl ?_
  refine S_getI fl_X1_48 rfl dX1_worstPupils_21 (pc' := 24) rfl (fun x21 => ?_)
  refine S_ishl dX1_worstPupils_24 (pc' := 25) rfl ?_
  refine S_icmp_ge dX1_worstPupils_25 92 rfl (pc' := 28) rfl (fun g25 => ?_) (fun g25 => ?_)
  · refine Sim.sub [5] rfl ?_
    exact hK _ _
  · refine S_iload dX1_worstPupils_28 7 rfl (pc' := 30) rfl ?_
    refine S_iload dX1_worstPupils_30 4 rfl (pc' := 32) rfl ?_
    refine S_iand dX1_worstPupils_32 (pc' := 33) rfl ?_
    refine S_if_ne dX1_worstPupils_33 86 rfl (pc' := 36) rfl (fun g33 => ?_) (fun g33 => ?_)
    · refine S_iinc dX1_worstPupils_86 (q := 7) rfl (v := b7 + 1) rfl (by decide) (lo' := [(7, .int (b7 + 1)), (0, .ref (zb Z + a0)), (1, .ref (zb Z + a1)), (2, .int a2), (3, .int a3), (4, .int a4), (5, .int b5), (6, .int b6)]) rfl (pc' := 89) rfl ?_
      refine S_goto dX1_worstPupils_89 17 rfl ?_
      refine Sim.sub [1, 2, 3, 4, 5, 6, 7, 0] rfl ?_
      exact hF _ _ _ _
    · refine S_iload dX1_worstPupils_36 7 rfl (pc' := 38) rfl ?_
      refine S_stai ml_X1_58 ms_J6_bitCount_0f7a4 dX1_worstPupils_38 [.int b7] rfl (fun v h2 q => c_J6_bitCount_0f7a4 Z l _ _ q) ⟨Nat.le_of_ble_eq_true rfl, Nat.le_of_ble_eq_true rfl⟩ (rest := []) (Nat.le_of_ble_eq_true rfl) rfl (pc' := 41) rfl (fun x38 h38 => ?_)
      refine S_iload_n dX1_worstPupils_41 rfl 3 rfl (pc' := 42) rfl ?_
      refine S_icmp_ne dX1_worstPupils_42 86 rfl (pc' := 45) rfl (fun g42 => ?_) (fun g42 => ?_)
      · refine S_iinc dX1_worstPupils_86 (q := 7) rfl (v := b7 + 1) rfl (by decide) (lo' := [(7, .int (b7 + 1)), (0, .ref (zb Z + a0)), (1, .ref (zb Z + a1)), (2, .int a2), (3, .int a3), (4, .int a4), (5, .int b5), (6, .int b6)]) rfl (pc' := 89) rfl ?_
        refine S_goto dX1_worstPupils_89 17 rfl ?_
        refine Sim.sub [1, 2, 3, 4, 5, 6, 7, 0] rfl ?_
        exact hF _ _ _ _
      · refine S_aload_n dX1_worstPupils_45 rfl 0 rfl (pc' := 46) rfl ?_
        refine S_getR fl_X1_12 rfl dX1_worstPupils_46 (pc' := 49) rfl (fun x46 => ?_)
        refine S_aload_n dX1_worstPupils_49 rfl 1 rfl (pc' := 50) rfl ?_
        refine S_invv ml_X1_22 mi_X0_become (ci := 0) ⟨_, rfl, rfl⟩ (by decide) dX1_worstPupils_50 [.ref (zb Z + a1)] rfl (fun v h2 q => c_X0_become Z l _ _ _ q) ⟨Nat.le_of_ble_eq_true rfl, Nat.le_of_ble_eq_true rfl⟩ (rest := []) (Nat.le_of_ble_eq_true rfl) rfl (pc' := 53) rfl (fun _ h50 => ?_)
        refine S_aload_n dX1_worstPupils_53 rfl 0 rfl (pc' := 54) rfl ?_
        refine S_iload dX1_worstPupils_54 7 rfl (pc' := 56) rfl ?_
        refine S_iload_n dX1_worstPupils_56 rfl 2 rfl (pc' := 57) rfl ?_
        refine S_invv ml_X1_63 mi_X1_teachThen (ci := 1) ⟨_, rfl, rfl⟩ (by decide) dX1_worstPupils_57 [.int b7, .int a2] rfl (fun v h2 q => c_X1_teachThen Z l _ _ _ _ q) ⟨Nat.le_of_ble_eq_true rfl, Nat.le_of_ble_eq_true rfl⟩ (rest := []) (Nat.le_of_ble_eq_true rfl) rfl (pc' := 60) rfl (fun _ h57 => ?_)
        refine S_aload_n dX1_worstPupils_60 rfl 0 rfl (pc' := 61) rfl ?_
        refine S_iload_n dX1_worstPupils_61 rfl 2 rfl (pc' := 62) rfl ?_
        refine S_iload dX1_worstPupils_62 6 rfl (pc' := 64) rfl ?_
        refine S_iconst dX1_worstPupils_64 (v := 1) rfl (pc' := 65) rfl ?_
        refine S_isub dX1_worstPupils_65 (pc' := 66) rfl ?_
        refine S_invi ml_X1_30 mi_X1_lossFromThen (ci := 1) ⟨_, rfl, rfl⟩ (by decide) dX1_worstPupils_66 [.int a2, .int (b6 - 1)] rfl (fun v h2 q => c_X1_lossFromThen Z l _ _ _ _ q) ⟨Nat.le_of_ble_eq_true rfl, Nat.le_of_ble_eq_true rfl⟩ (rest := []) (Nat.le_of_ble_eq_true rfl) rfl (pc' := 69) rfl (fun x66 h66 => ?_)
        refine S_istore dX1_worstPupils_69 (by decide) (lo' := [(8, .int x66), (0, .ref (zb Z + a0)), (1, .ref (zb Z + a1)), (2, .int a2), (3, .int a3), (4, .int a4), (5, .int b5), (6, .int b6), (7, .int b7)]) rfl (pc' := 71) rfl ?_
        refine S_iload dX1_worstPupils_71 0 rfl (pc' := 73) rfl ?_
        refine S_iload dX1_worstPupils_73 7 rfl (pc' := 75) rfl ?_
        refine S_icmp_ge dX1_worstPupils_75 86 rfl (pc' := 78) rfl (fun g75 => ?_) (fun g75 => ?_)
        · refine S_iinc dX1_worstPupils_86 (q := 8) rfl (v := b7 + 1) rfl (by decide) (lo' := [(7, .int (b7 + 1)), (8, .int x66), (0, .ref (zb Z + a0)), (1, .ref (zb Z + a1)), (2, .int a2), (3, .int a3), (4, .int a4), (5, .int b5), (6, .int b6)]) rfl (pc' := 89) rfl ?_
          refine S_goto dX1_worstPupils_89 17 rfl ?_
          refine Sim.sub [2, 3, 4, 5, 6, 7, 8, 0] rfl ?_
          exact hF _ _ _ _
        · refine S_iload dX1_worstPupils_78 8 rfl (pc' := 80) rfl ?_
          refine S_istore dX1_worstPupils_80 (by decide) (lo' := [(5, .int b7), (8, .int x66), (0, .ref (zb Z + a0)), (1, .ref (zb Z + a1)), (2, .int a2), (3, .int a3), (4, .int a4), (6, .int b6), (7, .int b7)]) rfl (pc' := 82) rfl ?_
          refine S_iload dX1_worstPupils_82 1 rfl (pc' := 84) rfl ?_
          refine S_istore dX1_worstPupils_84 (by decide) (lo' := [(6, .int x66), (5, .int b7), (8, .int x66), (0, .ref (zb Z + a0)), (1, .ref (zb Z + a1)), (2, .int a2), (3, .int a3), (4, .int a4), (7, .int b7)]) rfl (pc' := 86) rfl ?_
          refine S_iinc dX1_worstPupils_86 (q := 8) rfl (v := b7 + 1) rfl (by decide) (lo' := [(7, .int (b7 + 1)), (6, .int x66), (5, .int b7), (8, .int x66), (0, .ref (zb Z + a0)), (1, .ref (zb Z + a1)), (2, .int a2), (3, .int a3), (4, .int a4)]) rfl (pc' := 89) rfl ?_
          refine S_goto dX1_worstPupils_89 17 rfl ?_
          refine Sim.sub [4, 5, 6, 7, 8, 2, 1, 0] rfl ?_
          exact hF _ _ _ _
theorem lq_X1_worstPupils_17 (Z : ZZ) (l : Launch) (a0 : Nat) (a1 : Nat) (a2 : Int32) (a3 : Int32) (a4 : Int32) {args : Array Value} {h0 h1 : HP} {v0 : Int32} (K : Int32 → HP → Option (Int32 × HP))
    (hK : ∀ (b5 : Int32) (h : HP), Sim Z l cX1_worstPupils RX1 9 6 135 (some .int) "worstPupils" args (Mq Z args h0 h1 (some (.int v0))) h0 h1 v0 92 [(5, .int b5)] [] h (K b5 h)) :
    ∀ (k : Nat) (b5 : Int32) (b6 : Int32) (b7 : Int32) (h : HP), Sim Z l cX1_worstPupils RX1 9 6 135 (some .int) "worstPupils" args (Mq Z args h0 h1 (some (.int v0))) h0 h1 v0 17 [(0, .ref (zb Z + a0)), (1, .ref (zb Z + a1)), (2, .int a2), (3, .int a3), (4, .int a4), (5, .int b5), (6, .int b6), (7, .int b7)] [] h (lp_X1_worstPupils_17 a0 a1 a2 a3 a4 K k b5 b6 b7 h) := by
  intro k
  induction k with
  | zero => exact fun _ _ _ _ => Sim.none
  | succ k ih => exact lc_X1_worstPupils_17 Z l a0 a1 a2 a3 a4 K _ hK ih
set_option maxRecDepth 100000 in
set_option maxHeartbeats 4000000 in
theorem c_X1_worstPupils (Z : ZZ) (l : Launch) (t : Nat) (a1 : Nat) (a2 : Int32) (a3 : Int32) (h : HP) {v : Int32} {h1 : HP} (ho : f_X1_worstPupils t a1 a2 a3 h = some (v, h1)) : MetP Z l yX1_worstPupils cX1_worstPupils 9 (some .int) 6 135 [.ref (zb Z + t), .ref (zb Z + a1), .int a2, .int a3] h (some (.int v)) h1 := by
  refine MetP_of ho (by decide +kernel) (Nat.le_of_ble_eq_true rfl) [(0, .ref (zb Z + t)), (1, .ref (zb Z + a1)), (2, .int a2), (3, .int a3)] rfl (own := RX1) rfl (nm := "worstPupils") rfl ?_
  unfold f_X1_worstPupils
  refine S_aload_n dX1_worstPupils_0 rfl 1 rfl (pc' := 1) rfl ?_
  refine S_iload_n dX1_worstPupils_1 rfl 2 rfl (pc' := 2) rfl ?_
  refine S_invi ml_X1_44 mi_X0_havers (ci := 0) ⟨_, rfl, rfl⟩ (by decide) dX1_worstPupils_2 [.int a2] rfl (fun v h2 q => c_X0_havers Z l _ _ _ q) ⟨Nat.le_of_ble_eq_true rfl, Nat.le_of_ble_eq_true rfl⟩ (rest := []) (Nat.le_of_ble_eq_true rfl) rfl (pc' := 5) rfl (fun x2 h2 => ?_)
  refine S_istore dX1_worstPupils_5 (by decide) (lo' := [(4, .int x2), (0, .ref (zb Z + t)), (1, .ref (zb Z + a1)), (2, .int a2), (3, .int a3)]) rfl (pc' := 7) rfl ?_
  refine S_iconst dX1_worstPupils_7 (v := (-1)) rfl (pc' := 8) rfl ?_
  refine S_istore dX1_worstPupils_8 (by decide) (lo' := [(5, .int (-1)), (4, .int x2), (0, .ref (zb Z + t)), (1, .ref (zb Z + a1)), (2, .int a2), (3, .int a3)]) rfl (pc' := 10) rfl ?_
  refine S_bipush dX1_worstPupils_10 (v := 61) rfl (pc' := 12) rfl ?_
  refine S_istore dX1_worstPupils_12 (by decide) (lo' := [(6, .int 61), (5, .int (-1)), (4, .int x2), (0, .ref (zb Z + t)), (1, .ref (zb Z + a1)), (2, .int a2), (3, .int a3)]) rfl (pc' := 14) rfl ?_
  refine S_iconst dX1_worstPupils_14 (v := 0) rfl (pc' := 15) rfl ?_
  refine S_istore dX1_worstPupils_15 (by decide) (lo' := [(7, .int 0), (6, .int 61), (5, .int (-1)), (4, .int x2), (0, .ref (zb Z + t)), (1, .ref (zb Z + a1)), (2, .int a2), (3, .int a3)]) rfl (pc' := 17) rfl ?_
  refine Sim.sub [4, 5, 6, 7, 3, 2, 1, 0] rfl ?_
  refine lq_X1_worstPupils_17 Z l t a1 a2 a3 x2 _ ?_ 1000 _ _ _ _
  intro b5_17 h17_
  refine S_iload dX1_worstPupils_92 0 rfl (pc' := 94) rfl ?_
  exact S_iret rfl dX1_worstPupils_94
theorem dX1_bestHummer_0 : decode cX1_bestHummer 0 = .ok (.iconst (-1), 1) := by decide +kernel
theorem dX1_bestHummer_1 : decode cX1_bestHummer 1 = .ok (.istore_n 3, 1) := by decide +kernel
theorem dX1_bestHummer_2 : decode cX1_bestHummer 2 = .ok (.iconst (-1), 1) := by decide +kernel
theorem dX1_bestHummer_3 : decode cX1_bestHummer 3 = .ok (.istore 4, 2) := by decide +kernel
theorem dX1_bestHummer_5 : decode cX1_bestHummer 5 = .ok (.iconst 0, 1) := by decide +kernel
theorem dX1_bestHummer_6 : decode cX1_bestHummer 6 = .ok (.istore 5, 2) := by decide +kernel
theorem dX1_bestHummer_8 : decode cX1_bestHummer 8 = .ok (.iload 5, 2) := by decide +kernel
theorem dX1_bestHummer_10 : decode cX1_bestHummer 10 = .ok (.aload_n 1, 1) := by decide +kernel
theorem dX1_bestHummer_11 : decode cX1_bestHummer 11 = .ok (.getfield 48, 3) := by decide +kernel
theorem dX1_bestHummer_14 : decode cX1_bestHummer 14 = .ok (.if_icmp .ge 61, 3) := by decide +kernel
theorem dX1_bestHummer_17 : decode cX1_bestHummer 17 = .ok (.aload_n 1, 1) := by decide +kernel
theorem dX1_bestHummer_18 : decode cX1_bestHummer 18 = .ok (.iload 5, 2) := by decide +kernel
theorem dX1_bestHummer_20 : decode cX1_bestHummer 20 = .ok (.iload_n 2, 1) := by decide +kernel
theorem dX1_bestHummer_21 : decode cX1_bestHummer 21 = .ok (.invokevirtual 41, 3) := by decide +kernel
theorem dX1_bestHummer_24 : decode cX1_bestHummer 24 = .ok (.iconst (-1), 1) := by decide +kernel
theorem dX1_bestHummer_25 : decode cX1_bestHummer 25 = .ok (.if_icmp .eq 44, 3) := by decide +kernel
theorem dX1_bestHummer_28 : decode cX1_bestHummer 28 = .ok (.aload_n 0, 1) := by decide +kernel
theorem dX1_bestHummer_29 : decode cX1_bestHummer 29 = .ok (.getfield 12, 3) := by decide +kernel
theorem dX1_bestHummer_32 : decode cX1_bestHummer 32 = .ok (.aload_n 1, 1) := by decide +kernel
theorem dX1_bestHummer_33 : decode cX1_bestHummer 33 = .ok (.invokevirtual 22, 3) := by decide +kernel
theorem dX1_bestHummer_36 : decode cX1_bestHummer 36 = .ok (.aload_n 0, 1) := by decide +kernel
theorem dX1_bestHummer_37 : decode cX1_bestHummer 37 = .ok (.getfield 12, 3) := by decide +kernel
theorem dX1_bestHummer_40 : decode cX1_bestHummer 40 = .ok (.iload 5, 2) := by decide +kernel
theorem dX1_bestHummer_42 : decode cX1_bestHummer 42 = .ok (.iconst 1, 1) := by decide +kernel
theorem dX1_bestHummer_43 : decode cX1_bestHummer 43 = .ok (.invokevirtual 71, 3) := by decide +kernel
theorem dX1_bestHummer_46 : decode cX1_bestHummer 46 = .ok (.aload_n 0, 1) := by decide +kernel
theorem dX1_bestHummer_47 : decode cX1_bestHummer 47 = .ok (.iload_n 2, 1) := by decide +kernel
theorem dX1_bestHummer_48 : decode cX1_bestHummer 48 = .ok (.bipush 60, 2) := by decide +kernel
theorem dX1_bestHummer_50 : decode cX1_bestHummer 50 = .ok (.invokevirtual 30, 3) := by decide +kernel
theorem dX1_bestHummer_53 : decode cX1_bestHummer 53 = .ok (.istore 6, 2) := by decide +kernel
theorem dX1_bestHummer_55 : decode cX1_bestHummer 55 = .ok (.iload 6, 2) := by decide +kernel
theorem dX1_bestHummer_57 : decode cX1_bestHummer 57 = .ok (.iload 4, 2) := by decide +kernel
theorem dX1_bestHummer_59 : decode cX1_bestHummer 59 = .ok (.if_icmp .le 10, 3) := by decide +kernel
theorem dX1_bestHummer_62 : decode cX1_bestHummer 62 = .ok (.iload 5, 2) := by decide +kernel
theorem dX1_bestHummer_64 : decode cX1_bestHummer 64 = .ok (.istore_n 3, 1) := by decide +kernel
theorem dX1_bestHummer_65 : decode cX1_bestHummer 65 = .ok (.iload 6, 2) := by decide +kernel
theorem dX1_bestHummer_67 : decode cX1_bestHummer 67 = .ok (.istore 4, 2) := by decide +kernel
theorem dX1_bestHummer_69 : decode cX1_bestHummer 69 = .ok (.iinc 5 1, 3) := by decide +kernel
theorem dX1_bestHummer_72 : decode cX1_bestHummer 72 = .ok (.goto (-64), 3) := by decide +kernel
theorem dX1_bestHummer_75 : decode cX1_bestHummer 75 = .ok (.iload_n 3, 1) := by decide +kernel
theorem dX1_bestHummer_76 : decode cX1_bestHummer 76 = .ok (.ireturn, 1) := by decide +kernel
set_option maxRecDepth 100000 in
set_option maxHeartbeats 4000000 in
theorem lc_X1_bestHummer_8 (Z : ZZ) (l : Launch) (a0 : Nat) (a1 : Nat) (a2 : Int32) {args : Array Value} {h0 h1 : HP} {v0 : Int32} (K : Int32 → HP → Option (Int32 × HP)) (F : Int32 → Int32 → Int32 → HP → Option (Int32 × HP))
    (hK : ∀ (b3 : Int32) (h : HP), Sim Z l cX1_bestHummer RX1 7 6 135 (some .int) "bestHummer" args (Mq Z args h0 h1 (some (.int v0))) h0 h1 v0 75 [(3, .int b3)] [] h (K b3 h))
    (hF : ∀ (b3 : Int32) (b4 : Int32) (b5 : Int32) (h : HP), Sim Z l cX1_bestHummer RX1 7 6 135 (some .int) "bestHummer" args (Mq Z args h0 h1 (some (.int v0))) h0 h1 v0 8 [(0, .ref (zb Z + a0)), (1, .ref (zb Z + a1)), (2, .int a2), (3, .int b3), (4, .int b4), (5, .int b5)] [] h (F b3 b4 b5 h)) :
    ∀ (b3 : Int32) (b4 : Int32) (b5 : Int32) (h : HP), Sim Z l cX1_bestHummer RX1 7 6 135 (some .int) "bestHummer" args (Mq Z args h0 h1 (some (.int v0))) h0 h1 v0 8 [(0, .ref (zb Z + a0)), (1, .ref (zb Z + a1)), (2, .int a2), (3, .int b3), (4, .int b4), (5, .int b5)] [] h (lb_X1_bestHummer_8 a0 a1 a2 K F b3 b4 b5 h) := by
  intro b3 b4 b5 h
  unfold lb_X1_bestHummer_8
  refine S_iload dX1_bestHummer_8 5 rfl (pc' := 10) rfl ?_
  refine S_aload_n dX1_bestHummer_10 rfl 1 rfl (pc' := 11) rfl ?_
  refine S_getI fl_X1_48 rfl dX1_bestHummer_11 (pc' := 14) rfl (fun x11 => ?_)
  refine S_icmp_ge dX1_bestHummer_14 75 rfl (pc' := 17) rfl (fun g14 => ?_) (fun g14 => ?_)
  · refine Sim.sub [3] rfl ?_
    exact hK _ _
  · refine S_aload_n dX1_bestHummer_17 rfl 1 rfl (pc' := 18) rfl ?_
    refine S_iload dX1_bestHummer_18 5 rfl (pc' := 20) rfl ?_
    refine S_iload_n dX1_bestHummer_20 rfl 2 rfl (pc' := 21) rfl ?_
    refine S_invi ml_X1_41 mi_X0_heldFor (ci := 0) ⟨_, rfl, rfl⟩ (by decide) dX1_bestHummer_21 [.int b5, .int a2] rfl (fun v h2 q => c_X0_heldFor Z l _ _ _ _ q) ⟨Nat.le_of_ble_eq_true rfl, Nat.le_of_ble_eq_true rfl⟩ (rest := []) (Nat.le_of_ble_eq_true rfl) rfl (pc' := 24) rfl (fun x21 h21 => ?_)
    refine S_iconst dX1_bestHummer_24 (v := (-1)) rfl (pc' := 25) rfl ?_
    refine S_icmp_eq dX1_bestHummer_25 69 rfl (pc' := 28) rfl (fun g25 => ?_) (fun g25 => ?_)
    · refine S_iinc dX1_bestHummer_69 (q := 5) rfl (v := b5 + 1) rfl (by decide) (lo' := [(5, .int (b5 + 1)), (0, .ref (zb Z + a0)), (1, .ref (zb Z + a1)), (2, .int a2), (3, .int b3), (4, .int b4)]) rfl (pc' := 72) rfl ?_
      refine S_goto dX1_bestHummer_72 8 rfl ?_
      refine Sim.sub [1, 2, 3, 4, 5, 0] rfl ?_
      exact hF _ _ _ _
    · refine S_aload_n dX1_bestHummer_28 rfl 0 rfl (pc' := 29) rfl ?_
      refine S_getR fl_X1_12 rfl dX1_bestHummer_29 (pc' := 32) rfl (fun x29 => ?_)
      refine S_aload_n dX1_bestHummer_32 rfl 1 rfl (pc' := 33) rfl ?_
      refine S_invv ml_X1_22 mi_X0_become (ci := 0) ⟨_, rfl, rfl⟩ (by decide) dX1_bestHummer_33 [.ref (zb Z + a1)] rfl (fun v h2 q => c_X0_become Z l _ _ _ q) ⟨Nat.le_of_ble_eq_true rfl, Nat.le_of_ble_eq_true rfl⟩ (rest := []) (Nat.le_of_ble_eq_true rfl) rfl (pc' := 36) rfl (fun _ h33 => ?_)
      refine S_aload_n dX1_bestHummer_36 rfl 0 rfl (pc' := 37) rfl ?_
      refine S_getR fl_X1_12 rfl dX1_bestHummer_37 (pc' := 40) rfl (fun x37 => ?_)
      refine S_iload dX1_bestHummer_40 5 rfl (pc' := 42) rfl ?_
      refine S_iconst dX1_bestHummer_42 (v := 1) rfl (pc' := 43) rfl ?_
      refine S_invv ml_X1_71 mi_X0_setHums (ci := 0) ⟨_, rfl, rfl⟩ (by decide) dX1_bestHummer_43 [.int b5, .int 1] rfl (fun v h2 q => c_X0_setHums Z l _ _ _ _ q) ⟨Nat.le_of_ble_eq_true rfl, Nat.le_of_ble_eq_true rfl⟩ (rest := []) (Nat.le_of_ble_eq_true rfl) rfl (pc' := 46) rfl (fun _ h43 => ?_)
      refine S_aload_n dX1_bestHummer_46 rfl 0 rfl (pc' := 47) rfl ?_
      refine S_iload_n dX1_bestHummer_47 rfl 2 rfl (pc' := 48) rfl ?_
      refine S_bipush dX1_bestHummer_48 (v := 60) rfl (pc' := 50) rfl ?_
      refine S_invi ml_X1_30 mi_X1_lossFromThen (ci := 1) ⟨_, rfl, rfl⟩ (by decide) dX1_bestHummer_50 [.int a2, .int 60] rfl (fun v h2 q => c_X1_lossFromThen Z l _ _ _ _ q) ⟨Nat.le_of_ble_eq_true rfl, Nat.le_of_ble_eq_true rfl⟩ (rest := []) (Nat.le_of_ble_eq_true rfl) rfl (pc' := 53) rfl (fun x50 h50 => ?_)
      refine S_istore dX1_bestHummer_53 (by decide) (lo' := [(6, .int x50), (0, .ref (zb Z + a0)), (1, .ref (zb Z + a1)), (2, .int a2), (3, .int b3), (4, .int b4), (5, .int b5)]) rfl (pc' := 55) rfl ?_
      refine S_iload dX1_bestHummer_55 0 rfl (pc' := 57) rfl ?_
      refine S_iload dX1_bestHummer_57 5 rfl (pc' := 59) rfl ?_
      refine S_icmp_le dX1_bestHummer_59 69 rfl (pc' := 62) rfl (fun g59 => ?_) (fun g59 => ?_)
      · refine S_iinc dX1_bestHummer_69 (q := 6) rfl (v := b5 + 1) rfl (by decide) (lo' := [(5, .int (b5 + 1)), (6, .int x50), (0, .ref (zb Z + a0)), (1, .ref (zb Z + a1)), (2, .int a2), (3, .int b3), (4, .int b4)]) rfl (pc' := 72) rfl ?_
        refine S_goto dX1_bestHummer_72 8 rfl ?_
        refine Sim.sub [2, 3, 4, 5, 6, 0] rfl ?_
        exact hF _ _ _ _
      · refine S_iload dX1_bestHummer_62 6 rfl (pc' := 64) rfl ?_
        refine S_istore_n dX1_bestHummer_64 rfl (by decide) (lo' := [(3, .int b5), (6, .int x50), (0, .ref (zb Z + a0)), (1, .ref (zb Z + a1)), (2, .int a2), (4, .int b4), (5, .int b5)]) rfl (pc' := 65) rfl ?_
        refine S_iload dX1_bestHummer_65 1 rfl (pc' := 67) rfl ?_
        refine S_istore dX1_bestHummer_67 (by decide) (lo' := [(4, .int x50), (3, .int b5), (6, .int x50), (0, .ref (zb Z + a0)), (1, .ref (zb Z + a1)), (2, .int a2), (5, .int b5)]) rfl (pc' := 69) rfl ?_
        refine S_iinc dX1_bestHummer_69 (q := 6) rfl (v := b5 + 1) rfl (by decide) (lo' := [(5, .int (b5 + 1)), (4, .int x50), (3, .int b5), (6, .int x50), (0, .ref (zb Z + a0)), (1, .ref (zb Z + a1)), (2, .int a2)]) rfl (pc' := 72) rfl ?_
        refine S_goto dX1_bestHummer_72 8 rfl ?_
        refine Sim.sub [4, 5, 6, 2, 1, 0] rfl ?_
        exact hF _ _ _ _
theorem lq_X1_bestHummer_8 (Z : ZZ) (l : Launch) (a0 : Nat) (a1 : Nat) (a2 : Int32) {args : Array Value} {h0 h1 : HP} {v0 : Int32} (K : Int32 → HP → Option (Int32 × HP))
    (hK : ∀ (b3 : Int32) (h : HP), Sim Z l cX1_bestHummer RX1 7 6 135 (some .int) "bestHummer" args (Mq Z args h0 h1 (some (.int v0))) h0 h1 v0 75 [(3, .int b3)] [] h (K b3 h)) :
    ∀ (k : Nat) (b3 : Int32) (b4 : Int32) (b5 : Int32) (h : HP), Sim Z l cX1_bestHummer RX1 7 6 135 (some .int) "bestHummer" args (Mq Z args h0 h1 (some (.int v0))) h0 h1 v0 8 [(0, .ref (zb Z + a0)), (1, .ref (zb Z + a1)), (2, .int a2), (3, .int b3), (4, .int b4), (5, .int b5)] [] h (lp_X1_bestHummer_8 a0 a1 a2 K k b3 b4 b5 h) := by
  intro k
  induction k with
  | zero => exact fun _ _ _ _ => Sim.none
  | succ k ih => exact lc_X1_bestHummer_8 Z l a0 a1 a2 K _ hK ih
set_option maxRecDepth 100000 in
set_option maxHeartbeats 4000000 in
theorem c_X1_bestHummer (Z : ZZ) (l : Launch) (t : Nat) (a1 : Nat) (a2 : Int32) (h : HP) {v : Int32} {h1 : HP} (ho : f_X1_bestHummer t a1 a2 h = some (v, h1)) : MetP Z l yX1_bestHummer cX1_bestHummer 7 (some .int) 6 135 [.ref (zb Z + t), .ref (zb Z + a1), .int a2] h (some (.int v)) h1 := by
  refine MetP_of ho (by decide +kernel) (Nat.le_of_ble_eq_true rfl) [(0, .ref (zb Z + t)), (1, .ref (zb Z + a1)), (2, .int a2)] rfl (own := RX1) rfl (nm := "bestHummer") rfl ?_
  unfold f_X1_bestHummer
  refine S_iconst dX1_bestHummer_0 (v := (-1)) rfl (pc' := 1) rfl ?_
  refine S_istore_n dX1_bestHummer_1 rfl (by decide) (lo' := [(3, .int (-1)), (0, .ref (zb Z + t)), (1, .ref (zb Z + a1)), (2, .int a2)]) rfl (pc' := 2) rfl ?_
  refine S_iconst dX1_bestHummer_2 (v := (-1)) rfl (pc' := 3) rfl ?_
  refine S_istore dX1_bestHummer_3 (by decide) (lo' := [(4, .int (-1)), (3, .int (-1)), (0, .ref (zb Z + t)), (1, .ref (zb Z + a1)), (2, .int a2)]) rfl (pc' := 5) rfl ?_
  refine S_iconst dX1_bestHummer_5 (v := 0) rfl (pc' := 6) rfl ?_
  refine S_istore dX1_bestHummer_6 (by decide) (lo' := [(5, .int 0), (4, .int (-1)), (3, .int (-1)), (0, .ref (zb Z + t)), (1, .ref (zb Z + a1)), (2, .int a2)]) rfl (pc' := 8) rfl ?_
  refine Sim.sub [3, 4, 5, 2, 1, 0] rfl ?_
  refine lq_X1_bestHummer_8 Z l t a1 a2 _ ?_ 1000 _ _ _ _
  intro b3_8 h8_
  refine S_iload_n dX1_bestHummer_75 rfl 0 rfl (pc' := 76) rfl ?_
  exact S_iret rfl dX1_bestHummer_76
theorem dX1_nextLost_0 : decode cX1_nextLost 0 = .ok (.iconst (-1), 1) := by decide +kernel
theorem dX1_nextLost_1 : decode cX1_nextLost 1 = .ok (.istore_n 2, 1) := by decide +kernel
theorem dX1_nextLost_2 : decode cX1_nextLost 2 = .ok (.bipush 61, 2) := by decide +kernel
theorem dX1_nextLost_4 : decode cX1_nextLost 4 = .ok (.istore_n 3, 1) := by decide +kernel
theorem dX1_nextLost_5 : decode cX1_nextLost 5 = .ok (.iconst 0, 1) := by decide +kernel
theorem dX1_nextLost_6 : decode cX1_nextLost 6 = .ok (.istore 4, 2) := by decide +kernel
theorem dX1_nextLost_8 : decode cX1_nextLost 8 = .ok (.iload 4, 2) := by decide +kernel
theorem dX1_nextLost_10 : decode cX1_nextLost 10 = .ok (.aload_n 1, 1) := by decide +kernel
theorem dX1_nextLost_11 : decode cX1_nextLost 11 = .ok (.getfield 75, 3) := by decide +kernel
theorem dX1_nextLost_14 : decode cX1_nextLost 14 = .ok (.if_icmp .ge 50, 3) := by decide +kernel
theorem dX1_nextLost_17 : decode cX1_nextLost 17 = .ok (.aload_n 1, 1) := by decide +kernel
theorem dX1_nextLost_18 : decode cX1_nextLost 18 = .ok (.getfield 34, 3) := by decide +kernel
theorem dX1_nextLost_21 : decode cX1_nextLost 21 = .ok (.iload 4, 2) := by decide +kernel
theorem dX1_nextLost_23 : decode cX1_nextLost 23 = .ok (.iaload, 1) := by decide +kernel
theorem dX1_nextLost_24 : decode cX1_nextLost 24 = .ok (.ifCond .ne 34, 3) := by decide +kernel
theorem dX1_nextLost_27 : decode cX1_nextLost 27 = .ok (.aload_n 0, 1) := by decide +kernel
theorem dX1_nextLost_28 : decode cX1_nextLost 28 = .ok (.getfield 12, 3) := by decide +kernel
theorem dX1_nextLost_31 : decode cX1_nextLost 31 = .ok (.aload_n 1, 1) := by decide +kernel
theorem dX1_nextLost_32 : decode cX1_nextLost 32 = .ok (.invokevirtual 22, 3) := by decide +kernel
theorem dX1_nextLost_35 : decode cX1_nextLost 35 = .ok (.aload_n 0, 1) := by decide +kernel
theorem dX1_nextLost_36 : decode cX1_nextLost 36 = .ok (.iload 4, 2) := by decide +kernel
theorem dX1_nextLost_38 : decode cX1_nextLost 38 = .ok (.iload_n 3, 1) := by decide +kernel
theorem dX1_nextLost_39 : decode cX1_nextLost 39 = .ok (.iconst 1, 1) := by decide +kernel
theorem dX1_nextLost_40 : decode cX1_nextLost 40 = .ok (.isub, 1) := by decide +kernel
theorem dX1_nextLost_41 : decode cX1_nextLost 41 = .ok (.invokevirtual 30, 3) := by decide +kernel
theorem dX1_nextLost_44 : decode cX1_nextLost 44 = .ok (.istore 5, 2) := by decide +kernel
theorem dX1_nextLost_46 : decode cX1_nextLost 46 = .ok (.iload 5, 2) := by decide +kernel
theorem dX1_nextLost_48 : decode cX1_nextLost 48 = .ok (.iload_n 3, 1) := by decide +kernel
theorem dX1_nextLost_49 : decode cX1_nextLost 49 = .ok (.if_icmp .ge 9, 3) := by decide +kernel
theorem dX1_nextLost_52 : decode cX1_nextLost 52 = .ok (.iload 4, 2) := by decide +kernel
theorem dX1_nextLost_54 : decode cX1_nextLost 54 = .ok (.istore_n 2, 1) := by decide +kernel
theorem dX1_nextLost_55 : decode cX1_nextLost 55 = .ok (.iload 5, 2) := by decide +kernel
theorem dX1_nextLost_57 : decode cX1_nextLost 57 = .ok (.istore_n 3, 1) := by decide +kernel
theorem dX1_nextLost_58 : decode cX1_nextLost 58 = .ok (.iinc 4 1, 3) := by decide +kernel
theorem dX1_nextLost_61 : decode cX1_nextLost 61 = .ok (.goto (-53), 3) := by decide +kernel
theorem dX1_nextLost_64 : decode cX1_nextLost 64 = .ok (.iload_n 2, 1) := by decide +kernel
theorem dX1_nextLost_65 : decode cX1_nextLost 65 = .ok (.ireturn, 1) := by decide +kernel
set_option maxRecDepth 100000 in
set_option maxHeartbeats 4000000 in
theorem lc_X1_nextLost_8 (Z : ZZ) (l : Launch) (a0 : Nat) (a1 : Nat) {args : Array Value} {h0 h1 : HP} {v0 : Int32} (K : Int32 → HP → Option (Int32 × HP)) (F : Int32 → Int32 → Int32 → HP → Option (Int32 × HP))
    (hK : ∀ (b2 : Int32) (h : HP), Sim Z l cX1_nextLost RX1 6 6 135 (some .int) "nextLost" args (Mq Z args h0 h1 (some (.int v0))) h0 h1 v0 64 [(2, .int b2)] [] h (K b2 h))
    (hF : ∀ (b2 : Int32) (b3 : Int32) (b4 : Int32) (h : HP), Sim Z l cX1_nextLost RX1 6 6 135 (some .int) "nextLost" args (Mq Z args h0 h1 (some (.int v0))) h0 h1 v0 8 [(0, .ref (zb Z + a0)), (1, .ref (zb Z + a1)), (2, .int b2), (3, .int b3), (4, .int b4)] [] h (F b2 b3 b4 h)) :
    ∀ (b2 : Int32) (b3 : Int32) (b4 : Int32) (h : HP), Sim Z l cX1_nextLost RX1 6 6 135 (some .int) "nextLost" args (Mq Z args h0 h1 (some (.int v0))) h0 h1 v0 8 [(0, .ref (zb Z + a0)), (1, .ref (zb Z + a1)), (2, .int b2), (3, .int b3), (4, .int b4)] [] h (lb_X1_nextLost_8 a0 a1 K F b2 b3 b4 h) := by
  intro b2 b3 b4 h
  unfold lb_X1_nextLost_8
  refine S_iload dX1_nextLost_8 4 rfl (pc' := 10) rfl ?_
  refine S_aload_n dX1_nextLost_10 rfl 1 rfl (pc' := 11) rfl ?_
  refine S_getI fl_X1_75 rfl dX1_nextLost_11 (pc' := 14) rfl (fun x11 => ?_)
  refine S_icmp_ge dX1_nextLost_14 64 rfl (pc' := 17) rfl (fun g14 => ?_) (fun g14 => ?_)
  · refine Sim.sub [2] rfl ?_
    exact hK _ _
  · refine S_aload_n dX1_nextLost_17 rfl 1 rfl (pc' := 18) rfl ?_
    refine S_getR fl_X1_34 rfl dX1_nextLost_18 (pc' := 21) rfl (fun x18 => ?_)
    refine S_iload dX1_nextLost_21 4 rfl (pc' := 23) rfl ?_
    refine S_iaload dX1_nextLost_23 (pc' := 24) rfl (fun x23 => ?_)
    refine S_if_ne dX1_nextLost_24 58 rfl (pc' := 27) rfl (fun g24 => ?_) (fun g24 => ?_)
    · refine S_iinc dX1_nextLost_58 (q := 4) rfl (v := b4 + 1) rfl (by decide) (lo' := [(4, .int (b4 + 1)), (0, .ref (zb Z + a0)), (1, .ref (zb Z + a1)), (2, .int b2), (3, .int b3)]) rfl (pc' := 61) rfl ?_
      refine S_goto dX1_nextLost_61 8 rfl ?_
      refine Sim.sub [1, 2, 3, 4, 0] rfl ?_
      exact hF _ _ _ _
    · refine S_aload_n dX1_nextLost_27 rfl 0 rfl (pc' := 28) rfl ?_
      refine S_getR fl_X1_12 rfl dX1_nextLost_28 (pc' := 31) rfl (fun x28 => ?_)
      refine S_aload_n dX1_nextLost_31 rfl 1 rfl (pc' := 32) rfl ?_
      refine S_invv ml_X1_22 mi_X0_become (ci := 0) ⟨_, rfl, rfl⟩ (by decide) dX1_nextLost_32 [.ref (zb Z + a1)] rfl (fun v h2 q => c_X0_become Z l _ _ _ q) ⟨Nat.le_of_ble_eq_true rfl, Nat.le_of_ble_eq_true rfl⟩ (rest := []) (Nat.le_of_ble_eq_true rfl) rfl (pc' := 35) rfl (fun _ h32 => ?_)
      refine S_aload_n dX1_nextLost_35 rfl 0 rfl (pc' := 36) rfl ?_
      refine S_iload dX1_nextLost_36 4 rfl (pc' := 38) rfl ?_
      refine S_iload_n dX1_nextLost_38 rfl 3 rfl (pc' := 39) rfl ?_
      refine S_iconst dX1_nextLost_39 (v := 1) rfl (pc' := 40) rfl ?_
      refine S_isub dX1_nextLost_40 (pc' := 41) rfl ?_
      refine S_invi ml_X1_30 mi_X1_lossFromThen (ci := 1) ⟨_, rfl, rfl⟩ (by decide) dX1_nextLost_41 [.int b4, .int (b3 - 1)] rfl (fun v h2 q => c_X1_lossFromThen Z l _ _ _ _ q) ⟨Nat.le_of_ble_eq_true rfl, Nat.le_of_ble_eq_true rfl⟩ (rest := []) (Nat.le_of_ble_eq_true rfl) rfl (pc' := 44) rfl (fun x41 h41 => ?_)
      refine S_istore dX1_nextLost_44 (by decide) (lo' := [(5, .int x41), (0, .ref (zb Z + a0)), (1, .ref (zb Z + a1)), (2, .int b2), (3, .int b3), (4, .int b4)]) rfl (pc' := 46) rfl ?_
      refine S_iload dX1_nextLost_46 0 rfl (pc' := 48) rfl ?_
      refine S_iload_n dX1_nextLost_48 rfl 4 rfl (pc' := 49) rfl ?_
      refine S_icmp_ge dX1_nextLost_49 58 rfl (pc' := 52) rfl (fun g49 => ?_) (fun g49 => ?_)
      · refine S_iinc dX1_nextLost_58 (q := 5) rfl (v := b4 + 1) rfl (by decide) (lo' := [(4, .int (b4 + 1)), (5, .int x41), (0, .ref (zb Z + a0)), (1, .ref (zb Z + a1)), (2, .int b2), (3, .int b3)]) rfl (pc' := 61) rfl ?_
        refine S_goto dX1_nextLost_61 8 rfl ?_
        refine Sim.sub [2, 3, 4, 5, 0] rfl ?_
        exact hF _ _ _ _
      · refine S_iload dX1_nextLost_52 5 rfl (pc' := 54) rfl ?_
        refine S_istore_n dX1_nextLost_54 rfl (by decide) (lo' := [(2, .int b4), (5, .int x41), (0, .ref (zb Z + a0)), (1, .ref (zb Z + a1)), (3, .int b3), (4, .int b4)]) rfl (pc' := 55) rfl ?_
        refine S_iload dX1_nextLost_55 1 rfl (pc' := 57) rfl ?_
        refine S_istore_n dX1_nextLost_57 rfl (by decide) (lo' := [(3, .int x41), (2, .int b4), (5, .int x41), (0, .ref (zb Z + a0)), (1, .ref (zb Z + a1)), (4, .int b4)]) rfl (pc' := 58) rfl ?_
        refine S_iinc dX1_nextLost_58 (q := 5) rfl (v := b4 + 1) rfl (by decide) (lo' := [(4, .int (b4 + 1)), (3, .int x41), (2, .int b4), (5, .int x41), (0, .ref (zb Z + a0)), (1, .ref (zb Z + a1))]) rfl (pc' := 61) rfl ?_
        refine S_goto dX1_nextLost_61 8 rfl ?_
        refine Sim.sub [4, 5, 2, 1, 0] rfl ?_
        exact hF _ _ _ _
theorem lq_X1_nextLost_8 (Z : ZZ) (l : Launch) (a0 : Nat) (a1 : Nat) {args : Array Value} {h0 h1 : HP} {v0 : Int32} (K : Int32 → HP → Option (Int32 × HP))
    (hK : ∀ (b2 : Int32) (h : HP), Sim Z l cX1_nextLost RX1 6 6 135 (some .int) "nextLost" args (Mq Z args h0 h1 (some (.int v0))) h0 h1 v0 64 [(2, .int b2)] [] h (K b2 h)) :
    ∀ (k : Nat) (b2 : Int32) (b3 : Int32) (b4 : Int32) (h : HP), Sim Z l cX1_nextLost RX1 6 6 135 (some .int) "nextLost" args (Mq Z args h0 h1 (some (.int v0))) h0 h1 v0 8 [(0, .ref (zb Z + a0)), (1, .ref (zb Z + a1)), (2, .int b2), (3, .int b3), (4, .int b4)] [] h (lp_X1_nextLost_8 a0 a1 K k b2 b3 b4 h) := by
  intro k
  induction k with
  | zero => exact fun _ _ _ _ => Sim.none
  | succ k ih => exact lc_X1_nextLost_8 Z l a0 a1 K _ hK ih
set_option maxRecDepth 100000 in
set_option maxHeartbeats 4000000 in
theorem c_X1_nextLost (Z : ZZ) (l : Launch) (t : Nat) (a1 : Nat) (h : HP) {v : Int32} {h1 : HP} (ho : f_X1_nextLost t a1 h = some (v, h1)) : MetP Z l yX1_nextLost cX1_nextLost 6 (some .int) 6 135 [.ref (zb Z + t), .ref (zb Z + a1)] h (some (.int v)) h1 := by
  refine MetP_of ho (by decide +kernel) (Nat.le_of_ble_eq_true rfl) [(0, .ref (zb Z + t)), (1, .ref (zb Z + a1))] rfl (own := RX1) rfl (nm := "nextLost") rfl ?_
  unfold f_X1_nextLost
  refine S_iconst dX1_nextLost_0 (v := (-1)) rfl (pc' := 1) rfl ?_
  refine S_istore_n dX1_nextLost_1 rfl (by decide) (lo' := [(2, .int (-1)), (0, .ref (zb Z + t)), (1, .ref (zb Z + a1))]) rfl (pc' := 2) rfl ?_
  refine S_bipush dX1_nextLost_2 (v := 61) rfl (pc' := 4) rfl ?_
  refine S_istore_n dX1_nextLost_4 rfl (by decide) (lo' := [(3, .int 61), (2, .int (-1)), (0, .ref (zb Z + t)), (1, .ref (zb Z + a1))]) rfl (pc' := 5) rfl ?_
  refine S_iconst dX1_nextLost_5 (v := 0) rfl (pc' := 6) rfl ?_
  refine S_istore dX1_nextLost_6 (by decide) (lo' := [(4, .int 0), (3, .int 61), (2, .int (-1)), (0, .ref (zb Z + t)), (1, .ref (zb Z + a1))]) rfl (pc' := 8) rfl ?_
  refine Sim.sub [3, 4, 2, 1, 0] rfl ?_
  refine lq_X1_nextLost_8 Z l t a1 _ ?_ 1000 _ _ _ _
  intro b2_8 h8_
  refine S_iload_n dX1_nextLost_64 rfl 0 rfl (pc' := 65) rfl ?_
  exact S_iret rfl dX1_nextLost_65
theorem dX1_placeOf_0 : decode cX1_placeOf 0 = .ok (.iconst 0, 1) := by decide +kernel
theorem dX1_placeOf_1 : decode cX1_placeOf 1 = .ok (.istore_n 3, 1) := by decide +kernel
theorem dX1_placeOf_2 : decode cX1_placeOf 2 = .ok (.iconst 0, 1) := by decide +kernel
theorem dX1_placeOf_3 : decode cX1_placeOf 3 = .ok (.istore 4, 2) := by decide +kernel
theorem dX1_placeOf_5 : decode cX1_placeOf 5 = .ok (.iload 4, 2) := by decide +kernel
theorem dX1_placeOf_7 : decode cX1_placeOf 7 = .ok (.aload_n 1, 1) := by decide +kernel
theorem dX1_placeOf_8 : decode cX1_placeOf 8 = .ok (.getfield 75, 3) := by decide +kernel
theorem dX1_placeOf_11 : decode cX1_placeOf 11 = .ok (.if_icmp .ge 62, 3) := by decide +kernel
theorem dX1_placeOf_14 : decode cX1_placeOf 14 = .ok (.aload_n 0, 1) := by decide +kernel
theorem dX1_placeOf_15 : decode cX1_placeOf 15 = .ok (.getfield 18, 3) := by decide +kernel
theorem dX1_placeOf_18 : decode cX1_placeOf 18 = .ok (.iload 4, 2) := by decide +kernel
theorem dX1_placeOf_20 : decode cX1_placeOf 20 = .ok (.iaload, 1) := by decide +kernel
theorem dX1_placeOf_21 : decode cX1_placeOf 21 = .ok (.aload_n 0, 1) := by decide +kernel
theorem dX1_placeOf_22 : decode cX1_placeOf 22 = .ok (.getfield 18, 3) := by decide +kernel
theorem dX1_placeOf_25 : decode cX1_placeOf 25 = .ok (.iload_n 2, 1) := by decide +kernel
theorem dX1_placeOf_26 : decode cX1_placeOf 26 = .ok (.iaload, 1) := by decide +kernel
theorem dX1_placeOf_27 : decode cX1_placeOf 27 = .ok (.if_icmp .ne 13, 3) := by decide +kernel
theorem dX1_placeOf_30 : decode cX1_placeOf 30 = .ok (.iload 4, 2) := by decide +kernel
theorem dX1_placeOf_32 : decode cX1_placeOf 32 = .ok (.iload_n 2, 1) := by decide +kernel
theorem dX1_placeOf_33 : decode cX1_placeOf 33 = .ok (.if_icmp .ge 7, 3) := by decide +kernel
theorem dX1_placeOf_36 : decode cX1_placeOf 36 = .ok (.iconst 1, 1) := by decide +kernel
theorem dX1_placeOf_37 : decode cX1_placeOf 37 = .ok (.goto 4, 3) := by decide +kernel
theorem dX1_placeOf_40 : decode cX1_placeOf 40 = .ok (.iconst 0, 1) := by decide +kernel
theorem dX1_placeOf_41 : decode cX1_placeOf 41 = .ok (.istore 5, 2) := by decide +kernel
theorem dX1_placeOf_43 : decode cX1_placeOf 43 = .ok (.aload_n 0, 1) := by decide +kernel
theorem dX1_placeOf_44 : decode cX1_placeOf 44 = .ok (.getfield 18, 3) := by decide +kernel
theorem dX1_placeOf_47 : decode cX1_placeOf 47 = .ok (.iload 4, 2) := by decide +kernel
theorem dX1_placeOf_49 : decode cX1_placeOf 49 = .ok (.iaload, 1) := by decide +kernel
theorem dX1_placeOf_50 : decode cX1_placeOf 50 = .ok (.aload_n 0, 1) := by decide +kernel
theorem dX1_placeOf_51 : decode cX1_placeOf 51 = .ok (.getfield 18, 3) := by decide +kernel
theorem dX1_placeOf_54 : decode cX1_placeOf 54 = .ok (.iload_n 2, 1) := by decide +kernel
theorem dX1_placeOf_55 : decode cX1_placeOf 55 = .ok (.iaload, 1) := by decide +kernel
theorem dX1_placeOf_56 : decode cX1_placeOf 56 = .ok (.if_icmp .lt 8, 3) := by decide +kernel
theorem dX1_placeOf_59 : decode cX1_placeOf 59 = .ok (.iload 5, 2) := by decide +kernel
theorem dX1_placeOf_61 : decode cX1_placeOf 61 = .ok (.ifCond .eq 6, 3) := by decide +kernel
theorem dX1_placeOf_64 : decode cX1_placeOf 64 = .ok (.iinc 3 1, 3) := by decide +kernel
theorem dX1_placeOf_67 : decode cX1_placeOf 67 = .ok (.iinc 4 1, 3) := by decide +kernel
theorem dX1_placeOf_70 : decode cX1_placeOf 70 = .ok (.goto (-65), 3) := by decide +kernel
theorem dX1_placeOf_73 : decode cX1_placeOf 73 = .ok (.iload_n 3, 1) := by decide +kernel
theorem dX1_placeOf_74 : decode cX1_placeOf 74 = .ok (.ireturn, 1) := by decide +kernel
set_option maxRecDepth 100000 in
set_option maxHeartbeats 4000000 in
theorem lc_X1_placeOf_5 (Z : ZZ) (l : Launch) (a0 : Nat) (a1 : Nat) (a2 : Int32) {args : Array Value} {h0 h1 : HP} {v0 : Int32} (K : Int32 → HP → Option (Int32 × HP)) (F : Int32 → Int32 → HP → Option (Int32 × HP))
    (hK : ∀ (b3 : Int32) (h : HP), Sim Z l cX1_placeOf RX1 6 0 0 (some .int) "placeOf" args (Mq Z args h0 h1 (some (.int v0))) h0 h1 v0 73 [(3, .int b3)] [] h (K b3 h))
    (hF : ∀ (b3 : Int32) (b4 : Int32) (h : HP), Sim Z l cX1_placeOf RX1 6 0 0 (some .int) "placeOf" args (Mq Z args h0 h1 (some (.int v0))) h0 h1 v0 5 [(0, .ref (zb Z + a0)), (1, .ref (zb Z + a1)), (2, .int a2), (3, .int b3), (4, .int b4)] [] h (F b3 b4 h)) :
    ∀ (b3 : Int32) (b4 : Int32) (h : HP), Sim Z l cX1_placeOf RX1 6 0 0 (some .int) "placeOf" args (Mq Z args h0 h1 (some (.int v0))) h0 h1 v0 5 [(0, .ref (zb Z + a0)), (1, .ref (zb Z + a1)), (2, .int a2), (3, .int b3), (4, .int b4)] [] h (lb_X1_placeOf_5 a0 a1 a2 K F b3 b4 h) := by
  intro b3 b4 h
  unfold lb_X1_placeOf_5
  refine S_iload dX1_placeOf_5 4 rfl (pc' := 7) rfl ?_
  refine S_aload_n dX1_placeOf_7 rfl 1 rfl (pc' := 8) rfl ?_
  refine S_getI fl_X1_75 rfl dX1_placeOf_8 (pc' := 11) rfl (fun x8 => ?_)
  refine S_icmp_ge dX1_placeOf_11 73 rfl (pc' := 14) rfl (fun g11 => ?_) (fun g11 => ?_)
  · refine Sim.sub [3] rfl ?_
    exact hK _ _
  · refine S_aload_n dX1_placeOf_14 rfl 0 rfl (pc' := 15) rfl ?_
    refine S_getR fl_X1_18 rfl dX1_placeOf_15 (pc' := 18) rfl (fun x15 => ?_)
    refine S_iload dX1_placeOf_18 4 rfl (pc' := 20) rfl ?_
    refine S_iaload dX1_placeOf_20 (pc' := 21) rfl (fun x20 => ?_)
    refine S_aload_n dX1_placeOf_21 rfl 0 rfl (pc' := 22) rfl ?_
    refine S_getR fl_X1_18 rfl dX1_placeOf_22 (pc' := 25) rfl (fun x22 => ?_)
    refine S_iload_n dX1_placeOf_25 rfl 2 rfl (pc' := 26) rfl ?_
    refine S_iaload dX1_placeOf_26 (pc' := 27) rfl (fun x26 => ?_)
    refine S_icmp_ne dX1_placeOf_27 40 rfl (pc' := 30) rfl (fun g27 => ?_) (fun g27 => ?_)
    · refine S_iconst dX1_placeOf_40 (v := 0) rfl (pc' := 41) rfl ?_
      refine S_istore dX1_placeOf_41 (by decide) (lo' := [(5, .int 0), (0, .ref (zb Z + a0)), (1, .ref (zb Z + a1)), (2, .int a2), (3, .int b3), (4, .int b4)]) rfl (pc' := 43) rfl ?_
      refine S_aload_n dX1_placeOf_43 rfl 1 rfl (pc' := 44) rfl ?_
      refine S_getR fl_X1_18 rfl dX1_placeOf_44 (pc' := 47) rfl (fun x44 => ?_)
      refine S_iload dX1_placeOf_47 5 rfl (pc' := 49) rfl ?_
      refine S_iaload dX1_placeOf_49 (pc' := 50) rfl (fun x49 => ?_)
      refine S_aload_n dX1_placeOf_50 rfl 1 rfl (pc' := 51) rfl ?_
      refine S_getR fl_X1_18 rfl dX1_placeOf_51 (pc' := 54) rfl (fun x51 => ?_)
      refine S_iload_n dX1_placeOf_54 rfl 3 rfl (pc' := 55) rfl ?_
      refine S_iaload dX1_placeOf_55 (pc' := 56) rfl (fun x55 => ?_)
      refine S_icmp_lt dX1_placeOf_56 64 rfl (pc' := 59) rfl (fun g56 => ?_) (fun g56 => ?_)
      · refine S_iinc dX1_placeOf_64 (q := 4) rfl (v := b3 + 1) rfl (by decide) (lo' := [(3, .int (b3 + 1)), (5, .int 0), (0, .ref (zb Z + a0)), (1, .ref (zb Z + a1)), (2, .int a2), (4, .int b4)]) rfl (pc' := 67) rfl ?_
        refine S_iinc dX1_placeOf_67 (q := 5) rfl (v := b4 + 1) rfl (by decide) (lo' := [(4, .int (b4 + 1)), (3, .int (b3 + 1)), (5, .int 0), (0, .ref (zb Z + a0)), (1, .ref (zb Z + a1)), (2, .int a2)]) rfl (pc' := 70) rfl ?_
        refine S_goto dX1_placeOf_70 5 rfl ?_
        refine Sim.sub [3, 4, 5, 1, 0] rfl ?_
        exact hF _ _ _
      · refine S_iload dX1_placeOf_59 0 rfl (pc' := 61) rfl ?_
        refine S_if_eq_J dX1_placeOf_61 67 rfl (pc' := 64) rfl (by decide) ?_
        refine S_iinc dX1_placeOf_67 (q := 5) rfl (v := b4 + 1) rfl (by decide) (lo' := [(4, .int (b4 + 1)), (5, .int 0), (0, .ref (zb Z + a0)), (1, .ref (zb Z + a1)), (2, .int a2), (3, .int b3)]) rfl (pc' := 70) rfl ?_
        refine S_goto dX1_placeOf_70 5 rfl ?_
        refine Sim.sub [2, 3, 4, 5, 0] rfl ?_
        exact hF _ _ _
    · refine S_iload dX1_placeOf_30 4 rfl (pc' := 32) rfl ?_
      refine S_iload_n dX1_placeOf_32 rfl 2 rfl (pc' := 33) rfl ?_
      refine S_icmp_ge dX1_placeOf_33 40 rfl (pc' := 36) rfl (fun g33 => ?_) (fun g33 => ?_)
      · refine S_iconst dX1_placeOf_40 (v := 0) rfl (pc' := 41) rfl ?_
        refine S_istore dX1_placeOf_41 (by decide) (lo' := [(5, .int 0), (0, .ref (zb Z + a0)), (1, .ref (zb Z + a1)), (2, .int a2), (3, .int b3), (4, .int b4)]) rfl (pc' := 43) rfl ?_
        refine S_aload_n dX1_placeOf_43 rfl 1 rfl (pc' := 44) rfl ?_
        refine S_getR fl_X1_18 rfl dX1_placeOf_44 (pc' := 47) rfl (fun x44 => ?_)
        refine S_iload dX1_placeOf_47 5 rfl (pc' := 49) rfl ?_
        refine S_iaload dX1_placeOf_49 (pc' := 50) rfl (fun x49 => ?_)
        refine S_aload_n dX1_placeOf_50 rfl 1 rfl (pc' := 51) rfl ?_
        refine S_getR fl_X1_18 rfl dX1_placeOf_51 (pc' := 54) rfl (fun x51 => ?_)
        refine S_iload_n dX1_placeOf_54 rfl 3 rfl (pc' := 55) rfl ?_
        refine S_iaload dX1_placeOf_55 (pc' := 56) rfl (fun x55 => ?_)
        refine S_icmp_lt dX1_placeOf_56 64 rfl (pc' := 59) rfl (fun g56 => ?_) (fun g56 => ?_)
        · refine S_iinc dX1_placeOf_64 (q := 4) rfl (v := b3 + 1) rfl (by decide) (lo' := [(3, .int (b3 + 1)), (5, .int 0), (0, .ref (zb Z + a0)), (1, .ref (zb Z + a1)), (2, .int a2), (4, .int b4)]) rfl (pc' := 67) rfl ?_
          refine S_iinc dX1_placeOf_67 (q := 5) rfl (v := b4 + 1) rfl (by decide) (lo' := [(4, .int (b4 + 1)), (3, .int (b3 + 1)), (5, .int 0), (0, .ref (zb Z + a0)), (1, .ref (zb Z + a1)), (2, .int a2)]) rfl (pc' := 70) rfl ?_
          refine S_goto dX1_placeOf_70 5 rfl ?_
          refine Sim.sub [3, 4, 5, 1, 0] rfl ?_
          exact hF _ _ _
        · refine S_iload dX1_placeOf_59 0 rfl (pc' := 61) rfl ?_
          refine S_if_eq_J dX1_placeOf_61 67 rfl (pc' := 64) rfl (by decide) ?_
          refine S_iinc dX1_placeOf_67 (q := 5) rfl (v := b4 + 1) rfl (by decide) (lo' := [(4, .int (b4 + 1)), (5, .int 0), (0, .ref (zb Z + a0)), (1, .ref (zb Z + a1)), (2, .int a2), (3, .int b3)]) rfl (pc' := 70) rfl ?_
          refine S_goto dX1_placeOf_70 5 rfl ?_
          refine Sim.sub [2, 3, 4, 5, 0] rfl ?_
          exact hF _ _ _
      · refine S_iconst dX1_placeOf_36 (v := 1) rfl (pc' := 37) rfl ?_
        refine S_goto dX1_placeOf_37 41 rfl ?_
        refine S_istore dX1_placeOf_41 (by decide) (lo' := [(5, .int 1), (0, .ref (zb Z + a0)), (1, .ref (zb Z + a1)), (2, .int a2), (3, .int b3), (4, .int b4)]) rfl (pc' := 43) rfl ?_
        refine S_aload_n dX1_placeOf_43 rfl 1 rfl (pc' := 44) rfl ?_
        refine S_getR fl_X1_18 rfl dX1_placeOf_44 (pc' := 47) rfl (fun x44 => ?_)
        refine S_iload dX1_placeOf_47 5 rfl (pc' := 49) rfl ?_
        refine S_iaload dX1_placeOf_49 (pc' := 50) rfl (fun x49 => ?_)
        refine S_aload_n dX1_placeOf_50 rfl 1 rfl (pc' := 51) rfl ?_
        refine S_getR fl_X1_18 rfl dX1_placeOf_51 (pc' := 54) rfl (fun x51 => ?_)
        refine S_iload_n dX1_placeOf_54 rfl 3 rfl (pc' := 55) rfl ?_
        refine S_iaload dX1_placeOf_55 (pc' := 56) rfl (fun x55 => ?_)
        refine S_icmp_lt dX1_placeOf_56 64 rfl (pc' := 59) rfl (fun g56 => ?_) (fun g56 => ?_)
        · refine S_iinc dX1_placeOf_64 (q := 4) rfl (v := b3 + 1) rfl (by decide) (lo' := [(3, .int (b3 + 1)), (5, .int 1), (0, .ref (zb Z + a0)), (1, .ref (zb Z + a1)), (2, .int a2), (4, .int b4)]) rfl (pc' := 67) rfl ?_
          refine S_iinc dX1_placeOf_67 (q := 5) rfl (v := b4 + 1) rfl (by decide) (lo' := [(4, .int (b4 + 1)), (3, .int (b3 + 1)), (5, .int 1), (0, .ref (zb Z + a0)), (1, .ref (zb Z + a1)), (2, .int a2)]) rfl (pc' := 70) rfl ?_
          refine S_goto dX1_placeOf_70 5 rfl ?_
          refine Sim.sub [3, 4, 5, 1, 0] rfl ?_
          exact hF _ _ _
        · refine S_iload dX1_placeOf_59 0 rfl (pc' := 61) rfl ?_
          refine S_if_eq_N dX1_placeOf_61 67 rfl (pc' := 64) rfl (by decide) ?_
          refine S_iinc dX1_placeOf_64 (q := 4) rfl (v := b3 + 1) rfl (by decide) (lo' := [(3, .int (b3 + 1)), (5, .int 1), (0, .ref (zb Z + a0)), (1, .ref (zb Z + a1)), (2, .int a2), (4, .int b4)]) rfl (pc' := 67) rfl ?_
          refine S_iinc dX1_placeOf_67 (q := 5) rfl (v := b4 + 1) rfl (by decide) (lo' := [(4, .int (b4 + 1)), (3, .int (b3 + 1)), (5, .int 1), (0, .ref (zb Z + a0)), (1, .ref (zb Z + a1)), (2, .int a2)]) rfl (pc' := 70) rfl ?_
          refine S_goto dX1_placeOf_70 5 rfl ?_
          refine Sim.sub [3, 4, 5, 1, 0] rfl ?_
          exact hF _ _ _
theorem lq_X1_placeOf_5 (Z : ZZ) (l : Launch) (a0 : Nat) (a1 : Nat) (a2 : Int32) {args : Array Value} {h0 h1 : HP} {v0 : Int32} (K : Int32 → HP → Option (Int32 × HP))
    (hK : ∀ (b3 : Int32) (h : HP), Sim Z l cX1_placeOf RX1 6 0 0 (some .int) "placeOf" args (Mq Z args h0 h1 (some (.int v0))) h0 h1 v0 73 [(3, .int b3)] [] h (K b3 h)) :
    ∀ (k : Nat) (b3 : Int32) (b4 : Int32) (h : HP), Sim Z l cX1_placeOf RX1 6 0 0 (some .int) "placeOf" args (Mq Z args h0 h1 (some (.int v0))) h0 h1 v0 5 [(0, .ref (zb Z + a0)), (1, .ref (zb Z + a1)), (2, .int a2), (3, .int b3), (4, .int b4)] [] h (lp_X1_placeOf_5 a0 a1 a2 K k b3 b4 h) := by
  intro k
  induction k with
  | zero => exact fun _ _ _ => Sim.none
  | succ k ih => exact lc_X1_placeOf_5 Z l a0 a1 a2 K _ hK ih
set_option maxRecDepth 100000 in
set_option maxHeartbeats 4000000 in
theorem c_X1_placeOf (Z : ZZ) (l : Launch) (t : Nat) (a1 : Nat) (a2 : Int32) (h : HP) {v : Int32} {h1 : HP} (ho : f_X1_placeOf t a1 a2 h = some (v, h1)) : MetP Z l yX1_placeOf cX1_placeOf 6 (some .int) 0 0 [.ref (zb Z + t), .ref (zb Z + a1), .int a2] h (some (.int v)) h1 := by
  refine MetP_of ho (by decide +kernel) (Nat.le_of_ble_eq_true rfl) [(0, .ref (zb Z + t)), (1, .ref (zb Z + a1)), (2, .int a2)] rfl (own := RX1) rfl (nm := "placeOf") rfl ?_
  unfold f_X1_placeOf
  refine S_iconst dX1_placeOf_0 (v := 0) rfl (pc' := 1) rfl ?_
  refine S_istore_n dX1_placeOf_1 rfl (by decide) (lo' := [(3, .int 0), (0, .ref (zb Z + t)), (1, .ref (zb Z + a1)), (2, .int a2)]) rfl (pc' := 2) rfl ?_
  refine S_iconst dX1_placeOf_2 (v := 0) rfl (pc' := 3) rfl ?_
  refine S_istore dX1_placeOf_3 (by decide) (lo' := [(4, .int 0), (3, .int 0), (0, .ref (zb Z + t)), (1, .ref (zb Z + a1)), (2, .int a2)]) rfl (pc' := 5) rfl ?_
  refine Sim.sub [2, 3, 4, 1, 0] rfl ?_
  refine lq_X1_placeOf_5 Z l t a1 a2 _ ?_ 1000 _ _ _
  intro b3_5 h5_
  refine S_iload_n dX1_placeOf_73 rfl 0 rfl (pc' := 74) rfl ?_
  exact S_iret rfl dX1_placeOf_74
theorem dX1_inOrder_0 : decode cX1_inOrder 0 = .ok (.iconst 0, 1) := by decide +kernel
theorem dX1_inOrder_1 : decode cX1_inOrder 1 = .ok (.istore_n 3, 1) := by decide +kernel
theorem dX1_inOrder_2 : decode cX1_inOrder 2 = .ok (.iload_n 3, 1) := by decide +kernel
theorem dX1_inOrder_3 : decode cX1_inOrder 3 = .ok (.aload_n 1, 1) := by decide +kernel
theorem dX1_inOrder_4 : decode cX1_inOrder 4 = .ok (.getfield 75, 3) := by decide +kernel
theorem dX1_inOrder_7 : decode cX1_inOrder 7 = .ok (.if_icmp .ge 30, 3) := by decide +kernel
theorem dX1_inOrder_10 : decode cX1_inOrder 10 = .ok (.aload_n 0, 1) := by decide +kernel
theorem dX1_inOrder_11 : decode cX1_inOrder 11 = .ok (.getfield 12, 3) := by decide +kernel
theorem dX1_inOrder_14 : decode cX1_inOrder 14 = .ok (.aload_n 1, 1) := by decide +kernel
theorem dX1_inOrder_15 : decode cX1_inOrder 15 = .ok (.invokevirtual 22, 3) := by decide +kernel
theorem dX1_inOrder_18 : decode cX1_inOrder 18 = .ok (.aload_n 0, 1) := by decide +kernel
theorem dX1_inOrder_19 : decode cX1_inOrder 19 = .ok (.getfield 18, 3) := by decide +kernel
theorem dX1_inOrder_22 : decode cX1_inOrder 22 = .ok (.iload_n 3, 1) := by decide +kernel
theorem dX1_inOrder_23 : decode cX1_inOrder 23 = .ok (.aload_n 0, 1) := by decide +kernel
theorem dX1_inOrder_24 : decode cX1_inOrder 24 = .ok (.iload_n 3, 1) := by decide +kernel
theorem dX1_inOrder_25 : decode cX1_inOrder 25 = .ok (.bipush 60, 2) := by decide +kernel
theorem dX1_inOrder_27 : decode cX1_inOrder 27 = .ok (.invokevirtual 30, 3) := by decide +kernel
theorem dX1_inOrder_30 : decode cX1_inOrder 30 = .ok (.iastore, 1) := by decide +kernel
theorem dX1_inOrder_31 : decode cX1_inOrder 31 = .ok (.iinc 3 1, 3) := by decide +kernel
theorem dX1_inOrder_34 : decode cX1_inOrder 34 = .ok (.goto (-32), 3) := by decide +kernel
theorem dX1_inOrder_37 : decode cX1_inOrder 37 = .ok (.iconst 0, 1) := by decide +kernel
theorem dX1_inOrder_38 : decode cX1_inOrder 38 = .ok (.istore_n 3, 1) := by decide +kernel
theorem dX1_inOrder_39 : decode cX1_inOrder 39 = .ok (.iload_n 3, 1) := by decide +kernel
theorem dX1_inOrder_40 : decode cX1_inOrder 40 = .ok (.aload_n 1, 1) := by decide +kernel
theorem dX1_inOrder_41 : decode cX1_inOrder 41 = .ok (.getfield 75, 3) := by decide +kernel
theorem dX1_inOrder_44 : decode cX1_inOrder 44 = .ok (.if_icmp .ge 21, 3) := by decide +kernel
theorem dX1_inOrder_47 : decode cX1_inOrder 47 = .ok (.aload_n 0, 1) := by decide +kernel
theorem dX1_inOrder_48 : decode cX1_inOrder 48 = .ok (.aload_n 1, 1) := by decide +kernel
theorem dX1_inOrder_49 : decode cX1_inOrder 49 = .ok (.iload_n 3, 1) := by decide +kernel
theorem dX1_inOrder_50 : decode cX1_inOrder 50 = .ok (.invokevirtual 78, 3) := by decide +kernel
theorem dX1_inOrder_53 : decode cX1_inOrder 53 = .ok (.iload_n 2, 1) := by decide +kernel
theorem dX1_inOrder_54 : decode cX1_inOrder 54 = .ok (.if_icmp .ne 5, 3) := by decide +kernel
theorem dX1_inOrder_57 : decode cX1_inOrder 57 = .ok (.iload_n 3, 1) := by decide +kernel
theorem dX1_inOrder_58 : decode cX1_inOrder 58 = .ok (.ireturn, 1) := by decide +kernel
theorem dX1_inOrder_59 : decode cX1_inOrder 59 = .ok (.iinc 3 1, 3) := by decide +kernel
theorem dX1_inOrder_62 : decode cX1_inOrder 62 = .ok (.goto (-23), 3) := by decide +kernel
theorem dX1_inOrder_65 : decode cX1_inOrder 65 = .ok (.iconst (-1), 1) := by decide +kernel
theorem dX1_inOrder_66 : decode cX1_inOrder 66 = .ok (.ireturn, 1) := by decide +kernel
set_option maxRecDepth 100000 in
set_option maxHeartbeats 4000000 in
theorem lc_X1_inOrder_2 (Z : ZZ) (l : Launch) (a0 : Nat) (a1 : Nat) (a2 : Int32) {args : Array Value} {h0 h1 : HP} {v0 : Int32} (K : HP → Option (Int32 × HP)) (F : Int32 → HP → Option (Int32 × HP))
    (hK : ∀ (h : HP), Sim Z l cX1_inOrder RX1 4 6 135 (some .int) "inOrder" args (Mq Z args h0 h1 (some (.int v0))) h0 h1 v0 37 [(0, .ref (zb Z + a0)), (1, .ref (zb Z + a1)), (2, .int a2)] [] h (K h))
    (hF : ∀ (b3 : Int32) (h : HP), Sim Z l cX1_inOrder RX1 4 6 135 (some .int) "inOrder" args (Mq Z args h0 h1 (some (.int v0))) h0 h1 v0 2 [(0, .ref (zb Z + a0)), (1, .ref (zb Z + a1)), (2, .int a2), (3, .int b3)] [] h (F b3 h)) :
    ∀ (b3 : Int32) (h : HP), Sim Z l cX1_inOrder RX1 4 6 135 (some .int) "inOrder" args (Mq Z args h0 h1 (some (.int v0))) h0 h1 v0 2 [(0, .ref (zb Z + a0)), (1, .ref (zb Z + a1)), (2, .int a2), (3, .int b3)] [] h (lb_X1_inOrder_2 a0 a1 a2 K F b3 h) := by
  intro b3 h
  unfold lb_X1_inOrder_2
  refine S_iload_n dX1_inOrder_2 rfl 3 rfl (pc' := 3) rfl ?_
  refine S_aload_n dX1_inOrder_3 rfl 1 rfl (pc' := 4) rfl ?_
  refine S_getI fl_X1_75 rfl dX1_inOrder_4 (pc' := 7) rfl (fun x4 => ?_)
  refine S_icmp_ge dX1_inOrder_7 37 rfl (pc' := 10) rfl (fun g7 => ?_) (fun g7 => ?_)
  · refine Sim.sub [0, 1, 2] rfl ?_
    exact hK _
  · refine S_aload_n dX1_inOrder_10 rfl 0 rfl (pc' := 11) rfl ?_
    refine S_getR fl_X1_12 rfl dX1_inOrder_11 (pc' := 14) rfl (fun x11 => ?_)
    refine S_aload_n dX1_inOrder_14 rfl 1 rfl (pc' := 15) rfl ?_
    refine S_invv ml_X1_22 mi_X0_become (ci := 0) ⟨_, rfl, rfl⟩ (by decide) dX1_inOrder_15 [.ref (zb Z + a1)] rfl (fun v h2 q => c_X0_become Z l _ _ _ q) ⟨Nat.le_of_ble_eq_true rfl, Nat.le_of_ble_eq_true rfl⟩ (rest := []) (Nat.le_of_ble_eq_true rfl) rfl (pc' := 18) rfl (fun _ h15 => ?_)
    refine S_aload_n dX1_inOrder_18 rfl 0 rfl (pc' := 19) rfl ?_
    refine S_getR fl_X1_18 rfl dX1_inOrder_19 (pc' := 22) rfl (fun x19 => ?_)
    refine S_iload_n dX1_inOrder_22 rfl 3 rfl (pc' := 23) rfl ?_
    refine S_aload_n dX1_inOrder_23 rfl 0 rfl (pc' := 24) rfl ?_
    refine S_iload_n dX1_inOrder_24 rfl 3 rfl (pc' := 25) rfl ?_
    refine S_bipush dX1_inOrder_25 (v := 60) rfl (pc' := 27) rfl ?_
    refine S_invi ml_X1_30 mi_X1_lossFromThen (ci := 1) ⟨_, rfl, rfl⟩ (by decide) dX1_inOrder_27 [.int b3, .int 60] rfl (fun v h2 q => c_X1_lossFromThen Z l _ _ _ _ q) ⟨Nat.le_of_ble_eq_true rfl, Nat.le_of_ble_eq_true rfl⟩ (rest := [.int b3, .ref (zb Z + x19)]) (Nat.le_of_ble_eq_true rfl) rfl (pc' := 30) rfl (fun x27 h27 => ?_)
    refine S_iastore dX1_inOrder_30 (pc' := 31) rfl (fun h30 => ?_)
    refine S_iinc dX1_inOrder_31 (q := 3) rfl (v := b3 + 1) rfl (by decide) (lo' := [(3, .int (b3 + 1)), (0, .ref (zb Z + a0)), (1, .ref (zb Z + a1)), (2, .int a2)]) rfl (pc' := 34) rfl ?_
    refine S_goto dX1_inOrder_34 2 rfl ?_
    refine Sim.sub [1, 2, 3, 0] rfl ?_
    exact hF _ _
theorem lq_X1_inOrder_2 (Z : ZZ) (l : Launch) (a0 : Nat) (a1 : Nat) (a2 : Int32) {args : Array Value} {h0 h1 : HP} {v0 : Int32} (K : HP → Option (Int32 × HP))
    (hK : ∀ (h : HP), Sim Z l cX1_inOrder RX1 4 6 135 (some .int) "inOrder" args (Mq Z args h0 h1 (some (.int v0))) h0 h1 v0 37 [(0, .ref (zb Z + a0)), (1, .ref (zb Z + a1)), (2, .int a2)] [] h (K h)) :
    ∀ (k : Nat) (b3 : Int32) (h : HP), Sim Z l cX1_inOrder RX1 4 6 135 (some .int) "inOrder" args (Mq Z args h0 h1 (some (.int v0))) h0 h1 v0 2 [(0, .ref (zb Z + a0)), (1, .ref (zb Z + a1)), (2, .int a2), (3, .int b3)] [] h (lp_X1_inOrder_2 a0 a1 a2 K k b3 h) := by
  intro k
  induction k with
  | zero => exact fun _ _ => Sim.none
  | succ k ih => exact lc_X1_inOrder_2 Z l a0 a1 a2 K _ hK ih
set_option maxRecDepth 100000 in
set_option maxHeartbeats 4000000 in
theorem lc_X1_inOrder_39 (Z : ZZ) (l : Launch) (a0 : Nat) (a1 : Nat) (a2 : Int32) {args : Array Value} {h0 h1 : HP} {v0 : Int32} (K : HP → Option (Int32 × HP)) (F : Int32 → HP → Option (Int32 × HP))
    (hK : ∀ (h : HP), Sim Z l cX1_inOrder RX1 4 6 135 (some .int) "inOrder" args (Mq Z args h0 h1 (some (.int v0))) h0 h1 v0 65 [] [] h (K h))
    (hF : ∀ (b3 : Int32) (h : HP), Sim Z l cX1_inOrder RX1 4 6 135 (some .int) "inOrder" args (Mq Z args h0 h1 (some (.int v0))) h0 h1 v0 39 [(0, .ref (zb Z + a0)), (1, .ref (zb Z + a1)), (2, .int a2), (3, .int b3)] [] h (F b3 h)) :
    ∀ (b3 : Int32) (h : HP), Sim Z l cX1_inOrder RX1 4 6 135 (some .int) "inOrder" args (Mq Z args h0 h1 (some (.int v0))) h0 h1 v0 39 [(0, .ref (zb Z + a0)), (1, .ref (zb Z + a1)), (2, .int a2), (3, .int b3)] [] h (lb_X1_inOrder_39 a0 a1 a2 K F b3 h) := by
  intro b3 h
  unfold lb_X1_inOrder_39
  refine S_iload_n dX1_inOrder_39 rfl 3 rfl (pc' := 40) rfl ?_
  refine S_aload_n dX1_inOrder_40 rfl 1 rfl (pc' := 41) rfl ?_
  refine S_getI fl_X1_75 rfl dX1_inOrder_41 (pc' := 44) rfl (fun x41 => ?_)
  refine S_icmp_ge dX1_inOrder_44 65 rfl (pc' := 47) rfl (fun g44 => ?_) (fun g44 => ?_)
  · refine Sim.sub [] rfl ?_
    exact hK _
  · refine S_aload_n dX1_inOrder_47 rfl 0 rfl (pc' := 48) rfl ?_
    refine S_aload_n dX1_inOrder_48 rfl 1 rfl (pc' := 49) rfl ?_
    refine S_iload_n dX1_inOrder_49 rfl 3 rfl (pc' := 50) rfl ?_
    refine S_invi ml_X1_78 mi_X1_placeOf (ci := 1) ⟨_, rfl, rfl⟩ (by decide) dX1_inOrder_50 [.ref (zb Z + a1), .int b3] rfl (fun v h2 q => c_X1_placeOf Z l _ _ _ _ q) ⟨Nat.le_of_ble_eq_true rfl, Nat.le_of_ble_eq_true rfl⟩ (rest := []) (Nat.le_of_ble_eq_true rfl) rfl (pc' := 53) rfl (fun x50 h50 => ?_)
    refine S_iload_n dX1_inOrder_53 rfl 2 rfl (pc' := 54) rfl ?_
    refine S_icmp_ne dX1_inOrder_54 59 rfl (pc' := 57) rfl (fun g54 => ?_) (fun g54 => ?_)
    · refine S_iinc dX1_inOrder_59 (q := 3) rfl (v := b3 + 1) rfl (by decide) (lo' := [(3, .int (b3 + 1)), (0, .ref (zb Z + a0)), (1, .ref (zb Z + a1)), (2, .int a2)]) rfl (pc' := 62) rfl ?_
      refine S_goto dX1_inOrder_62 39 rfl ?_
      refine Sim.sub [1, 2, 3, 0] rfl ?_
      exact hF _ _
    · refine S_iload_n dX1_inOrder_57 rfl 3 rfl (pc' := 58) rfl ?_
      exact S_iret rfl dX1_inOrder_58
theorem lq_X1_inOrder_39 (Z : ZZ) (l : Launch) (a0 : Nat) (a1 : Nat) (a2 : Int32) {args : Array Value} {h0 h1 : HP} {v0 : Int32} (K : HP → Option (Int32 × HP))
    (hK : ∀ (h : HP), Sim Z l cX1_inOrder RX1 4 6 135 (some .int) "inOrder" args (Mq Z args h0 h1 (some (.int v0))) h0 h1 v0 65 [] [] h (K h)) :
    ∀ (k : Nat) (b3 : Int32) (h : HP), Sim Z l cX1_inOrder RX1 4 6 135 (some .int) "inOrder" args (Mq Z args h0 h1 (some (.int v0))) h0 h1 v0 39 [(0, .ref (zb Z + a0)), (1, .ref (zb Z + a1)), (2, .int a2), (3, .int b3)] [] h (lp_X1_inOrder_39 a0 a1 a2 K k b3 h) := by
  intro k
  induction k with
  | zero => exact fun _ _ => Sim.none
  | succ k ih => exact lc_X1_inOrder_39 Z l a0 a1 a2 K _ hK ih
set_option maxRecDepth 100000 in
set_option maxHeartbeats 4000000 in
theorem c_X1_inOrder (Z : ZZ) (l : Launch) (t : Nat) (a1 : Nat) (a2 : Int32) (h : HP) {v : Int32} {h1 : HP} (ho : f_X1_inOrder t a1 a2 h = some (v, h1)) : MetP Z l yX1_inOrder cX1_inOrder 4 (some .int) 6 135 [.ref (zb Z + t), .ref (zb Z + a1), .int a2] h (some (.int v)) h1 := by
  refine MetP_of ho (by decide +kernel) (Nat.le_of_ble_eq_true rfl) [(0, .ref (zb Z + t)), (1, .ref (zb Z + a1)), (2, .int a2)] rfl (own := RX1) rfl (nm := "inOrder") rfl ?_
  unfold f_X1_inOrder
  refine S_iconst dX1_inOrder_0 (v := 0) rfl (pc' := 1) rfl ?_
  refine S_istore_n dX1_inOrder_1 rfl (by decide) (lo' := [(3, .int 0), (0, .ref (zb Z + t)), (1, .ref (zb Z + a1)), (2, .int a2)]) rfl (pc' := 2) rfl ?_
  refine Sim.sub [1, 2, 3, 0] rfl ?_
  refine lq_X1_inOrder_2 Z l t a1 a2 _ ?_ 1000 _ _
  intro h2_
  refine S_iconst dX1_inOrder_37 (v := 0) rfl (pc' := 38) rfl ?_
  refine S_istore_n dX1_inOrder_38 rfl (by decide) (lo' := [(3, .int 0), (0, .ref (zb Z + t)), (1, .ref (zb Z + a1)), (2, .int a2)]) rfl (pc' := 39) rfl ?_
  refine Sim.sub [1, 2, 3, 0] rfl ?_
  refine lq_X1_inOrder_39 Z l t a1 a2 _ ?_ 1000 _ _
  intro h39_
  refine S_iconst dX1_inOrder_65 (v := (-1)) rfl (pc' := 66) rfl ?_
  exact S_iret rfl dX1_inOrder_66
theorem dX1_comesAsTold_0 : decode cX1_comesAsTold 0 = .ok (.iconst 0, 1) := by decide +kernel
theorem dX1_comesAsTold_1 : decode cX1_comesAsTold 1 = .ok (.istore 4, 2) := by decide +kernel
theorem dX1_comesAsTold_3 : decode cX1_comesAsTold 3 = .ok (.iload 4, 2) := by decide +kernel
theorem dX1_comesAsTold_5 : decode cX1_comesAsTold 5 = .ok (.iload_n 2, 1) := by decide +kernel
theorem dX1_comesAsTold_6 : decode cX1_comesAsTold 6 = .ok (.if_icmp .ge 39, 3) := by decide +kernel
theorem dX1_comesAsTold_9 : decode cX1_comesAsTold 9 = .ok (.aload_n 0, 1) := by decide +kernel
theorem dX1_comesAsTold_10 : decode cX1_comesAsTold 10 = .ok (.getfield 12, 3) := by decide +kernel
theorem dX1_comesAsTold_13 : decode cX1_comesAsTold 13 = .ok (.invokevirtual 26, 3) := by decide +kernel
theorem dX1_comesAsTold_16 : decode cX1_comesAsTold 16 = .ok (.pop, 1) := by decide +kernel
theorem dX1_comesAsTold_17 : decode cX1_comesAsTold 17 = .ok (.aload_n 0, 1) := by decide +kernel
theorem dX1_comesAsTold_18 : decode cX1_comesAsTold 18 = .ok (.getfield 12, 3) := by decide +kernel
theorem dX1_comesAsTold_21 : decode cX1_comesAsTold 21 = .ok (.iload_n 3, 1) := by decide +kernel
theorem dX1_comesAsTold_22 : decode cX1_comesAsTold 22 = .ok (.invokevirtual 92, 3) := by decide +kernel
theorem dX1_comesAsTold_25 : decode cX1_comesAsTold 25 = .ok (.i2l, 1) := by decide +kernel
theorem dX1_comesAsTold_26 : decode cX1_comesAsTold 26 = .ok (.aload_n 1, 1) := by decide +kernel
theorem dX1_comesAsTold_27 : decode cX1_comesAsTold 27 = .ok (.getfield 95, 3) := by decide +kernel
theorem dX1_comesAsTold_30 : decode cX1_comesAsTold 30 = .ok (.iload 4, 2) := by decide +kernel
theorem dX1_comesAsTold_32 : decode cX1_comesAsTold 32 = .ok (.laload, 1) := by decide +kernel
theorem dX1_comesAsTold_33 : decode cX1_comesAsTold 33 = .ok (.lcmp, 1) := by decide +kernel
theorem dX1_comesAsTold_34 : decode cX1_comesAsTold 34 = .ok (.ifCond .eq 5, 3) := by decide +kernel
theorem dX1_comesAsTold_37 : decode cX1_comesAsTold 37 = .ok (.iconst 0, 1) := by decide +kernel
theorem dX1_comesAsTold_38 : decode cX1_comesAsTold 38 = .ok (.ireturn, 1) := by decide +kernel
theorem dX1_comesAsTold_39 : decode cX1_comesAsTold 39 = .ok (.iinc 4 1, 3) := by decide +kernel
theorem dX1_comesAsTold_42 : decode cX1_comesAsTold 42 = .ok (.goto (-39), 3) := by decide +kernel
theorem dX1_comesAsTold_45 : decode cX1_comesAsTold 45 = .ok (.iconst 1, 1) := by decide +kernel
theorem dX1_comesAsTold_46 : decode cX1_comesAsTold 46 = .ok (.ireturn, 1) := by decide +kernel
set_option maxRecDepth 100000 in
set_option maxHeartbeats 4000000 in
theorem lc_X1_comesAsTold_3 (Z : ZZ) (l : Launch) (a0 : Nat) (a1 : Nat) (a2 : Int32) (a3 : Int32) {args : Array Value} {h0 h1 : HP} {v0 : Int32} (K : HP → Option (Int32 × HP)) (F : Int32 → HP → Option (Int32 × HP))
    (hK : ∀ (h : HP), Sim Z l cX1_comesAsTold RX1 5 5 113 (some .boolean) "comesAsTold" args (Mq Z args h0 h1 (some (.int v0))) h0 h1 v0 45 [] [] h (K h))
    (hF : ∀ (b4 : Int32) (h : HP), Sim Z l cX1_comesAsTold RX1 5 5 113 (some .boolean) "comesAsTold" args (Mq Z args h0 h1 (some (.int v0))) h0 h1 v0 3 [(0, .ref (zb Z + a0)), (1, .ref (zb Z + a1)), (2, .int a2), (3, .int a3), (4, .int b4)] [] h (F b4 h)) :
    ∀ (b4 : Int32) (h : HP), Sim Z l cX1_comesAsTold RX1 5 5 113 (some .boolean) "comesAsTold" args (Mq Z args h0 h1 (some (.int v0))) h0 h1 v0 3 [(0, .ref (zb Z + a0)), (1, .ref (zb Z + a1)), (2, .int a2), (3, .int a3), (4, .int b4)] [] h (lb_X1_comesAsTold_3 a0 a1 a2 a3 K F b4 h) := by
  intro b4 h
  unfold lb_X1_comesAsTold_3
  refine S_iload dX1_comesAsTold_3 4 rfl (pc' := 5) rfl ?_
  refine S_iload_n dX1_comesAsTold_5 rfl 2 rfl (pc' := 6) rfl ?_
  refine S_icmp_ge dX1_comesAsTold_6 45 rfl (pc' := 9) rfl (fun g6 => ?_) (fun g6 => ?_)
  · refine Sim.sub [] rfl ?_
    exact hK _
  · refine S_aload_n dX1_comesAsTold_9 rfl 0 rfl (pc' := 10) rfl ?_
    refine S_getR fl_X1_12 rfl dX1_comesAsTold_10 (pc' := 13) rfl (fun x10 => ?_)
    refine S_invi ml_X1_26 mi_X0_passYear (ci := 0) ⟨_, rfl, rfl⟩ (by decide) dX1_comesAsTold_13 [] rfl (fun v h2 q => c_X0_passYear Z l _ _ q) ⟨Nat.le_of_ble_eq_true rfl, Nat.le_of_ble_eq_true rfl⟩ (rest := []) (Nat.le_of_ble_eq_true rfl) rfl (pc' := 16) rfl (fun x13 h13 => ?_)
    refine S_pop dX1_comesAsTold_16 rfl (pc' := 17) rfl ?_
    refine S_aload_n dX1_comesAsTold_17 rfl 0 rfl (pc' := 18) rfl ?_
    refine S_getR fl_X1_12 rfl dX1_comesAsTold_18 (pc' := 21) rfl (fun x18 => ?_)
    refine S_iload_n dX1_comesAsTold_21 rfl 3 rfl (pc' := 22) rfl ?_
    refine S_invi ml_X1_92 mi_X0_repertoire (ci := 0) ⟨_, rfl, rfl⟩ (by decide) dX1_comesAsTold_22 [.int a3] rfl (fun v h2 q => c_X0_repertoire Z l _ _ _ q) ⟨Nat.le_of_ble_eq_true rfl, Nat.le_of_ble_eq_true rfl⟩ (rest := []) (Nat.le_of_ble_eq_true rfl) rfl (pc' := 25) rfl (fun x22 h22 => ?_)
    refine S_i2l dX1_comesAsTold_25 (pc' := 26) rfl ?_
    refine S_aload_n dX1_comesAsTold_26 rfl 1 rfl (pc' := 27) rfl ?_
    refine S_getR fl_X1_95 rfl dX1_comesAsTold_27 (pc' := 30) rfl (fun x27 => ?_)
    refine S_iload dX1_comesAsTold_30 4 rfl (pc' := 32) rfl ?_
    refine S_laload dX1_comesAsTold_32 (pc' := 33) rfl (fun x32 => ?_)
    refine S_lcmp dX1_comesAsTold_33 (pc' := 34) rfl ?_
    refine S_if_eq dX1_comesAsTold_34 39 rfl (pc' := 37) rfl (fun g34 => ?_) (fun g34 => ?_)
    · refine S_iinc dX1_comesAsTold_39 (q := 4) rfl (v := b4 + 1) rfl (by decide) (lo' := [(4, .int (b4 + 1)), (0, .ref (zb Z + a0)), (1, .ref (zb Z + a1)), (2, .int a2), (3, .int a3)]) rfl (pc' := 42) rfl ?_
      refine S_goto dX1_comesAsTold_42 3 rfl ?_
      refine Sim.sub [1, 2, 3, 4, 0] rfl ?_
      exact hF _ _
    · refine S_iconst dX1_comesAsTold_37 (v := 0) rfl (pc' := 38) rfl ?_
      exact S_zret rfl dX1_comesAsTold_38
theorem lq_X1_comesAsTold_3 (Z : ZZ) (l : Launch) (a0 : Nat) (a1 : Nat) (a2 : Int32) (a3 : Int32) {args : Array Value} {h0 h1 : HP} {v0 : Int32} (K : HP → Option (Int32 × HP))
    (hK : ∀ (h : HP), Sim Z l cX1_comesAsTold RX1 5 5 113 (some .boolean) "comesAsTold" args (Mq Z args h0 h1 (some (.int v0))) h0 h1 v0 45 [] [] h (K h)) :
    ∀ (k : Nat) (b4 : Int32) (h : HP), Sim Z l cX1_comesAsTold RX1 5 5 113 (some .boolean) "comesAsTold" args (Mq Z args h0 h1 (some (.int v0))) h0 h1 v0 3 [(0, .ref (zb Z + a0)), (1, .ref (zb Z + a1)), (2, .int a2), (3, .int a3), (4, .int b4)] [] h (lp_X1_comesAsTold_3 a0 a1 a2 a3 K k b4 h) := by
  intro k
  induction k with
  | zero => exact fun _ _ => Sim.none
  | succ k ih => exact lc_X1_comesAsTold_3 Z l a0 a1 a2 a3 K _ hK ih
set_option maxRecDepth 100000 in
set_option maxHeartbeats 4000000 in
theorem c_X1_comesAsTold (Z : ZZ) (l : Launch) (t : Nat) (a1 : Nat) (a2 : Int32) (a3 : Int32) (h : HP) {v : Int32} {h1 : HP} (ho : f_X1_comesAsTold t a1 a2 a3 h = some (v, h1)) : MetP Z l yX1_comesAsTold cX1_comesAsTold 5 (some .boolean) 5 113 [.ref (zb Z + t), .ref (zb Z + a1), .int a2, .int a3] h (some (.int v)) h1 := by
  refine MetP_of ho (by decide +kernel) (Nat.le_of_ble_eq_true rfl) [(0, .ref (zb Z + t)), (1, .ref (zb Z + a1)), (2, .int a2), (3, .int a3)] rfl (own := RX1) rfl (nm := "comesAsTold") rfl ?_
  unfold f_X1_comesAsTold
  refine S_iconst dX1_comesAsTold_0 (v := 0) rfl (pc' := 1) rfl ?_
  refine S_istore dX1_comesAsTold_1 (by decide) (lo' := [(4, .int 0), (0, .ref (zb Z + t)), (1, .ref (zb Z + a1)), (2, .int a2), (3, .int a3)]) rfl (pc' := 3) rfl ?_
  refine Sim.sub [1, 2, 3, 4, 0] rfl ?_
  refine lq_X1_comesAsTold_3 Z l t a1 a2 a3 _ ?_ 1000 _ _
  intro h3_
  refine S_iconst dX1_comesAsTold_45 (v := 1) rfl (pc' := 46) rfl ?_
  exact S_zret rfl dX1_comesAsTold_46
theorem dX1_memoriesBy_0 : decode cX1_memoriesBy 0 = .ok (.iconst 0, 1) := by decide +kernel
theorem dX1_memoriesBy_1 : decode cX1_memoriesBy 1 = .ok (.istore 5, 2) := by decide +kernel
theorem dX1_memoriesBy_3 : decode cX1_memoriesBy 3 = .ok (.iconst 0, 1) := by decide +kernel
theorem dX1_memoriesBy_4 : decode cX1_memoriesBy 4 = .ok (.istore 6, 2) := by decide +kernel
theorem dX1_memoriesBy_6 : decode cX1_memoriesBy 6 = .ok (.iload 6, 2) := by decide +kernel
theorem dX1_memoriesBy_8 : decode cX1_memoriesBy 8 = .ok (.bipush 10, 2) := by decide +kernel
theorem dX1_memoriesBy_10 : decode cX1_memoriesBy 10 = .ok (.if_icmp .ge 49, 3) := by decide +kernel
theorem dX1_memoriesBy_13 : decode cX1_memoriesBy 13 = .ok (.aload_n 0, 1) := by decide +kernel
theorem dX1_memoriesBy_14 : decode cX1_memoriesBy 14 = .ok (.getfield 12, 3) := by decide +kernel
theorem dX1_memoriesBy_17 : decode cX1_memoriesBy 17 = .ok (.aload_n 1, 1) := by decide +kernel
theorem dX1_memoriesBy_18 : decode cX1_memoriesBy 18 = .ok (.invokevirtual 22, 3) := by decide +kernel
theorem dX1_memoriesBy_21 : decode cX1_memoriesBy 21 = .ok (.aload_n 0, 1) := by decide +kernel
theorem dX1_memoriesBy_22 : decode cX1_memoriesBy 22 = .ok (.getfield 12, 3) := by decide +kernel
theorem dX1_memoriesBy_25 : decode cX1_memoriesBy 25 = .ok (.getfield 82, 3) := by decide +kernel
theorem dX1_memoriesBy_28 : decode cX1_memoriesBy 28 = .ok (.iload 4, 2) := by decide +kernel
theorem dX1_memoriesBy_30 : decode cX1_memoriesBy 30 = .ok (.iload 6, 2) := by decide +kernel
theorem dX1_memoriesBy_32 : decode cX1_memoriesBy 32 = .ok (.iastore, 1) := by decide +kernel
theorem dX1_memoriesBy_33 : decode cX1_memoriesBy 33 = .ok (.aload_n 0, 1) := by decide +kernel
theorem dX1_memoriesBy_34 : decode cX1_memoriesBy 34 = .ok (.aload_n 2, 1) := by decide +kernel
theorem dX1_memoriesBy_35 : decode cX1_memoriesBy 35 = .ok (.iload_n 3, 1) := by decide +kernel
theorem dX1_memoriesBy_36 : decode cX1_memoriesBy 36 = .ok (.iload 4, 2) := by decide +kernel
theorem dX1_memoriesBy_38 : decode cX1_memoriesBy 38 = .ok (.invokevirtual 85, 3) := by decide +kernel
theorem dX1_memoriesBy_41 : decode cX1_memoriesBy 41 = .ok (.ifCond .eq 12, 3) := by decide +kernel
theorem dX1_memoriesBy_44 : decode cX1_memoriesBy 44 = .ok (.iload 5, 2) := by decide +kernel
theorem dX1_memoriesBy_46 : decode cX1_memoriesBy 46 = .ok (.iconst 1, 1) := by decide +kernel
theorem dX1_memoriesBy_47 : decode cX1_memoriesBy 47 = .ok (.iload 6, 2) := by decide +kernel
theorem dX1_memoriesBy_49 : decode cX1_memoriesBy 49 = .ok (.ishl, 1) := by decide +kernel
theorem dX1_memoriesBy_50 : decode cX1_memoriesBy 50 = .ok (.ior, 1) := by decide +kernel
theorem dX1_memoriesBy_51 : decode cX1_memoriesBy 51 = .ok (.istore 5, 2) := by decide +kernel
theorem dX1_memoriesBy_53 : decode cX1_memoriesBy 53 = .ok (.iinc 6 1, 3) := by decide +kernel
theorem dX1_memoriesBy_56 : decode cX1_memoriesBy 56 = .ok (.goto (-50), 3) := by decide +kernel
theorem dX1_memoriesBy_59 : decode cX1_memoriesBy 59 = .ok (.iload 5, 2) := by decide +kernel
theorem dX1_memoriesBy_61 : decode cX1_memoriesBy 61 = .ok (.ireturn, 1) := by decide +kernel
set_option maxRecDepth 100000 in
set_option maxHeartbeats 4000000 in
theorem lc_X1_memoriesBy_6 (Z : ZZ) (l : Launch) (a0 : Nat) (a1 : Nat) (a2 : Nat) (a3 : Int32) (a4 : Int32) {args : Array Value} {h0 h1 : HP} {v0 : Int32} (K : Int32 → HP → Option (Int32 × HP)) (F : Int32 → Int32 → HP → Option (Int32 × HP))
    (hK : ∀ (b5 : Int32) (h : HP), Sim Z l cX1_memoriesBy RX1 7 6 137 (some .int) "memoriesBy" args (Mq Z args h0 h1 (some (.int v0))) h0 h1 v0 59 [(5, .int b5)] [] h (K b5 h))
    (hF : ∀ (b5 : Int32) (b6 : Int32) (h : HP), Sim Z l cX1_memoriesBy RX1 7 6 137 (some .int) "memoriesBy" args (Mq Z args h0 h1 (some (.int v0))) h0 h1 v0 6 [(0, .ref (zb Z + a0)), (1, .ref (zb Z + a1)), (2, .ref (zb Z + a2)), (3, .int a3), (4, .int a4), (5, .int b5), (6, .int b6)] [] h (F b5 b6 h)) :
    ∀ (b5 : Int32) (b6 : Int32) (h : HP), Sim Z l cX1_memoriesBy RX1 7 6 137 (some .int) "memoriesBy" args (Mq Z args h0 h1 (some (.int v0))) h0 h1 v0 6 [(0, .ref (zb Z + a0)), (1, .ref (zb Z + a1)), (2, .ref (zb Z + a2)), (3, .int a3), (4, .int a4), (5, .int b5), (6, .int b6)] [] h (lb_X1_memoriesBy_6 a0 a1 a2 a3 a4 K F b5 b6 h) := by
  intro b5 b6 h
  unfold lb_X1_memoriesBy_6
  refine S_iload dX1_memoriesBy_6 6 rfl (pc' := 8) rfl ?_
  refine S_bipush dX1_memoriesBy_8 (v := 10) rfl (pc' := 10) rfl ?_
  refine S_icmp_ge dX1_memoriesBy_10 59 rfl (pc' := 13) rfl (fun g10 => ?_) (fun g10 => ?_)
  · refine Sim.sub [5] rfl ?_
    exact hK _ _
  · refine S_aload_n dX1_memoriesBy_13 rfl 0 rfl (pc' := 14) rfl ?_
    refine S_getR fl_X1_12 rfl dX1_memoriesBy_14 (pc' := 17) rfl (fun x14 => ?_)
    refine S_aload_n dX1_memoriesBy_17 rfl 1 rfl (pc' := 18) rfl ?_
    refine S_invv ml_X1_22 mi_X0_become (ci := 0) ⟨_, rfl, rfl⟩ (by decide) dX1_memoriesBy_18 [.ref (zb Z + a1)] rfl (fun v h2 q => c_X0_become Z l _ _ _ q) ⟨Nat.le_of_ble_eq_true rfl, Nat.le_of_ble_eq_true rfl⟩ (rest := []) (Nat.le_of_ble_eq_true rfl) rfl (pc' := 21) rfl (fun _ h18 => ?_)
    refine S_aload_n dX1_memoriesBy_21 rfl 0 rfl (pc' := 22) rfl ?_
    refine S_getR fl_X1_12 rfl dX1_memoriesBy_22 (pc' := 25) rfl (fun x22 => ?_)
    refine S_getR fl_X1_82 rfl dX1_memoriesBy_25 (pc' := 28) rfl (fun x25 => ?_)
    refine S_iload dX1_memoriesBy_28 4 rfl (pc' := 30) rfl ?_
    refine S_iload dX1_memoriesBy_30 6 rfl (pc' := 32) rfl ?_
    refine S_iastore dX1_memoriesBy_32 (pc' := 33) rfl (fun h32 => ?_)
    refine S_aload_n dX1_memoriesBy_33 rfl 0 rfl (pc' := 34) rfl ?_
    refine S_aload_n dX1_memoriesBy_34 rfl 2 rfl (pc' := 35) rfl ?_
    refine S_iload_n dX1_memoriesBy_35 rfl 3 rfl (pc' := 36) rfl ?_
    refine S_iload dX1_memoriesBy_36 4 rfl (pc' := 38) rfl ?_
    refine S_invi ml_X1_85 mi_X1_comesAsTold (ci := 1) ⟨_, rfl, rfl⟩ (by decide) dX1_memoriesBy_38 [.ref (zb Z + a2), .int a3, .int a4] rfl (fun v h2 q => c_X1_comesAsTold Z l _ _ _ _ _ q) ⟨Nat.le_of_ble_eq_true rfl, Nat.le_of_ble_eq_true rfl⟩ (rest := []) (Nat.le_of_ble_eq_true rfl) rfl (pc' := 41) rfl (fun x38 h38 => ?_)
    refine S_if_eq dX1_memoriesBy_41 53 rfl (pc' := 44) rfl (fun g41 => ?_) (fun g41 => ?_)
    · refine S_iinc dX1_memoriesBy_53 (q := 6) rfl (v := b6 + 1) rfl (by decide) (lo' := [(6, .int (b6 + 1)), (0, .ref (zb Z + a0)), (1, .ref (zb Z + a1)), (2, .ref (zb Z + a2)), (3, .int a3), (4, .int a4), (5, .int b5)]) rfl (pc' := 56) rfl ?_
      refine S_goto dX1_memoriesBy_56 6 rfl ?_
      refine Sim.sub [1, 2, 3, 4, 5, 6, 0] rfl ?_
      exact hF _ _ _
    · refine S_iload dX1_memoriesBy_44 5 rfl (pc' := 46) rfl ?_
      refine S_iconst dX1_memoriesBy_46 (v := 1) rfl (pc' := 47) rfl ?_
      refine S_iload dX1_memoriesBy_47 6 rfl (pc' := 49) rfl ?_
      refine S_ishl dX1_memoriesBy_49 (pc' := 50) rfl ?_
      refine S_ior dX1_memoriesBy_50 (pc' := 51) rfl ?_
      refine S_istore dX1_memoriesBy_51 (by decide) (lo' := [(5, .int (b5 ||| (1 <<< (b6 &&& 31)))), (0, .ref (zb Z + a0)), (1, .ref (zb Z + a1)), (2, .ref (zb Z + a2)), (3, .int a3), (4, .int a4), (6, .int b6)]) rfl (pc' := 53) rfl ?_
      refine S_iinc dX1_memoriesBy_53 (q := 6) rfl (v := b6 + 1) rfl (by decide) (lo' := [(6, .int (b6 + 1)), (5, .int (b5 ||| (1 <<< (b6 &&& 31)))), (0, .ref (zb Z + a0)), (1, .ref (zb Z + a1)), (2, .ref (zb Z + a2)), (3, .int a3), (4, .int a4)]) rfl (pc' := 56) rfl ?_
      refine S_goto dX1_memoriesBy_56 6 rfl ?_
      refine Sim.sub [2, 3, 4, 5, 6, 1, 0] rfl ?_
      exact hF _ _ _
theorem lq_X1_memoriesBy_6 (Z : ZZ) (l : Launch) (a0 : Nat) (a1 : Nat) (a2 : Nat) (a3 : Int32) (a4 : Int32) {args : Array Value} {h0 h1 : HP} {v0 : Int32} (K : Int32 → HP → Option (Int32 × HP))
    (hK : ∀ (b5 : Int32) (h : HP), Sim Z l cX1_memoriesBy RX1 7 6 137 (some .int) "memoriesBy" args (Mq Z args h0 h1 (some (.int v0))) h0 h1 v0 59 [(5, .int b5)] [] h (K b5 h)) :
    ∀ (k : Nat) (b5 : Int32) (b6 : Int32) (h : HP), Sim Z l cX1_memoriesBy RX1 7 6 137 (some .int) "memoriesBy" args (Mq Z args h0 h1 (some (.int v0))) h0 h1 v0 6 [(0, .ref (zb Z + a0)), (1, .ref (zb Z + a1)), (2, .ref (zb Z + a2)), (3, .int a3), (4, .int a4), (5, .int b5), (6, .int b6)] [] h (lp_X1_memoriesBy_6 a0 a1 a2 a3 a4 K k b5 b6 h) := by
  intro k
  induction k with
  | zero => exact fun _ _ _ => Sim.none
  | succ k ih => exact lc_X1_memoriesBy_6 Z l a0 a1 a2 a3 a4 K _ hK ih
set_option maxRecDepth 100000 in
set_option maxHeartbeats 4000000 in
theorem c_X1_memoriesBy (Z : ZZ) (l : Launch) (t : Nat) (a1 : Nat) (a2 : Nat) (a3 : Int32) (a4 : Int32) (h : HP) {v : Int32} {h1 : HP} (ho : f_X1_memoriesBy t a1 a2 a3 a4 h = some (v, h1)) : MetP Z l yX1_memoriesBy cX1_memoriesBy 7 (some .int) 6 137 [.ref (zb Z + t), .ref (zb Z + a1), .ref (zb Z + a2), .int a3, .int a4] h (some (.int v)) h1 := by
  refine MetP_of ho (by decide +kernel) (Nat.le_of_ble_eq_true rfl) [(0, .ref (zb Z + t)), (1, .ref (zb Z + a1)), (2, .ref (zb Z + a2)), (3, .int a3), (4, .int a4)] rfl (own := RX1) rfl (nm := "memoriesBy") rfl ?_
  unfold f_X1_memoriesBy
  refine S_iconst dX1_memoriesBy_0 (v := 0) rfl (pc' := 1) rfl ?_
  refine S_istore dX1_memoriesBy_1 (by decide) (lo' := [(5, .int 0), (0, .ref (zb Z + t)), (1, .ref (zb Z + a1)), (2, .ref (zb Z + a2)), (3, .int a3), (4, .int a4)]) rfl (pc' := 3) rfl ?_
  refine S_iconst dX1_memoriesBy_3 (v := 0) rfl (pc' := 4) rfl ?_
  refine S_istore dX1_memoriesBy_4 (by decide) (lo' := [(6, .int 0), (5, .int 0), (0, .ref (zb Z + t)), (1, .ref (zb Z + a1)), (2, .ref (zb Z + a2)), (3, .int a3), (4, .int a4)]) rfl (pc' := 6) rfl ?_
  refine Sim.sub [2, 3, 4, 5, 6, 1, 0] rfl ?_
  refine lq_X1_memoriesBy_6 Z l t a1 a2 a3 a4 _ ?_ 1000 _ _ _
  intro b5_6 h6_
  refine S_iload dX1_memoriesBy_59 0 rfl (pc' := 61) rfl ?_
  exact S_iret rfl dX1_memoriesBy_61
theorem dX1_kindsBy_0 : decode cX1_kindsBy 0 = .ok (.iconst 0, 1) := by decide +kernel
theorem dX1_kindsBy_1 : decode cX1_kindsBy 1 = .ok (.istore 5, 2) := by decide +kernel
theorem dX1_kindsBy_3 : decode cX1_kindsBy 3 = .ok (.iconst 0, 1) := by decide +kernel
theorem dX1_kindsBy_4 : decode cX1_kindsBy 4 = .ok (.istore 6, 2) := by decide +kernel
theorem dX1_kindsBy_6 : decode cX1_kindsBy 6 = .ok (.iload 6, 2) := by decide +kernel
theorem dX1_kindsBy_8 : decode cX1_kindsBy 8 = .ok (.bipush 6, 2) := by decide +kernel
theorem dX1_kindsBy_10 : decode cX1_kindsBy 10 = .ok (.if_icmp .ge 49, 3) := by decide +kernel
theorem dX1_kindsBy_13 : decode cX1_kindsBy 13 = .ok (.aload_n 0, 1) := by decide +kernel
theorem dX1_kindsBy_14 : decode cX1_kindsBy 14 = .ok (.getfield 12, 3) := by decide +kernel
theorem dX1_kindsBy_17 : decode cX1_kindsBy 17 = .ok (.aload_n 1, 1) := by decide +kernel
theorem dX1_kindsBy_18 : decode cX1_kindsBy 18 = .ok (.invokevirtual 22, 3) := by decide +kernel
theorem dX1_kindsBy_21 : decode cX1_kindsBy 21 = .ok (.aload_n 0, 1) := by decide +kernel
theorem dX1_kindsBy_22 : decode cX1_kindsBy 22 = .ok (.getfield 12, 3) := by decide +kernel
theorem dX1_kindsBy_25 : decode cX1_kindsBy 25 = .ok (.getfield 89, 3) := by decide +kernel
theorem dX1_kindsBy_28 : decode cX1_kindsBy 28 = .ok (.iload 4, 2) := by decide +kernel
theorem dX1_kindsBy_30 : decode cX1_kindsBy 30 = .ok (.iload 6, 2) := by decide +kernel
theorem dX1_kindsBy_32 : decode cX1_kindsBy 32 = .ok (.iastore, 1) := by decide +kernel
theorem dX1_kindsBy_33 : decode cX1_kindsBy 33 = .ok (.aload_n 0, 1) := by decide +kernel
theorem dX1_kindsBy_34 : decode cX1_kindsBy 34 = .ok (.aload_n 2, 1) := by decide +kernel
theorem dX1_kindsBy_35 : decode cX1_kindsBy 35 = .ok (.iload_n 3, 1) := by decide +kernel
theorem dX1_kindsBy_36 : decode cX1_kindsBy 36 = .ok (.iload 4, 2) := by decide +kernel
theorem dX1_kindsBy_38 : decode cX1_kindsBy 38 = .ok (.invokevirtual 85, 3) := by decide +kernel
theorem dX1_kindsBy_41 : decode cX1_kindsBy 41 = .ok (.ifCond .eq 12, 3) := by decide +kernel
theorem dX1_kindsBy_44 : decode cX1_kindsBy 44 = .ok (.iload 5, 2) := by decide +kernel
theorem dX1_kindsBy_46 : decode cX1_kindsBy 46 = .ok (.iconst 1, 1) := by decide +kernel
theorem dX1_kindsBy_47 : decode cX1_kindsBy 47 = .ok (.iload 6, 2) := by decide +kernel
theorem dX1_kindsBy_49 : decode cX1_kindsBy 49 = .ok (.ishl, 1) := by decide +kernel
theorem dX1_kindsBy_50 : decode cX1_kindsBy 50 = .ok (.ior, 1) := by decide +kernel
theorem dX1_kindsBy_51 : decode cX1_kindsBy 51 = .ok (.istore 5, 2) := by decide +kernel
theorem dX1_kindsBy_53 : decode cX1_kindsBy 53 = .ok (.iinc 6 1, 3) := by decide +kernel
theorem dX1_kindsBy_56 : decode cX1_kindsBy 56 = .ok (.goto (-50), 3) := by decide +kernel
theorem dX1_kindsBy_59 : decode cX1_kindsBy 59 = .ok (.iload 5, 2) := by decide +kernel
theorem dX1_kindsBy_61 : decode cX1_kindsBy 61 = .ok (.ireturn, 1) := by decide +kernel
set_option maxRecDepth 100000 in
set_option maxHeartbeats 4000000 in
theorem lc_X1_kindsBy_6 (Z : ZZ) (l : Launch) (a0 : Nat) (a1 : Nat) (a2 : Nat) (a3 : Int32) (a4 : Int32) {args : Array Value} {h0 h1 : HP} {v0 : Int32} (K : Int32 → HP → Option (Int32 × HP)) (F : Int32 → Int32 → HP → Option (Int32 × HP))
    (hK : ∀ (b5 : Int32) (h : HP), Sim Z l cX1_kindsBy RX1 7 6 137 (some .int) "kindsBy" args (Mq Z args h0 h1 (some (.int v0))) h0 h1 v0 59 [(5, .int b5)] [] h (K b5 h))
    (hF : ∀ (b5 : Int32) (b6 : Int32) (h : HP), Sim Z l cX1_kindsBy RX1 7 6 137 (some .int) "kindsBy" args (Mq Z args h0 h1 (some (.int v0))) h0 h1 v0 6 [(0, .ref (zb Z + a0)), (1, .ref (zb Z + a1)), (2, .ref (zb Z + a2)), (3, .int a3), (4, .int a4), (5, .int b5), (6, .int b6)] [] h (F b5 b6 h)) :
    ∀ (b5 : Int32) (b6 : Int32) (h : HP), Sim Z l cX1_kindsBy RX1 7 6 137 (some .int) "kindsBy" args (Mq Z args h0 h1 (some (.int v0))) h0 h1 v0 6 [(0, .ref (zb Z + a0)), (1, .ref (zb Z + a1)), (2, .ref (zb Z + a2)), (3, .int a3), (4, .int a4), (5, .int b5), (6, .int b6)] [] h (lb_X1_kindsBy_6 a0 a1 a2 a3 a4 K F b5 b6 h) := by
  intro b5 b6 h
  unfold lb_X1_kindsBy_6
  refine S_iload dX1_kindsBy_6 6 rfl (pc' := 8) rfl ?_
  refine S_bipush dX1_kindsBy_8 (v := 6) rfl (pc' := 10) rfl ?_
  refine S_icmp_ge dX1_kindsBy_10 59 rfl (pc' := 13) rfl (fun g10 => ?_) (fun g10 => ?_)
  · refine Sim.sub [5] rfl ?_
    exact hK _ _
  · refine S_aload_n dX1_kindsBy_13 rfl 0 rfl (pc' := 14) rfl ?_
    refine S_getR fl_X1_12 rfl dX1_kindsBy_14 (pc' := 17) rfl (fun x14 => ?_)
    refine S_aload_n dX1_kindsBy_17 rfl 1 rfl (pc' := 18) rfl ?_
    refine S_invv ml_X1_22 mi_X0_become (ci := 0) ⟨_, rfl, rfl⟩ (by decide) dX1_kindsBy_18 [.ref (zb Z + a1)] rfl (fun v h2 q => c_X0_become Z l _ _ _ q) ⟨Nat.le_of_ble_eq_true rfl, Nat.le_of_ble_eq_true rfl⟩ (rest := []) (Nat.le_of_ble_eq_true rfl) rfl (pc' := 21) rfl (fun _ h18 => ?_)
    refine S_aload_n dX1_kindsBy_21 rfl 0 rfl (pc' := 22) rfl ?_
    refine S_getR fl_X1_12 rfl dX1_kindsBy_22 (pc' := 25) rfl (fun x22 => ?_)
    refine S_getR fl_X1_89 rfl dX1_kindsBy_25 (pc' := 28) rfl (fun x25 => ?_)
    refine S_iload dX1_kindsBy_28 4 rfl (pc' := 30) rfl ?_
    refine S_iload dX1_kindsBy_30 6 rfl (pc' := 32) rfl ?_
    refine S_iastore dX1_kindsBy_32 (pc' := 33) rfl (fun h32 => ?_)
    refine S_aload_n dX1_kindsBy_33 rfl 0 rfl (pc' := 34) rfl ?_
    refine S_aload_n dX1_kindsBy_34 rfl 2 rfl (pc' := 35) rfl ?_
    refine S_iload_n dX1_kindsBy_35 rfl 3 rfl (pc' := 36) rfl ?_
    refine S_iload dX1_kindsBy_36 4 rfl (pc' := 38) rfl ?_
    refine S_invi ml_X1_85 mi_X1_comesAsTold (ci := 1) ⟨_, rfl, rfl⟩ (by decide) dX1_kindsBy_38 [.ref (zb Z + a2), .int a3, .int a4] rfl (fun v h2 q => c_X1_comesAsTold Z l _ _ _ _ _ q) ⟨Nat.le_of_ble_eq_true rfl, Nat.le_of_ble_eq_true rfl⟩ (rest := []) (Nat.le_of_ble_eq_true rfl) rfl (pc' := 41) rfl (fun x38 h38 => ?_)
    refine S_if_eq dX1_kindsBy_41 53 rfl (pc' := 44) rfl (fun g41 => ?_) (fun g41 => ?_)
    · refine S_iinc dX1_kindsBy_53 (q := 6) rfl (v := b6 + 1) rfl (by decide) (lo' := [(6, .int (b6 + 1)), (0, .ref (zb Z + a0)), (1, .ref (zb Z + a1)), (2, .ref (zb Z + a2)), (3, .int a3), (4, .int a4), (5, .int b5)]) rfl (pc' := 56) rfl ?_
      refine S_goto dX1_kindsBy_56 6 rfl ?_
      refine Sim.sub [1, 2, 3, 4, 5, 6, 0] rfl ?_
      exact hF _ _ _
    · refine S_iload dX1_kindsBy_44 5 rfl (pc' := 46) rfl ?_
      refine S_iconst dX1_kindsBy_46 (v := 1) rfl (pc' := 47) rfl ?_
      refine S_iload dX1_kindsBy_47 6 rfl (pc' := 49) rfl ?_
      refine S_ishl dX1_kindsBy_49 (pc' := 50) rfl ?_
      refine S_ior dX1_kindsBy_50 (pc' := 51) rfl ?_
      refine S_istore dX1_kindsBy_51 (by decide) (lo' := [(5, .int (b5 ||| (1 <<< (b6 &&& 31)))), (0, .ref (zb Z + a0)), (1, .ref (zb Z + a1)), (2, .ref (zb Z + a2)), (3, .int a3), (4, .int a4), (6, .int b6)]) rfl (pc' := 53) rfl ?_
      refine S_iinc dX1_kindsBy_53 (q := 6) rfl (v := b6 + 1) rfl (by decide) (lo' := [(6, .int (b6 + 1)), (5, .int (b5 ||| (1 <<< (b6 &&& 31)))), (0, .ref (zb Z + a0)), (1, .ref (zb Z + a1)), (2, .ref (zb Z + a2)), (3, .int a3), (4, .int a4)]) rfl (pc' := 56) rfl ?_
      refine S_goto dX1_kindsBy_56 6 rfl ?_
      refine Sim.sub [2, 3, 4, 5, 6, 1, 0] rfl ?_
      exact hF _ _ _
theorem lq_X1_kindsBy_6 (Z : ZZ) (l : Launch) (a0 : Nat) (a1 : Nat) (a2 : Nat) (a3 : Int32) (a4 : Int32) {args : Array Value} {h0 h1 : HP} {v0 : Int32} (K : Int32 → HP → Option (Int32 × HP))
    (hK : ∀ (b5 : Int32) (h : HP), Sim Z l cX1_kindsBy RX1 7 6 137 (some .int) "kindsBy" args (Mq Z args h0 h1 (some (.int v0))) h0 h1 v0 59 [(5, .int b5)] [] h (K b5 h)) :
    ∀ (k : Nat) (b5 : Int32) (b6 : Int32) (h : HP), Sim Z l cX1_kindsBy RX1 7 6 137 (some .int) "kindsBy" args (Mq Z args h0 h1 (some (.int v0))) h0 h1 v0 6 [(0, .ref (zb Z + a0)), (1, .ref (zb Z + a1)), (2, .ref (zb Z + a2)), (3, .int a3), (4, .int a4), (5, .int b5), (6, .int b6)] [] h (lp_X1_kindsBy_6 a0 a1 a2 a3 a4 K k b5 b6 h) := by
  intro k
  induction k with
  | zero => exact fun _ _ _ => Sim.none
  | succ k ih => exact lc_X1_kindsBy_6 Z l a0 a1 a2 a3 a4 K _ hK ih
set_option maxRecDepth 100000 in
set_option maxHeartbeats 4000000 in
theorem c_X1_kindsBy (Z : ZZ) (l : Launch) (t : Nat) (a1 : Nat) (a2 : Nat) (a3 : Int32) (a4 : Int32) (h : HP) {v : Int32} {h1 : HP} (ho : f_X1_kindsBy t a1 a2 a3 a4 h = some (v, h1)) : MetP Z l yX1_kindsBy cX1_kindsBy 7 (some .int) 6 137 [.ref (zb Z + t), .ref (zb Z + a1), .ref (zb Z + a2), .int a3, .int a4] h (some (.int v)) h1 := by
  refine MetP_of ho (by decide +kernel) (Nat.le_of_ble_eq_true rfl) [(0, .ref (zb Z + t)), (1, .ref (zb Z + a1)), (2, .ref (zb Z + a2)), (3, .int a3), (4, .int a4)] rfl (own := RX1) rfl (nm := "kindsBy") rfl ?_
  unfold f_X1_kindsBy
  refine S_iconst dX1_kindsBy_0 (v := 0) rfl (pc' := 1) rfl ?_
  refine S_istore dX1_kindsBy_1 (by decide) (lo' := [(5, .int 0), (0, .ref (zb Z + t)), (1, .ref (zb Z + a1)), (2, .ref (zb Z + a2)), (3, .int a3), (4, .int a4)]) rfl (pc' := 3) rfl ?_
  refine S_iconst dX1_kindsBy_3 (v := 0) rfl (pc' := 4) rfl ?_
  refine S_istore dX1_kindsBy_4 (by decide) (lo' := [(6, .int 0), (5, .int 0), (0, .ref (zb Z + t)), (1, .ref (zb Z + a1)), (2, .ref (zb Z + a2)), (3, .int a3), (4, .int a4)]) rfl (pc' := 6) rfl ?_
  refine Sim.sub [2, 3, 4, 5, 6, 1, 0] rfl ?_
  refine lq_X1_kindsBy_6 Z l t a1 a2 a3 a4 _ ?_ 1000 _ _ _
  intro b5_6 h6_
  refine S_iload dX1_kindsBy_59 0 rfl (pc' := 61) rfl ?_
  exact S_iret rfl dX1_kindsBy_61
theorem dX1_losesWithin_0 : decode cX1_losesWithin 0 = .ok (.iconst 0, 1) := by decide +kernel
theorem dX1_losesWithin_1 : decode cX1_losesWithin 1 = .ok (.istore 4, 2) := by decide +kernel
theorem dX1_losesWithin_3 : decode cX1_losesWithin 3 = .ok (.iload 4, 2) := by decide +kernel
theorem dX1_losesWithin_5 : decode cX1_losesWithin 5 = .ok (.iload_n 3, 1) := by decide +kernel
theorem dX1_losesWithin_6 : decode cX1_losesWithin 6 = .ok (.if_icmp .ge 32, 3) := by decide +kernel
theorem dX1_losesWithin_9 : decode cX1_losesWithin 9 = .ok (.aload_n 0, 1) := by decide +kernel
theorem dX1_losesWithin_10 : decode cX1_losesWithin 10 = .ok (.getfield 12, 3) := by decide +kernel
theorem dX1_losesWithin_13 : decode cX1_losesWithin 13 = .ok (.iload_n 2, 1) := by decide +kernel
theorem dX1_losesWithin_14 : decode cX1_losesWithin 14 = .ok (.invokevirtual 37, 3) := by decide +kernel
theorem dX1_losesWithin_17 : decode cX1_losesWithin 17 = .ok (.aload_n 0, 1) := by decide +kernel
theorem dX1_losesWithin_18 : decode cX1_losesWithin 18 = .ok (.getfield 12, 3) := by decide +kernel
theorem dX1_losesWithin_21 : decode cX1_losesWithin 21 = .ok (.iload_n 1, 1) := by decide +kernel
theorem dX1_losesWithin_22 : decode cX1_losesWithin 22 = .ok (.iload_n 2, 1) := by decide +kernel
theorem dX1_losesWithin_23 : decode cX1_losesWithin 23 = .ok (.invokevirtual 41, 3) := by decide +kernel
theorem dX1_losesWithin_26 : decode cX1_losesWithin 26 = .ok (.iconst (-1), 1) := by decide +kernel
theorem dX1_losesWithin_27 : decode cX1_losesWithin 27 = .ok (.if_icmp .ne 5, 3) := by decide +kernel
theorem dX1_losesWithin_30 : decode cX1_losesWithin 30 = .ok (.iconst 1, 1) := by decide +kernel
theorem dX1_losesWithin_31 : decode cX1_losesWithin 31 = .ok (.ireturn, 1) := by decide +kernel
theorem dX1_losesWithin_32 : decode cX1_losesWithin 32 = .ok (.iinc 4 1, 3) := by decide +kernel
theorem dX1_losesWithin_35 : decode cX1_losesWithin 35 = .ok (.goto (-32), 3) := by decide +kernel
theorem dX1_losesWithin_38 : decode cX1_losesWithin 38 = .ok (.iconst 0, 1) := by decide +kernel
theorem dX1_losesWithin_39 : decode cX1_losesWithin 39 = .ok (.ireturn, 1) := by decide +kernel
set_option maxRecDepth 100000 in
set_option maxHeartbeats 4000000 in
theorem lc_X1_losesWithin_3 (Z : ZZ) (l : Launch) (a0 : Nat) (a1 : Int32) (a2 : Int32) (a3 : Int32) {args : Array Value} {h0 h1 : HP} {v0 : Int32} (K : HP → Option (Int32 × HP)) (F : Int32 → HP → Option (Int32 × HP))
    (hK : ∀ (h : HP), Sim Z l cX1_losesWithin RX1 5 5 112 (some .boolean) "losesWithin" args (Mq Z args h0 h1 (some (.int v0))) h0 h1 v0 38 [] [] h (K h))
    (hF : ∀ (b4 : Int32) (h : HP), Sim Z l cX1_losesWithin RX1 5 5 112 (some .boolean) "losesWithin" args (Mq Z args h0 h1 (some (.int v0))) h0 h1 v0 3 [(0, .ref (zb Z + a0)), (1, .int a1), (2, .int a2), (3, .int a3), (4, .int b4)] [] h (F b4 h)) :
    ∀ (b4 : Int32) (h : HP), Sim Z l cX1_losesWithin RX1 5 5 112 (some .boolean) "losesWithin" args (Mq Z args h0 h1 (some (.int v0))) h0 h1 v0 3 [(0, .ref (zb Z + a0)), (1, .int a1), (2, .int a2), (3, .int a3), (4, .int b4)] [] h (lb_X1_losesWithin_3 a0 a1 a2 a3 K F b4 h) := by
  intro b4 h
  unfold lb_X1_losesWithin_3
  refine S_iload dX1_losesWithin_3 4 rfl (pc' := 5) rfl ?_
  refine S_iload_n dX1_losesWithin_5 rfl 3 rfl (pc' := 6) rfl ?_
  refine S_icmp_ge dX1_losesWithin_6 38 rfl (pc' := 9) rfl (fun g6 => ?_) (fun g6 => ?_)
  · refine Sim.sub [] rfl ?_
    exact hK _
  · refine S_aload_n dX1_losesWithin_9 rfl 0 rfl (pc' := 10) rfl ?_
    refine S_getR fl_X1_12 rfl dX1_losesWithin_10 (pc' := 13) rfl (fun x10 => ?_)
    refine S_iload_n dX1_losesWithin_13 rfl 2 rfl (pc' := 14) rfl ?_
    refine S_invv ml_X1_37 mi_X0_passYearOf (ci := 0) ⟨_, rfl, rfl⟩ (by decide) dX1_losesWithin_14 [.int a2] rfl (fun v h2 q => c_X0_passYearOf Z l _ _ _ q) ⟨Nat.le_of_ble_eq_true rfl, Nat.le_of_ble_eq_true rfl⟩ (rest := []) (Nat.le_of_ble_eq_true rfl) rfl (pc' := 17) rfl (fun _ h14 => ?_)
    refine S_aload_n dX1_losesWithin_17 rfl 0 rfl (pc' := 18) rfl ?_
    refine S_getR fl_X1_12 rfl dX1_losesWithin_18 (pc' := 21) rfl (fun x18 => ?_)
    refine S_iload_n dX1_losesWithin_21 rfl 1 rfl (pc' := 22) rfl ?_
    refine S_iload_n dX1_losesWithin_22 rfl 2 rfl (pc' := 23) rfl ?_
    refine S_invi ml_X1_41 mi_X0_heldFor (ci := 0) ⟨_, rfl, rfl⟩ (by decide) dX1_losesWithin_23 [.int a1, .int a2] rfl (fun v h2 q => c_X0_heldFor Z l _ _ _ _ q) ⟨Nat.le_of_ble_eq_true rfl, Nat.le_of_ble_eq_true rfl⟩ (rest := []) (Nat.le_of_ble_eq_true rfl) rfl (pc' := 26) rfl (fun x23 h23 => ?_)
    refine S_iconst dX1_losesWithin_26 (v := (-1)) rfl (pc' := 27) rfl ?_
    refine S_icmp_ne dX1_losesWithin_27 32 rfl (pc' := 30) rfl (fun g27 => ?_) (fun g27 => ?_)
    · refine S_iinc dX1_losesWithin_32 (q := 4) rfl (v := b4 + 1) rfl (by decide) (lo' := [(4, .int (b4 + 1)), (0, .ref (zb Z + a0)), (1, .int a1), (2, .int a2), (3, .int a3)]) rfl (pc' := 35) rfl ?_
      refine S_goto dX1_losesWithin_35 3 rfl ?_
      refine Sim.sub [1, 2, 3, 4, 0] rfl ?_
      exact hF _ _
    · refine S_iconst dX1_losesWithin_30 (v := 1) rfl (pc' := 31) rfl ?_
      exact S_zret rfl dX1_losesWithin_31
theorem lq_X1_losesWithin_3 (Z : ZZ) (l : Launch) (a0 : Nat) (a1 : Int32) (a2 : Int32) (a3 : Int32) {args : Array Value} {h0 h1 : HP} {v0 : Int32} (K : HP → Option (Int32 × HP))
    (hK : ∀ (h : HP), Sim Z l cX1_losesWithin RX1 5 5 112 (some .boolean) "losesWithin" args (Mq Z args h0 h1 (some (.int v0))) h0 h1 v0 38 [] [] h (K h)) :
    ∀ (k : Nat) (b4 : Int32) (h : HP), Sim Z l cX1_losesWithin RX1 5 5 112 (some .boolean) "losesWithin" args (Mq Z args h0 h1 (some (.int v0))) h0 h1 v0 3 [(0, .ref (zb Z + a0)), (1, .int a1), (2, .int a2), (3, .int a3), (4, .int b4)] [] h (lp_X1_losesWithin_3 a0 a1 a2 a3 K k b4 h) := by
  intro k
  induction k with
  | zero => exact fun _ _ => Sim.none
  | succ k ih => exact lc_X1_losesWithin_3 Z l a0 a1 a2 a3 K _ hK ih
set_option maxRecDepth 100000 in
set_option maxHeartbeats 4000000 in
theorem c_X1_losesWithin (Z : ZZ) (l : Launch) (t : Nat) (a1 : Int32) (a2 : Int32) (a3 : Int32) (h : HP) {v : Int32} {h1 : HP} (ho : f_X1_losesWithin t a1 a2 a3 h = some (v, h1)) : MetP Z l yX1_losesWithin cX1_losesWithin 5 (some .boolean) 5 112 [.ref (zb Z + t), .int a1, .int a2, .int a3] h (some (.int v)) h1 := by
  refine MetP_of ho (by decide +kernel) (Nat.le_of_ble_eq_true rfl) [(0, .ref (zb Z + t)), (1, .int a1), (2, .int a2), (3, .int a3)] rfl (own := RX1) rfl (nm := "losesWithin") rfl ?_
  unfold f_X1_losesWithin
  refine S_iconst dX1_losesWithin_0 (v := 0) rfl (pc' := 1) rfl ?_
  refine S_istore dX1_losesWithin_1 (by decide) (lo' := [(4, .int 0), (0, .ref (zb Z + t)), (1, .int a1), (2, .int a2), (3, .int a3)]) rfl (pc' := 3) rfl ?_
  refine Sim.sub [1, 2, 3, 4, 0] rfl ?_
  refine lq_X1_losesWithin_3 Z l t a1 a2 a3 _ ?_ 1000 _ _
  intro h3_
  refine S_iconst dX1_losesWithin_38 (v := 0) rfl (pc' := 39) rfl ?_
  exact S_zret rfl dX1_losesWithin_39
theorem dX1_leastGrief_0 : decode cX1_leastGrief 0 = .ok (.iconst 0, 1) := by decide +kernel
theorem dX1_leastGrief_1 : decode cX1_leastGrief 1 = .ok (.istore 5, 2) := by decide +kernel
theorem dX1_leastGrief_3 : decode cX1_leastGrief 3 = .ok (.iload 5, 2) := by decide +kernel
theorem dX1_leastGrief_5 : decode cX1_leastGrief 5 = .ok (.bipush 10, 2) := by decide +kernel
theorem dX1_leastGrief_7 : decode cX1_leastGrief 7 = .ok (.if_icmp .ge 42, 3) := by decide +kernel
theorem dX1_leastGrief_10 : decode cX1_leastGrief 10 = .ok (.aload_n 0, 1) := by decide +kernel
theorem dX1_leastGrief_11 : decode cX1_leastGrief 11 = .ok (.getfield 12, 3) := by decide +kernel
theorem dX1_leastGrief_14 : decode cX1_leastGrief 14 = .ok (.aload_n 1, 1) := by decide +kernel
theorem dX1_leastGrief_15 : decode cX1_leastGrief 15 = .ok (.invokevirtual 22, 3) := by decide +kernel
theorem dX1_leastGrief_18 : decode cX1_leastGrief 18 = .ok (.aload_n 0, 1) := by decide +kernel
theorem dX1_leastGrief_19 : decode cX1_leastGrief 19 = .ok (.getfield 12, 3) := by decide +kernel
theorem dX1_leastGrief_22 : decode cX1_leastGrief 22 = .ok (.getfield 101, 3) := by decide +kernel
theorem dX1_leastGrief_25 : decode cX1_leastGrief 25 = .ok (.iload_n 2, 1) := by decide +kernel
theorem dX1_leastGrief_26 : decode cX1_leastGrief 26 = .ok (.iload 5, 2) := by decide +kernel
theorem dX1_leastGrief_28 : decode cX1_leastGrief 28 = .ok (.iastore, 1) := by decide +kernel
theorem dX1_leastGrief_29 : decode cX1_leastGrief 29 = .ok (.aload_n 0, 1) := by decide +kernel
theorem dX1_leastGrief_30 : decode cX1_leastGrief 30 = .ok (.iload_n 2, 1) := by decide +kernel
theorem dX1_leastGrief_31 : decode cX1_leastGrief 31 = .ok (.iload_n 3, 1) := by decide +kernel
theorem dX1_leastGrief_32 : decode cX1_leastGrief 32 = .ok (.iload 4, 2) := by decide +kernel
theorem dX1_leastGrief_34 : decode cX1_leastGrief 34 = .ok (.invokevirtual 104, 3) := by decide +kernel
theorem dX1_leastGrief_37 : decode cX1_leastGrief 37 = .ok (.ifCond .eq 6, 3) := by decide +kernel
theorem dX1_leastGrief_40 : decode cX1_leastGrief 40 = .ok (.iload 5, 2) := by decide +kernel
theorem dX1_leastGrief_42 : decode cX1_leastGrief 42 = .ok (.ireturn, 1) := by decide +kernel
theorem dX1_leastGrief_43 : decode cX1_leastGrief 43 = .ok (.iinc 5 1, 3) := by decide +kernel
theorem dX1_leastGrief_46 : decode cX1_leastGrief 46 = .ok (.goto (-43), 3) := by decide +kernel
theorem dX1_leastGrief_49 : decode cX1_leastGrief 49 = .ok (.iconst (-1), 1) := by decide +kernel
theorem dX1_leastGrief_50 : decode cX1_leastGrief 50 = .ok (.ireturn, 1) := by decide +kernel
set_option maxRecDepth 100000 in
set_option maxHeartbeats 4000000 in
theorem lc_X1_leastGrief_3 (Z : ZZ) (l : Launch) (a0 : Nat) (a1 : Nat) (a2 : Int32) (a3 : Int32) (a4 : Int32) {args : Array Value} {h0 h1 : HP} {v0 : Int32} (K : HP → Option (Int32 × HP)) (F : Int32 → HP → Option (Int32 × HP))
    (hK : ∀ (h : HP), Sim Z l cX1_leastGrief RX1 6 6 136 (some .int) "leastGrief" args (Mq Z args h0 h1 (some (.int v0))) h0 h1 v0 49 [] [] h (K h))
    (hF : ∀ (b5 : Int32) (h : HP), Sim Z l cX1_leastGrief RX1 6 6 136 (some .int) "leastGrief" args (Mq Z args h0 h1 (some (.int v0))) h0 h1 v0 3 [(0, .ref (zb Z + a0)), (1, .ref (zb Z + a1)), (2, .int a2), (3, .int a3), (4, .int a4), (5, .int b5)] [] h (F b5 h)) :
    ∀ (b5 : Int32) (h : HP), Sim Z l cX1_leastGrief RX1 6 6 136 (some .int) "leastGrief" args (Mq Z args h0 h1 (some (.int v0))) h0 h1 v0 3 [(0, .ref (zb Z + a0)), (1, .ref (zb Z + a1)), (2, .int a2), (3, .int a3), (4, .int a4), (5, .int b5)] [] h (lb_X1_leastGrief_3 a0 a1 a2 a3 a4 K F b5 h) := by
  intro b5 h
  unfold lb_X1_leastGrief_3
  refine S_iload dX1_leastGrief_3 5 rfl (pc' := 5) rfl ?_
  refine S_bipush dX1_leastGrief_5 (v := 10) rfl (pc' := 7) rfl ?_
  refine S_icmp_ge dX1_leastGrief_7 49 rfl (pc' := 10) rfl (fun g7 => ?_) (fun g7 => ?_)
  · refine Sim.sub [] rfl ?_
    exact hK _
  · refine S_aload_n dX1_leastGrief_10 rfl 0 rfl (pc' := 11) rfl ?_
    refine S_getR fl_X1_12 rfl dX1_leastGrief_11 (pc' := 14) rfl (fun x11 => ?_)
    refine S_aload_n dX1_leastGrief_14 rfl 1 rfl (pc' := 15) rfl ?_
    refine S_invv ml_X1_22 mi_X0_become (ci := 0) ⟨_, rfl, rfl⟩ (by decide) dX1_leastGrief_15 [.ref (zb Z + a1)] rfl (fun v h2 q => c_X0_become Z l _ _ _ q) ⟨Nat.le_of_ble_eq_true rfl, Nat.le_of_ble_eq_true rfl⟩ (rest := []) (Nat.le_of_ble_eq_true rfl) rfl (pc' := 18) rfl (fun _ h15 => ?_)
    refine S_aload_n dX1_leastGrief_18 rfl 0 rfl (pc' := 19) rfl ?_
    refine S_getR fl_X1_12 rfl dX1_leastGrief_19 (pc' := 22) rfl (fun x19 => ?_)
    refine S_getR fl_X1_101 rfl dX1_leastGrief_22 (pc' := 25) rfl (fun x22 => ?_)
    refine S_iload_n dX1_leastGrief_25 rfl 2 rfl (pc' := 26) rfl ?_
    refine S_iload dX1_leastGrief_26 5 rfl (pc' := 28) rfl ?_
    refine S_iastore dX1_leastGrief_28 (pc' := 29) rfl (fun h28 => ?_)
    refine S_aload_n dX1_leastGrief_29 rfl 0 rfl (pc' := 30) rfl ?_
    refine S_iload_n dX1_leastGrief_30 rfl 2 rfl (pc' := 31) rfl ?_
    refine S_iload_n dX1_leastGrief_31 rfl 3 rfl (pc' := 32) rfl ?_
    refine S_iload dX1_leastGrief_32 4 rfl (pc' := 34) rfl ?_
    refine S_invi ml_X1_104 mi_X1_losesWithin (ci := 1) ⟨_, rfl, rfl⟩ (by decide) dX1_leastGrief_34 [.int a2, .int a3, .int a4] rfl (fun v h2 q => c_X1_losesWithin Z l _ _ _ _ _ q) ⟨Nat.le_of_ble_eq_true rfl, Nat.le_of_ble_eq_true rfl⟩ (rest := []) (Nat.le_of_ble_eq_true rfl) rfl (pc' := 37) rfl (fun x34 h34 => ?_)
    refine S_if_eq dX1_leastGrief_37 43 rfl (pc' := 40) rfl (fun g37 => ?_) (fun g37 => ?_)
    · refine S_iinc dX1_leastGrief_43 (q := 5) rfl (v := b5 + 1) rfl (by decide) (lo' := [(5, .int (b5 + 1)), (0, .ref (zb Z + a0)), (1, .ref (zb Z + a1)), (2, .int a2), (3, .int a3), (4, .int a4)]) rfl (pc' := 46) rfl ?_
      refine S_goto dX1_leastGrief_46 3 rfl ?_
      refine Sim.sub [1, 2, 3, 4, 5, 0] rfl ?_
      exact hF _ _
    · refine S_iload dX1_leastGrief_40 5 rfl (pc' := 42) rfl ?_
      exact S_iret rfl dX1_leastGrief_42
theorem lq_X1_leastGrief_3 (Z : ZZ) (l : Launch) (a0 : Nat) (a1 : Nat) (a2 : Int32) (a3 : Int32) (a4 : Int32) {args : Array Value} {h0 h1 : HP} {v0 : Int32} (K : HP → Option (Int32 × HP))
    (hK : ∀ (h : HP), Sim Z l cX1_leastGrief RX1 6 6 136 (some .int) "leastGrief" args (Mq Z args h0 h1 (some (.int v0))) h0 h1 v0 49 [] [] h (K h)) :
    ∀ (k : Nat) (b5 : Int32) (h : HP), Sim Z l cX1_leastGrief RX1 6 6 136 (some .int) "leastGrief" args (Mq Z args h0 h1 (some (.int v0))) h0 h1 v0 3 [(0, .ref (zb Z + a0)), (1, .ref (zb Z + a1)), (2, .int a2), (3, .int a3), (4, .int a4), (5, .int b5)] [] h (lp_X1_leastGrief_3 a0 a1 a2 a3 a4 K k b5 h) := by
  intro k
  induction k with
  | zero => exact fun _ _ => Sim.none
  | succ k ih => exact lc_X1_leastGrief_3 Z l a0 a1 a2 a3 a4 K _ hK ih
set_option maxRecDepth 100000 in
set_option maxHeartbeats 4000000 in
theorem c_X1_leastGrief (Z : ZZ) (l : Launch) (t : Nat) (a1 : Nat) (a2 : Int32) (a3 : Int32) (a4 : Int32) (h : HP) {v : Int32} {h1 : HP} (ho : f_X1_leastGrief t a1 a2 a3 a4 h = some (v, h1)) : MetP Z l yX1_leastGrief cX1_leastGrief 6 (some .int) 6 136 [.ref (zb Z + t), .ref (zb Z + a1), .int a2, .int a3, .int a4] h (some (.int v)) h1 := by
  refine MetP_of ho (by decide +kernel) (Nat.le_of_ble_eq_true rfl) [(0, .ref (zb Z + t)), (1, .ref (zb Z + a1)), (2, .int a2), (3, .int a3), (4, .int a4)] rfl (own := RX1) rfl (nm := "leastGrief") rfl ?_
  unfold f_X1_leastGrief
  refine S_iconst dX1_leastGrief_0 (v := 0) rfl (pc' := 1) rfl ?_
  refine S_istore dX1_leastGrief_1 (by decide) (lo' := [(5, .int 0), (0, .ref (zb Z + t)), (1, .ref (zb Z + a1)), (2, .int a2), (3, .int a3), (4, .int a4)]) rfl (pc' := 3) rfl ?_
  refine Sim.sub [1, 2, 3, 4, 5, 0] rfl ?_
  refine lq_X1_leastGrief_3 Z l t a1 a2 a3 a4 _ ?_ 1000 _ _
  intro h3_
  refine S_iconst dX1_leastGrief_49 (v := (-1)) rfl (pc' := 50) rfl ?_
  exact S_iret rfl dX1_leastGrief_50
theorem dX1_firstWrong_0 : decode cX1_firstWrong 0 = .ok (.aload_n 0, 1) := by decide +kernel
theorem dX1_firstWrong_1 : decode cX1_firstWrong 1 = .ok (.getfield 12, 3) := by decide +kernel
theorem dX1_firstWrong_4 : decode cX1_firstWrong 4 = .ok (.aload_n 1, 1) := by decide +kernel
theorem dX1_firstWrong_5 : decode cX1_firstWrong 5 = .ok (.invokevirtual 22, 3) := by decide +kernel
theorem dX1_firstWrong_8 : decode cX1_firstWrong 8 = .ok (.iconst 0, 1) := by decide +kernel
theorem dX1_firstWrong_9 : decode cX1_firstWrong 9 = .ok (.istore 4, 2) := by decide +kernel
theorem dX1_firstWrong_11 : decode cX1_firstWrong 11 = .ok (.iload 4, 2) := by decide +kernel
theorem dX1_firstWrong_13 : decode cX1_firstWrong 13 = .ok (.iload_n 3, 1) := by decide +kernel
theorem dX1_firstWrong_14 : decode cX1_firstWrong 14 = .ok (.if_icmp .ge 39, 3) := by decide +kernel
theorem dX1_firstWrong_17 : decode cX1_firstWrong 17 = .ok (.aload_n 0, 1) := by decide +kernel
theorem dX1_firstWrong_18 : decode cX1_firstWrong 18 = .ok (.getfield 12, 3) := by decide +kernel
theorem dX1_firstWrong_21 : decode cX1_firstWrong 21 = .ok (.invokevirtual 26, 3) := by decide +kernel
theorem dX1_firstWrong_24 : decode cX1_firstWrong 24 = .ok (.pop, 1) := by decide +kernel
theorem dX1_firstWrong_25 : decode cX1_firstWrong 25 = .ok (.aload_n 0, 1) := by decide +kernel
theorem dX1_firstWrong_26 : decode cX1_firstWrong 26 = .ok (.getfield 12, 3) := by decide +kernel
theorem dX1_firstWrong_29 : decode cX1_firstWrong 29 = .ok (.invokevirtual 108, 3) := by decide +kernel
theorem dX1_firstWrong_32 : decode cX1_firstWrong 32 = .ok (.i2l, 1) := by decide +kernel
theorem dX1_firstWrong_33 : decode cX1_firstWrong 33 = .ok (.aload_n 2, 1) := by decide +kernel
theorem dX1_firstWrong_34 : decode cX1_firstWrong 34 = .ok (.getfield 95, 3) := by decide +kernel
theorem dX1_firstWrong_37 : decode cX1_firstWrong 37 = .ok (.iload 4, 2) := by decide +kernel
theorem dX1_firstWrong_39 : decode cX1_firstWrong 39 = .ok (.laload, 1) := by decide +kernel
theorem dX1_firstWrong_40 : decode cX1_firstWrong 40 = .ok (.lcmp, 1) := by decide +kernel
theorem dX1_firstWrong_41 : decode cX1_firstWrong 41 = .ok (.ifCond .eq 6, 3) := by decide +kernel
theorem dX1_firstWrong_44 : decode cX1_firstWrong 44 = .ok (.iload 4, 2) := by decide +kernel
theorem dX1_firstWrong_46 : decode cX1_firstWrong 46 = .ok (.ireturn, 1) := by decide +kernel
theorem dX1_firstWrong_47 : decode cX1_firstWrong 47 = .ok (.iinc 4 1, 3) := by decide +kernel
theorem dX1_firstWrong_50 : decode cX1_firstWrong 50 = .ok (.goto (-39), 3) := by decide +kernel
theorem dX1_firstWrong_53 : decode cX1_firstWrong 53 = .ok (.iconst (-1), 1) := by decide +kernel
theorem dX1_firstWrong_54 : decode cX1_firstWrong 54 = .ok (.ireturn, 1) := by decide +kernel
set_option maxRecDepth 100000 in
set_option maxHeartbeats 4000000 in
theorem lc_X1_firstWrong_11 (Z : ZZ) (l : Launch) (a0 : Nat) (a2 : Nat) (a3 : Int32) {args : Array Value} {h0 h1 : HP} {v0 : Int32} (K : HP → Option (Int32 × HP)) (F : Int32 → HP → Option (Int32 × HP))
    (hK : ∀ (h : HP), Sim Z l cX1_firstWrong RX1 5 5 113 (some .int) "firstWrong" args (Mq Z args h0 h1 (some (.int v0))) h0 h1 v0 53 [] [] h (K h))
    (hF : ∀ (b4 : Int32) (h : HP), Sim Z l cX1_firstWrong RX1 5 5 113 (some .int) "firstWrong" args (Mq Z args h0 h1 (some (.int v0))) h0 h1 v0 11 [(0, .ref (zb Z + a0)), (2, .ref (zb Z + a2)), (3, .int a3), (4, .int b4)] [] h (F b4 h)) :
    ∀ (b4 : Int32) (h : HP), Sim Z l cX1_firstWrong RX1 5 5 113 (some .int) "firstWrong" args (Mq Z args h0 h1 (some (.int v0))) h0 h1 v0 11 [(0, .ref (zb Z + a0)), (2, .ref (zb Z + a2)), (3, .int a3), (4, .int b4)] [] h (lb_X1_firstWrong_11 a0 a2 a3 K F b4 h) := by
  intro b4 h
  unfold lb_X1_firstWrong_11
  refine S_iload dX1_firstWrong_11 3 rfl (pc' := 13) rfl ?_
  refine S_iload_n dX1_firstWrong_13 rfl 2 rfl (pc' := 14) rfl ?_
  refine S_icmp_ge dX1_firstWrong_14 53 rfl (pc' := 17) rfl (fun g14 => ?_) (fun g14 => ?_)
  · refine Sim.sub [] rfl ?_
    exact hK _
  · refine S_aload_n dX1_firstWrong_17 rfl 0 rfl (pc' := 18) rfl ?_
    refine S_getR fl_X1_12 rfl dX1_firstWrong_18 (pc' := 21) rfl (fun x18 => ?_)
    refine S_invi ml_X1_26 mi_X0_passYear (ci := 0) ⟨_, rfl, rfl⟩ (by decide) dX1_firstWrong_21 [] rfl (fun v h2 q => c_X0_passYear Z l _ _ q) ⟨Nat.le_of_ble_eq_true rfl, Nat.le_of_ble_eq_true rfl⟩ (rest := []) (Nat.le_of_ble_eq_true rfl) rfl (pc' := 24) rfl (fun x21 h21 => ?_)
    refine S_pop dX1_firstWrong_24 rfl (pc' := 25) rfl ?_
    refine S_aload_n dX1_firstWrong_25 rfl 0 rfl (pc' := 26) rfl ?_
    refine S_getR fl_X1_12 rfl dX1_firstWrong_26 (pc' := 29) rfl (fun x26 => ?_)
    refine S_invi ml_X1_108 mi_X0_knownSongs (ci := 0) ⟨_, rfl, rfl⟩ (by decide) dX1_firstWrong_29 [] rfl (fun v h2 q => c_X0_knownSongs Z l _ _ q) ⟨Nat.le_of_ble_eq_true rfl, Nat.le_of_ble_eq_true rfl⟩ (rest := []) (Nat.le_of_ble_eq_true rfl) rfl (pc' := 32) rfl (fun x29 h29 => ?_)
    refine S_i2l dX1_firstWrong_32 (pc' := 33) rfl ?_
    refine S_aload_n dX1_firstWrong_33 rfl 1 rfl (pc' := 34) rfl ?_
    refine S_getR fl_X1_95 rfl dX1_firstWrong_34 (pc' := 37) rfl (fun x34 => ?_)
    refine S_iload dX1_firstWrong_37 3 rfl (pc' := 39) rfl ?_
    refine S_laload dX1_firstWrong_39 (pc' := 40) rfl (fun x39 => ?_)
    refine S_lcmp dX1_firstWrong_40 (pc' := 41) rfl ?_
    refine S_if_eq dX1_firstWrong_41 47 rfl (pc' := 44) rfl (fun g41 => ?_) (fun g41 => ?_)
    · refine S_iinc dX1_firstWrong_47 (q := 3) rfl (v := b4 + 1) rfl (by decide) (lo' := [(4, .int (b4 + 1)), (0, .ref (zb Z + a0)), (2, .ref (zb Z + a2)), (3, .int a3)]) rfl (pc' := 50) rfl ?_
      refine S_goto dX1_firstWrong_50 11 rfl ?_
      refine Sim.sub [1, 2, 3, 0] rfl ?_
      exact hF _ _
    · refine S_iload dX1_firstWrong_44 3 rfl (pc' := 46) rfl ?_
      exact S_iret rfl dX1_firstWrong_46
theorem lq_X1_firstWrong_11 (Z : ZZ) (l : Launch) (a0 : Nat) (a2 : Nat) (a3 : Int32) {args : Array Value} {h0 h1 : HP} {v0 : Int32} (K : HP → Option (Int32 × HP))
    (hK : ∀ (h : HP), Sim Z l cX1_firstWrong RX1 5 5 113 (some .int) "firstWrong" args (Mq Z args h0 h1 (some (.int v0))) h0 h1 v0 53 [] [] h (K h)) :
    ∀ (k : Nat) (b4 : Int32) (h : HP), Sim Z l cX1_firstWrong RX1 5 5 113 (some .int) "firstWrong" args (Mq Z args h0 h1 (some (.int v0))) h0 h1 v0 11 [(0, .ref (zb Z + a0)), (2, .ref (zb Z + a2)), (3, .int a3), (4, .int b4)] [] h (lp_X1_firstWrong_11 a0 a2 a3 K k b4 h) := by
  intro k
  induction k with
  | zero => exact fun _ _ => Sim.none
  | succ k ih => exact lc_X1_firstWrong_11 Z l a0 a2 a3 K _ hK ih
set_option maxRecDepth 100000 in
set_option maxHeartbeats 4000000 in
theorem c_X1_firstWrong (Z : ZZ) (l : Launch) (t : Nat) (a1 : Nat) (a2 : Nat) (a3 : Int32) (h : HP) {v : Int32} {h1 : HP} (ho : f_X1_firstWrong t a1 a2 a3 h = some (v, h1)) : MetP Z l yX1_firstWrong cX1_firstWrong 5 (some .int) 5 113 [.ref (zb Z + t), .ref (zb Z + a1), .ref (zb Z + a2), .int a3] h (some (.int v)) h1 := by
  refine MetP_of ho (by decide +kernel) (Nat.le_of_ble_eq_true rfl) [(0, .ref (zb Z + t)), (1, .ref (zb Z + a1)), (2, .ref (zb Z + a2)), (3, .int a3)] rfl (own := RX1) rfl (nm := "firstWrong") rfl ?_
  unfold f_X1_firstWrong
  refine S_aload_n dX1_firstWrong_0 rfl 0 rfl (pc' := 1) rfl ?_
  refine S_getR fl_X1_12 rfl dX1_firstWrong_1 (pc' := 4) rfl (fun x1 => ?_)
  refine S_aload_n dX1_firstWrong_4 rfl 1 rfl (pc' := 5) rfl ?_
  refine S_invv ml_X1_22 mi_X0_become (ci := 0) ⟨_, rfl, rfl⟩ (by decide) dX1_firstWrong_5 [.ref (zb Z + a1)] rfl (fun v h2 q => c_X0_become Z l _ _ _ q) ⟨Nat.le_of_ble_eq_true rfl, Nat.le_of_ble_eq_true rfl⟩ (rest := []) (Nat.le_of_ble_eq_true rfl) rfl (pc' := 8) rfl (fun _ h5 => ?_)
  refine S_iconst dX1_firstWrong_8 (v := 0) rfl (pc' := 9) rfl ?_
  refine S_istore dX1_firstWrong_9 (by decide) (lo' := [(4, .int 0), (0, .ref (zb Z + t)), (1, .ref (zb Z + a1)), (2, .ref (zb Z + a2)), (3, .int a3)]) rfl (pc' := 11) rfl ?_
  refine Sim.sub [1, 3, 4, 0] rfl ?_
  refine lq_X1_firstWrong_11 Z l t a2 a3 _ ?_ 1000 _ _
  intro h11_
  refine S_iconst dX1_firstWrong_53 (v := (-1)) rfl (pc' := 54) rfl ?_
  exact S_iret rfl dX1_firstWrong_54
