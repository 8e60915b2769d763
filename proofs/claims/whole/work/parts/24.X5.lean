theorem dX5_init_0 : decode cX5_init 0 = .ok (.aload_n 0, 1) := by decide +kernel
theorem dX5_init_1 : decode cX5_init 1 = .ok (.invokespecial 3, 3) := by decide +kernel
theorem dX5_init_4 : decode cX5_init 4 = .ok (.aload_n 0, 1) := by decide +kernel
theorem dX5_init_5 : decode cX5_init 5 = .ok (.new 9, 3) := by decide +kernel
theorem dX5_init_8 : decode cX5_init 8 = .ok (.dup, 1) := by decide +kernel
theorem dX5_init_9 : decode cX5_init 9 = .ok (.invokespecial 11, 3) := by decide +kernel
theorem dX5_init_12 : decode cX5_init 12 = .ok (.putfield 12, 3) := by decide +kernel
theorem dX5_init_15 : decode cX5_init 15 = .ok (.aload_n 0, 1) := by decide +kernel
theorem dX5_init_16 : decode cX5_init 16 = .ok (.new 9, 3) := by decide +kernel
theorem dX5_init_19 : decode cX5_init 19 = .ok (.dup, 1) := by decide +kernel
theorem dX5_init_20 : decode cX5_init 20 = .ok (.invokespecial 11, 3) := by decide +kernel
theorem dX5_init_23 : decode cX5_init 23 = .ok (.putfield 16, 3) := by decide +kernel
theorem dX5_init_26 : decode cX5_init 26 = .ok (.aload_n 0, 1) := by decide +kernel
theorem dX5_init_27 : decode cX5_init 27 = .ok (.new 9, 3) := by decide +kernel
theorem dX5_init_30 : decode cX5_init 30 = .ok (.dup, 1) := by decide +kernel
theorem dX5_init_31 : decode cX5_init 31 = .ok (.invokespecial 11, 3) := by decide +kernel
theorem dX5_init_34 : decode cX5_init 34 = .ok (.putfield 19, 3) := by decide +kernel
theorem dX5_init_37 : decode cX5_init 37 = .ok (.aload_n 0, 1) := by decide +kernel
theorem dX5_init_38 : decode cX5_init 38 = .ok (.new 22, 3) := by decide +kernel
theorem dX5_init_41 : decode cX5_init 41 = .ok (.dup, 1) := by decide +kernel
theorem dX5_init_42 : decode cX5_init 42 = .ok (.invokespecial 24, 3) := by decide +kernel
theorem dX5_init_45 : decode cX5_init 45 = .ok (.putfield 25, 3) := by decide +kernel
theorem dX5_init_48 : decode cX5_init 48 = .ok (.aload_n 0, 1) := by decide +kernel
theorem dX5_init_49 : decode cX5_init 49 = .ok (.new 29, 3) := by decide +kernel
theorem dX5_init_52 : decode cX5_init 52 = .ok (.dup, 1) := by decide +kernel
theorem dX5_init_53 : decode cX5_init 53 = .ok (.invokespecial 31, 3) := by decide +kernel
theorem dX5_init_56 : decode cX5_init 56 = .ok (.putfield 32, 3) := by decide +kernel
theorem dX5_init_59 : decode cX5_init 59 = .ok (.aload_n 0, 1) := by decide +kernel
theorem dX5_init_60 : decode cX5_init 60 = .ok (.new 36, 3) := by decide +kernel
theorem dX5_init_63 : decode cX5_init 63 = .ok (.dup, 1) := by decide +kernel
theorem dX5_init_64 : decode cX5_init 64 = .ok (.invokespecial 38, 3) := by decide +kernel
theorem dX5_init_67 : decode cX5_init 67 = .ok (.putfield 39, 3) := by decide +kernel
theorem dX5_init_70 : decode cX5_init 70 = .ok (.aload_n 0, 1) := by decide +kernel
theorem dX5_init_71 : decode cX5_init 71 = .ok (.bipush 8, 2) := by decide +kernel
theorem dX5_init_73 : decode cX5_init 73 = .ok (.anewarray 43, 3) := by decide +kernel
theorem dX5_init_76 : decode cX5_init 76 = .ok (.putfield 45, 3) := by decide +kernel
theorem dX5_init_79 : decode cX5_init 79 = .ok (.aload_n 0, 1) := by decide +kernel
theorem dX5_init_80 : decode cX5_init 80 = .ok (.iconst 5, 1) := by decide +kernel
theorem dX5_init_81 : decode cX5_init 81 = .ok (.newarray .int, 2) := by decide +kernel
theorem dX5_init_83 : decode cX5_init 83 = .ok (.putfield 49, 3) := by decide +kernel
theorem dX5_init_86 : decode cX5_init 86 = .ok (.iconst 0, 1) := by decide +kernel
theorem dX5_init_87 : decode cX5_init 87 = .ok (.istore_n 1, 1) := by decide +kernel
theorem dX5_init_88 : decode cX5_init 88 = .ok (.iload_n 1, 1) := by decide +kernel
theorem dX5_init_89 : decode cX5_init 89 = .ok (.bipush 8, 2) := by decide +kernel
theorem dX5_init_91 : decode cX5_init 91 = .ok (.if_icmp .ge 22, 3) := by decide +kernel
theorem dX5_init_94 : decode cX5_init 94 = .ok (.aload_n 0, 1) := by decide +kernel
theorem dX5_init_95 : decode cX5_init 95 = .ok (.getfield 45, 3) := by decide +kernel
theorem dX5_init_98 : decode cX5_init 98 = .ok (.iload_n 1, 1) := by decide +kernel
theorem dX5_init_99 : decode cX5_init 99 = .ok (.new 43, 3) := by decide +kernel
theorem dX5_init_102 : decode cX5_init 102 = .ok (.dup, 1) := by decide +kernel
theorem dX5_init_103 : decode cX5_init 103 = .ok (.invokespecial 53, 3) := by decide +kernel
theorem dX5_init_106 : decode cX5_init 106 = .ok (.aastore, 1) := by decide +kernel
theorem dX5_init_107 : decode cX5_init 107 = .ok (.iinc 1 1, 3) := by decide +kernel
theorem dX5_init_110 : decode cX5_init 110 = .ok (.goto (-22), 3) := by decide +kernel
theorem dX5_init_113 : decode cX5_init 113 = .ok (.return_, 1) := by decide +kernel
set_option maxRecDepth 100000 in
set_option maxHeartbeats 4000000 in
theorem lc_X5_init_88 (Z : ZZ) (l : Launch) (a0 : Nat) {args : Array Value} {h0 h1 : HP} {v0 : Unit} (K : HP → Option (Unit × HP)) (F : Int32 → HP → Option (Unit × HP))
    (hK : ∀ (h : HP), Sim Z l cX5_init RX5 2 3 60 (none) "<init>" args (Mq Z args h0 h1 (none)) h0 h1 v0 113 [] [] h (K h))
    (hF : ∀ (b1 : Int32) (h : HP), Sim Z l cX5_init RX5 2 3 60 (none) "<init>" args (Mq Z args h0 h1 (none)) h0 h1 v0 88 [(0, .ref (zb Z + a0)), (1, .int b1)] [] h (F b1 h)) :
    ∀ (b1 : Int32) (h : HP), Sim Z l cX5_init RX5 2 3 60 (none) "<init>" args (Mq Z args h0 h1 (none)) h0 h1 v0 88 [(0, .ref (zb Z + a0)), (1, .int b1)] [] h (lb_X5_init_88 a0 K F b1 h) := by
  intro b1 h
  unfold lb_X5_init_88
  refine S_iload_n dX5_init_88 rfl 1 rfl (pc' := 89) rfl ?_
  refine S_bipush dX5_init_89 (v := 8) rfl (pc' := 91) rfl ?_
  refine S_icmp_ge dX5_init_91 113 rfl (pc' := 94) rfl (fun g91 => ?_) (fun g91 => ?_)
  · refine Sim.sub [] rfl ?_
    exact hK _
  · refine S_aload_n dX5_init_94 rfl 0 rfl (pc' := 95) rfl ?_
    refine S_getR fl_X5_45 rfl dX5_init_95 (pc' := 98) rfl (fun x95 => ?_)
    refine S_iload_n dX5_init_98 rfl 1 rfl (pc' := 99) rfl ?_
    refine S_new nc_X5_43 dX5_init_99 (pc' := 102) rfl (fun x99 h99 => ?_)
    refine S_dup dX5_init_102 rfl (pc' := 103) rfl ?_
    refine S_ctor ml_X5_53 rfl mc_X3_init dX5_init_103 [] rfl (fun v h2 q => c_X3_init Z l _ _ q) ⟨Nat.le_of_ble_eq_true rfl, Nat.le_of_ble_eq_true rfl⟩ (rest := [.ref (zb Z + x99), .int b1, .ref (zb Z + x95)]) (Nat.le_of_ble_eq_true rfl) rfl (pc' := 106) rfl (fun _ h103 => ?_)
    refine S_aastore dX5_init_106 (pc' := 107) rfl (fun h106 => ?_)
    refine S_iinc dX5_init_107 (q := 1) rfl (v := b1 + 1) rfl (by decide) (lo' := [(1, .int (b1 + 1)), (0, .ref (zb Z + a0))]) rfl (pc' := 110) rfl ?_
    refine S_goto dX5_init_110 88 rfl ?_
    refine Sim.sub [1, 0] rfl ?_
    exact hF _ _
theorem lq_X5_init_88 (Z : ZZ) (l : Launch) (a0 : Nat) {args : Array Value} {h0 h1 : HP} {v0 : Unit} (K : HP → Option (Unit × HP))
    (hK : ∀ (h : HP), Sim Z l cX5_init RX5 2 3 60 (none) "<init>" args (Mq Z args h0 h1 (none)) h0 h1 v0 113 [] [] h (K h)) :
    ∀ (k : Nat) (b1 : Int32) (h : HP), Sim Z l cX5_init RX5 2 3 60 (none) "<init>" args (Mq Z args h0 h1 (none)) h0 h1 v0 88 [(0, .ref (zb Z + a0)), (1, .int b1)] [] h (lp_X5_init_88 a0 K k b1 h) := by
  intro k
  induction k with
  | zero => exact fun _ _ => Sim.none
  | succ k ih => exact lc_X5_init_88 Z l a0 K _ hK ih
set_option maxRecDepth 100000 in
set_option maxHeartbeats 4000000 in
theorem c_X5_init (Z : ZZ) (l : Launch) (t : Nat) (h : HP) {v : Unit} {h1 : HP} (ho : f_X5_init t h = some (v, h1)) : MetP Z l yX5_init cX5_init 2 (none) 3 60 [.ref (zb Z + t)] h (none) h1 := by
  refine MetP_of ho (by decide +kernel) (Nat.le_of_ble_eq_true rfl) [(0, .ref (zb Z + t))] rfl (own := RX5) rfl (nm := "<init>") rfl ?_
  unfold f_X5_init
  refine S_aload_n dX5_init_0 rfl 0 rfl (pc' := 1) rfl ?_
  refine S_obj ob_X5_3 ob_i ob_c dX5_init_1 ⟨Nat.le_of_ble_eq_true rfl, Nat.le_of_ble_eq_true rfl⟩ (pc' := 4) rfl ?_
  refine S_aload_n dX5_init_4 rfl 0 rfl (pc' := 5) rfl ?_
  refine S_new nc_X5_9 dX5_init_5 (pc' := 8) rfl (fun x5 h5 => ?_)
  refine S_dup dX5_init_8 rfl (pc' := 9) rfl ?_
  refine S_ctor ml_X5_11 rfl mc_X0_init dX5_init_9 [] rfl (fun v h2 q => c_X0_init Z l _ _ q) ⟨Nat.le_of_ble_eq_true rfl, Nat.le_of_ble_eq_true rfl⟩ (rest := [.ref (zb Z + x5), .ref (zb Z + t)]) (Nat.le_of_ble_eq_true rfl) rfl (pc' := 12) rfl (fun _ h9 => ?_)
  refine S_putR fl_X5_12 (Or.inl ⟨_, rfl⟩) (fun _ => ⟨rfl, rfl, _, _, rfl⟩) (by decide) rfl dX5_init_12 (pc' := 15) rfl (fun h12 => ?_)
  refine S_aload_n dX5_init_15 rfl 0 rfl (pc' := 16) rfl ?_
  refine S_new nc_X5_9 dX5_init_16 (pc' := 19) rfl (fun x16 h16 => ?_)
  refine S_dup dX5_init_19 rfl (pc' := 20) rfl ?_
  refine S_ctor ml_X5_11 rfl mc_X0_init dX5_init_20 [] rfl (fun v h2 q => c_X0_init Z l _ _ q) ⟨Nat.le_of_ble_eq_true rfl, Nat.le_of_ble_eq_true rfl⟩ (rest := [.ref (zb Z + x16), .ref (zb Z + t)]) (Nat.le_of_ble_eq_true rfl) rfl (pc' := 23) rfl (fun _ h20 => ?_)
  refine S_putR fl_X5_16 (Or.inl ⟨_, rfl⟩) (fun _ => ⟨rfl, rfl, _, _, rfl⟩) (by decide) rfl dX5_init_23 (pc' := 26) rfl (fun h23 => ?_)
  refine S_aload_n dX5_init_26 rfl 0 rfl (pc' := 27) rfl ?_
  refine S_new nc_X5_9 dX5_init_27 (pc' := 30) rfl (fun x27 h27 => ?_)
  refine S_dup dX5_init_30 rfl (pc' := 31) rfl ?_
  refine S_ctor ml_X5_11 rfl mc_X0_init dX5_init_31 [] rfl (fun v h2 q => c_X0_init Z l _ _ q) ⟨Nat.le_of_ble_eq_true rfl, Nat.le_of_ble_eq_true rfl⟩ (rest := [.ref (zb Z + x27), .ref (zb Z + t)]) (Nat.le_of_ble_eq_true rfl) rfl (pc' := 34) rfl (fun _ h31 => ?_)
  refine S_putR fl_X5_19 (Or.inl ⟨_, rfl⟩) (fun _ => ⟨rfl, rfl, _, _, rfl⟩) (by decide) rfl dX5_init_34 (pc' := 37) rfl (fun h34 => ?_)
  refine S_aload_n dX5_init_37 rfl 0 rfl (pc' := 38) rfl ?_
  refine S_new nc_X5_22 dX5_init_38 (pc' := 41) rfl (fun x38 h38 => ?_)
  refine S_dup dX5_init_41 rfl (pc' := 42) rfl ?_
  refine S_ctor ml_X5_24 rfl mc_X1_init dX5_init_42 [] rfl (fun v h2 q => c_X1_init Z l _ _ q) ⟨Nat.le_of_ble_eq_true rfl, Nat.le_of_ble_eq_true rfl⟩ (rest := [.ref (zb Z + x38), .ref (zb Z + t)]) (Nat.le_of_ble_eq_true rfl) rfl (pc' := 45) rfl (fun _ h42 => ?_)
  refine S_putR fl_X5_25 (Or.inl ⟨_, rfl⟩) (fun _ => ⟨rfl, rfl, _, _, rfl⟩) (by decide) rfl dX5_init_45 (pc' := 48) rfl (fun h45 => ?_)
  refine S_aload_n dX5_init_48 rfl 0 rfl (pc' := 49) rfl ?_
  refine S_new nc_X5_29 dX5_init_49 (pc' := 52) rfl (fun x49 h49 => ?_)
  refine S_dup dX5_init_52 rfl (pc' := 53) rfl ?_
  refine S_ctor ml_X5_31 rfl mc_X4_init dX5_init_53 [] rfl (fun v h2 q => c_X4_init Z l _ _ q) ⟨Nat.le_of_ble_eq_true rfl, Nat.le_of_ble_eq_true rfl⟩ (rest := [.ref (zb Z + x49), .ref (zb Z + t)]) (Nat.le_of_ble_eq_true rfl) rfl (pc' := 56) rfl (fun _ h53 => ?_)
  refine S_putR fl_X5_32 (Or.inl ⟨_, rfl⟩) (fun _ => ⟨rfl, rfl, _, _, rfl⟩) (by decide) rfl dX5_init_56 (pc' := 59) rfl (fun h56 => ?_)
  refine S_aload_n dX5_init_59 rfl 0 rfl (pc' := 60) rfl ?_
  refine S_new nc_X5_36 dX5_init_60 (pc' := 63) rfl (fun x60 h60 => ?_)
  refine S_dup dX5_init_63 rfl (pc' := 64) rfl ?_
  refine S_ctor ml_X5_38 rfl mc_X2_init dX5_init_64 [] rfl (fun v h2 q => c_X2_init Z l _ _ q) ⟨Nat.le_of_ble_eq_true rfl, Nat.le_of_ble_eq_true rfl⟩ (rest := [.ref (zb Z + x60), .ref (zb Z + t)]) (Nat.le_of_ble_eq_true rfl) rfl (pc' := 67) rfl (fun _ h64 => ?_)
  refine S_putR fl_X5_39 (Or.inl ⟨_, rfl⟩) (fun _ => ⟨rfl, rfl, _, _, rfl⟩) (by decide) rfl dX5_init_67 (pc' := 70) rfl (fun h67 => ?_)
  refine S_aload_n dX5_init_70 rfl 0 rfl (pc' := 71) rfl ?_
  refine S_bipush dX5_init_71 (v := 8) rfl (pc' := 73) rfl ?_
  refine S_anew cl_X5_43 dX5_init_73 (pc' := 76) rfl (fun x73 h73 => ?_)
  refine S_putR fl_X5_45 (Or.inr ⟨_, rfl⟩) (fun _ => ⟨rfl, rfl, _, _, rfl⟩) (by decide) rfl dX5_init_76 (pc' := 79) rfl (fun h76 => ?_)
  refine S_aload_n dX5_init_79 rfl 0 rfl (pc' := 80) rfl ?_
  refine S_iconst dX5_init_80 (v := 5) rfl (pc' := 81) rfl ?_
  refine S_newarr 7 0 .int rfl (Or.inl ⟨rfl, rfl⟩) ac_int dX5_init_81 (pc' := 83) rfl (fun x81 h81 => ?_)
  refine S_putR fl_X5_49 (Or.inr ⟨_, rfl⟩) (fun _ => ⟨rfl, rfl, _, _, rfl⟩) (by decide) rfl dX5_init_83 (pc' := 86) rfl (fun h83 => ?_)
  refine S_iconst dX5_init_86 (v := 0) rfl (pc' := 87) rfl ?_
  refine S_istore_n dX5_init_87 rfl (by decide) (lo' := [(1, .int 0), (0, .ref (zb Z + t))]) rfl (pc' := 88) rfl ?_
  refine Sim.sub [1, 0] rfl ?_
  refine lq_X5_init_88 Z l t _ ?_ 1000 _ _
  intro h88_
  exact S_vret rfl dX5_init_113
theorem dX5_outside_0 : decode cX5_outside 0 = .ok (.iload_n 0, 1) := by decide +kernel
theorem dX5_outside_1 : decode cX5_outside 1 = .ok (.ifCond .lt 8, 3) := by decide +kernel
theorem dX5_outside_4 : decode cX5_outside 4 = .ok (.iload_n 0, 1) := by decide +kernel
theorem dX5_outside_5 : decode cX5_outside 5 = .ok (.iload_n 1, 1) := by decide +kernel
theorem dX5_outside_6 : decode cX5_outside 6 = .ok (.if_icmp .lt 7, 3) := by decide +kernel
theorem dX5_outside_9 : decode cX5_outside 9 = .ok (.iconst 1, 1) := by decide +kernel
theorem dX5_outside_10 : decode cX5_outside 10 = .ok (.goto 4, 3) := by decide +kernel
theorem dX5_outside_13 : decode cX5_outside 13 = .ok (.iconst 0, 1) := by decide +kernel
theorem dX5_outside_14 : decode cX5_outside 14 = .ok (.ireturn, 1) := by decide +kernel
set_option maxRecDepth 100000 in
set_option maxHeartbeats 4000000 in
theorem c_X5_outside (Z : ZZ) (l : Launch) (a0 : Int32) (a1 : Int32) (h : HP) {v : Int32} {h1 : HP} (ho : f_X5_outside a0 a1 h = some (v, h1)) : MetP Z l yX5_outside cX5_outside 2 (some .boolean) 0 0 [.int a0, .int a1] h (some (.int v)) h1 := by
  refine MetP_of ho (by decide +kernel) (Nat.le_of_ble_eq_true rfl) [(0, .int a0), (1, .int a1)] rfl (own := RX5) rfl (nm := "outside") rfl ?_
  unfold f_X5_outside
  refine S_iload_n dX5_outside_0 rfl 0 rfl (pc' := 1) rfl ?_
  refine S_if_lt dX5_outside_1 9 rfl (pc' := 4) rfl (fun g1 => ?_) (fun g1 => ?_)
  · refine S_iconst dX5_outside_9 (v := 1) rfl (pc' := 10) rfl ?_
    refine S_goto dX5_outside_10 14 rfl ?_
    exact S_zret rfl dX5_outside_14
  · refine S_iload_n dX5_outside_4 rfl 0 rfl (pc' := 5) rfl ?_
    refine S_iload_n dX5_outside_5 rfl 1 rfl (pc' := 6) rfl ?_
    refine S_icmp_lt dX5_outside_6 13 rfl (pc' := 9) rfl (fun g6 => ?_) (fun g6 => ?_)
    · refine S_iconst dX5_outside_13 (v := 0) rfl (pc' := 14) rfl ?_
      exact S_zret rfl dX5_outside_14
    · refine S_iconst dX5_outside_9 (v := 1) rfl (pc' := 10) rfl ?_
      refine S_goto dX5_outside_10 14 rfl ?_
      exact S_zret rfl dX5_outside_14
theorem dX5_refuse_0 : decode cX5_refuse 0 = .ok (.bipush (-2), 2) := by decide +kernel
theorem dX5_refuse_2 : decode cX5_refuse 2 = .ok (.iload_n 1, 1) := by decide +kernel
theorem dX5_refuse_3 : decode cX5_refuse 3 = .ok (.isub, 1) := by decide +kernel
theorem dX5_refuse_4 : decode cX5_refuse 4 = .ok (.istore_n 2, 1) := by decide +kernel
theorem dX5_refuse_5 : decode cX5_refuse 5 = .ok (.iload_n 2, 1) := by decide +kernel
theorem dX5_refuse_6 : decode cX5_refuse 6 = .ok (.iconst 5, 1) := by decide +kernel
theorem dX5_refuse_7 : decode cX5_refuse 7 = .ok (.invokestatic 54, 3) := by decide +kernel
theorem dX5_refuse_10 : decode cX5_refuse 10 = .ok (.ifCond .ne 13, 3) := by decide +kernel
theorem dX5_refuse_13 : decode cX5_refuse 13 = .ok (.aload_n 0, 1) := by decide +kernel
theorem dX5_refuse_14 : decode cX5_refuse 14 = .ok (.getfield 49, 3) := by decide +kernel
theorem dX5_refuse_17 : decode cX5_refuse 17 = .ok (.iload_n 2, 1) := by decide +kernel
theorem dX5_refuse_18 : decode cX5_refuse 18 = .ok (.dup2, 1) := by decide +kernel
theorem dX5_refuse_19 : decode cX5_refuse 19 = .ok (.iaload, 1) := by decide +kernel
theorem dX5_refuse_20 : decode cX5_refuse 20 = .ok (.iconst 1, 1) := by decide +kernel
theorem dX5_refuse_21 : decode cX5_refuse 21 = .ok (.iadd, 1) := by decide +kernel
theorem dX5_refuse_22 : decode cX5_refuse 22 = .ok (.iastore, 1) := by decide +kernel
theorem dX5_refuse_23 : decode cX5_refuse 23 = .ok (.iload_n 1, 1) := by decide +kernel
theorem dX5_refuse_24 : decode cX5_refuse 24 = .ok (.ireturn, 1) := by decide +kernel
set_option maxRecDepth 100000 in
set_option maxHeartbeats 4000000 in
theorem c_X5_refuse (Z : ZZ) (l : Launch) (t : Nat) (a1 : Int32) (h : HP) {v : Int32} {h1 : HP} (ho : f_X5_refuse t a1 h = some (v, h1)) : MetP Z l yX5_refuse cX5_refuse 3 (some .int) 1 21 [.ref (zb Z + t), .int a1] h (some (.int v)) h1 := by
  refine MetP_of ho (by decide +kernel) (Nat.le_of_ble_eq_true rfl) [(0, .ref (zb Z + t)), (1, .int a1)] rfl (own := RX5) rfl (nm := "refuse") rfl ?_
  unfold f_X5_refuse
  refine S_bipush dX5_refuse_0 (v := (-2)) rfl (pc' := 2) rfl ?_
  refine S_iload_n dX5_refuse_2 rfl 1 rfl (pc' := 3) rfl ?_
  refine S_isub dX5_refuse_3 (pc' := 4) rfl ?_
  refine S_istore_n dX5_refuse_4 rfl (by decide) (lo' := [(2, .int ((-2) - a1)), (0, .ref (zb Z + t)), (1, .int a1)]) rfl (pc' := 5) rfl ?_
  refine S_iload_n dX5_refuse_5 rfl 0 rfl (pc' := 6) rfl ?_
  refine S_iconst dX5_refuse_6 (v := 5) rfl (pc' := 7) rfl ?_
  refine S_stai ml_X5_54 ms_X5_outside dX5_refuse_7 [.int ((-2) - a1), .int 5] rfl (fun v h2 q => c_X5_outside Z l _ _ _ q) ⟨Nat.le_of_ble_eq_true rfl, Nat.le_of_ble_eq_true rfl⟩ (rest := []) (Nat.le_of_ble_eq_true rfl) rfl (pc' := 10) rfl (fun x7 h7 => ?_)
  refine S_if_ne dX5_refuse_10 23 rfl (pc' := 13) rfl (fun g10 => ?_) (fun g10 => ?_)
  · refine S_iload_n dX5_refuse_23 rfl 2 rfl (pc' := 24) rfl ?_
    exact S_iret rfl dX5_refuse_24
  · refine S_aload_n dX5_refuse_13 rfl 1 rfl (pc' := 14) rfl ?_
    refine S_getR fl_X5_49 rfl dX5_refuse_14 (pc' := 17) rfl (fun x14 => ?_)
    refine S_iload_n dX5_refuse_17 rfl 0 rfl (pc' := 18) rfl ?_
    refine S_dup2 dX5_refuse_18 rfl rfl (pc' := 19) rfl ?_
    refine S_iaload dX5_refuse_19 (pc' := 20) rfl (fun x19 => ?_)
    refine S_iconst dX5_refuse_20 (v := 1) rfl (pc' := 21) rfl ?_
    refine S_iadd dX5_refuse_21 (pc' := 22) rfl ?_
    refine S_iastore dX5_refuse_22 (pc' := 23) rfl (fun h22 => ?_)
    refine S_iload_n dX5_refuse_23 rfl 2 rfl (pc' := 24) rfl ?_
    exact S_iret rfl dX5_refuse_24
theorem dX5_row_0 : decode cX5_row 0 = .ok (.iload_n 1, 1) := by decide +kernel
theorem dX5_row_1 : decode cX5_row 1 = .ok (.bipush 8, 2) := by decide +kernel
theorem dX5_row_3 : decode cX5_row 3 = .ok (.invokestatic 54, 3) := by decide +kernel
theorem dX5_row_6 : decode cX5_row 6 = .ok (.ifCond .ne 20, 3) := by decide +kernel
theorem dX5_row_9 : decode cX5_row 9 = .ok (.iload_n 2, 1) := by decide +kernel
theorem dX5_row_10 : decode cX5_row 10 = .ok (.iconst 5, 1) := by decide +kernel
theorem dX5_row_11 : decode cX5_row 11 = .ok (.invokestatic 54, 3) := by decide +kernel
theorem dX5_row_14 : decode cX5_row 14 = .ok (.ifCond .ne 12, 3) := by decide +kernel
theorem dX5_row_17 : decode cX5_row 17 = .ok (.iload_n 3, 1) := by decide +kernel
theorem dX5_row_18 : decode cX5_row 18 = .ok (.bipush 41, 2) := by decide +kernel
theorem dX5_row_20 : decode cX5_row 20 = .ok (.invokestatic 54, 3) := by decide +kernel
theorem dX5_row_23 : decode cX5_row 23 = .ok (.ifCond .eq 10, 3) := by decide +kernel
theorem dX5_row_26 : decode cX5_row 26 = .ok (.aload_n 0, 1) := by decide +kernel
theorem dX5_row_27 : decode cX5_row 27 = .ok (.bipush (-2), 2) := by decide +kernel
theorem dX5_row_29 : decode cX5_row 29 = .ok (.invokevirtual 58, 3) := by decide +kernel
theorem dX5_row_32 : decode cX5_row 32 = .ok (.ireturn, 1) := by decide +kernel
theorem dX5_row_33 : decode cX5_row 33 = .ok (.aload_n 0, 1) := by decide +kernel
theorem dX5_row_34 : decode cX5_row 34 = .ok (.getfield 45, 3) := by decide +kernel
theorem dX5_row_37 : decode cX5_row 37 = .ok (.iload_n 1, 1) := by decide +kernel
theorem dX5_row_38 : decode cX5_row 38 = .ok (.aaload, 1) := by decide +kernel
theorem dX5_row_39 : decode cX5_row 39 = .ok (.iload_n 2, 1) := by decide +kernel
theorem dX5_row_40 : decode cX5_row 40 = .ok (.iload_n 3, 1) := by decide +kernel
theorem dX5_row_41 : decode cX5_row 41 = .ok (.invokevirtual 62, 3) := by decide +kernel
theorem dX5_row_44 : decode cX5_row 44 = .ok (.iconst 1, 1) := by decide +kernel
theorem dX5_row_45 : decode cX5_row 45 = .ok (.ireturn, 1) := by decide +kernel
set_option maxRecDepth 100000 in
set_option maxHeartbeats 4000000 in
theorem c_X5_row (Z : ZZ) (l : Launch) (t : Nat) (a1 : Int32) (a2 : Int32) (a3 : Int32) (h : HP) {v : Int32} {h1 : HP} (ho : f_X5_row t a1 a2 a3 h = some (v, h1)) : MetP Z l yX5_row cX5_row 4 (some .int) 2 43 [.ref (zb Z + t), .int a1, .int a2, .int a3] h (some (.int v)) h1 := by
  refine MetP_of ho (by decide +kernel) (Nat.le_of_ble_eq_true rfl) [(0, .ref (zb Z + t)), (1, .int a1), (2, .int a2), (3, .int a3)] rfl (own := RX5) rfl (nm := "row") rfl ?_
  unfold f_X5_row
  refine S_iload_n dX5_row_0 rfl 1 rfl (pc' := 1) rfl ?_
  refine S_bipush dX5_row_1 (v := 8) rfl (pc' := 3) rfl ?_
  refine S_stai ml_X5_54 ms_X5_outside dX5_row_3 [.int a1, .int 8] rfl (fun v h2 q => c_X5_outside Z l _ _ _ q) ⟨Nat.le_of_ble_eq_true rfl, Nat.le_of_ble_eq_true rfl⟩ (rest := []) (Nat.le_of_ble_eq_true rfl) rfl (pc' := 6) rfl (fun x3 h3 => ?_)
  refine S_if_ne dX5_row_6 26 rfl (pc' := 9) rfl (fun g6 => ?_) (fun g6 => ?_)
  · refine S_aload_n dX5_row_26 rfl 0 rfl (pc' := 27) rfl ?_
    refine S_bipush dX5_row_27 (v := (-2)) rfl (pc' := 29) rfl ?_
    refine S_invi ml_X5_58 mi_X5_refuse (ci := 5) ⟨_, rfl, rfl⟩ (by decide) dX5_row_29 [.int (-2)] rfl (fun v h2 q => c_X5_refuse Z l _ _ _ q) ⟨Nat.le_of_ble_eq_true rfl, Nat.le_of_ble_eq_true rfl⟩ (rest := []) (Nat.le_of_ble_eq_true rfl) rfl (pc' := 32) rfl (fun x29 h29 => ?_)
    exact S_iret rfl dX5_row_32
  · refine S_iload_n dX5_row_9 rfl 2 rfl (pc' := 10) rfl ?_
    refine S_iconst dX5_row_10 (v := 5) rfl (pc' := 11) rfl ?_
    refine S_stai ml_X5_54 ms_X5_outside dX5_row_11 [.int a2, .int 5] rfl (fun v h2 q => c_X5_outside Z l _ _ _ q) ⟨Nat.le_of_ble_eq_true rfl, Nat.le_of_ble_eq_true rfl⟩ (rest := []) (Nat.le_of_ble_eq_true rfl) rfl (pc' := 14) rfl (fun x11 h11 => ?_)
    refine S_if_ne dX5_row_14 26 rfl (pc' := 17) rfl (fun g14 => ?_) (fun g14 => ?_)
    · refine S_aload_n dX5_row_26 rfl 0 rfl (pc' := 27) rfl ?_
      refine S_bipush dX5_row_27 (v := (-2)) rfl (pc' := 29) rfl ?_
      refine S_invi ml_X5_58 mi_X5_refuse (ci := 5) ⟨_, rfl, rfl⟩ (by decide) dX5_row_29 [.int (-2)] rfl (fun v h2 q => c_X5_refuse Z l _ _ _ q) ⟨Nat.le_of_ble_eq_true rfl, Nat.le_of_ble_eq_true rfl⟩ (rest := []) (Nat.le_of_ble_eq_true rfl) rfl (pc' := 32) rfl (fun x29 h29 => ?_)
      exact S_iret rfl dX5_row_32
    · refine S_iload_n dX5_row_17 rfl 3 rfl (pc' := 18) rfl ?_
      refine S_bipush dX5_row_18 (v := 41) rfl (pc' := 20) rfl ?_
      refine S_stai ml_X5_54 ms_X5_outside dX5_row_20 [.int a3, .int 41] rfl (fun v h2 q => c_X5_outside Z l _ _ _ q) ⟨Nat.le_of_ble_eq_true rfl, Nat.le_of_ble_eq_true rfl⟩ (rest := []) (Nat.le_of_ble_eq_true rfl) rfl (pc' := 23) rfl (fun x20 h20 => ?_)
      refine S_if_eq dX5_row_23 33 rfl (pc' := 26) rfl (fun g23 => ?_) (fun g23 => ?_)
      · refine S_aload_n dX5_row_33 rfl 0 rfl (pc' := 34) rfl ?_
        refine S_getR fl_X5_45 rfl dX5_row_34 (pc' := 37) rfl (fun x34 => ?_)
        refine S_iload_n dX5_row_37 rfl 1 rfl (pc' := 38) rfl ?_
        refine S_aaloadS dX5_row_38 (pc' := 39) rfl (fun x38 => ?_)
        refine S_iload_n dX5_row_39 rfl 2 rfl (pc' := 40) rfl ?_
        refine S_iload_n dX5_row_40 rfl 3 rfl (pc' := 41) rfl ?_
        refine S_invv ml_X5_62 mi_X3_becomeRow (ci := 3) ⟨_, rfl, rfl⟩ (by decide) dX5_row_41 [.int a2, .int a3] rfl (fun v h2 q => c_X3_becomeRow Z l _ _ _ _ q) ⟨Nat.le_of_ble_eq_true rfl, Nat.le_of_ble_eq_true rfl⟩ (rest := []) (Nat.le_of_ble_eq_true rfl) rfl (pc' := 44) rfl (fun _ h41 => ?_)
        refine S_iconst dX5_row_44 (v := 1) rfl (pc' := 45) rfl ?_
        exact S_iret rfl dX5_row_45
      · refine S_aload_n dX5_row_26 rfl 0 rfl (pc' := 27) rfl ?_
        refine S_bipush dX5_row_27 (v := (-2)) rfl (pc' := 29) rfl ?_
        refine S_invi ml_X5_58 mi_X5_refuse (ci := 5) ⟨_, rfl, rfl⟩ (by decide) dX5_row_29 [.int (-2)] rfl (fun v h2 q => c_X5_refuse Z l _ _ _ q) ⟨Nat.le_of_ble_eq_true rfl, Nat.le_of_ble_eq_true rfl⟩ (rest := []) (Nat.le_of_ble_eq_true rfl) rfl (pc' := 32) rfl (fun x29 h29 => ?_)
        exact S_iret rfl dX5_row_32
theorem dX5_set_0 : decode cX5_set 0 = .ok (.iload_n 1, 1) := by decide +kernel
theorem dX5_set_1 : decode cX5_set 1 = .ok (.bipush 8, 2) := by decide +kernel
theorem dX5_set_3 : decode cX5_set 3 = .ok (.invokestatic 54, 3) := by decide +kernel
theorem dX5_set_6 : decode cX5_set 6 = .ok (.ifCond .eq 10, 3) := by decide +kernel
theorem dX5_set_9 : decode cX5_set 9 = .ok (.aload_n 0, 1) := by decide +kernel
theorem dX5_set_10 : decode cX5_set 10 = .ok (.bipush (-2), 2) := by decide +kernel
theorem dX5_set_12 : decode cX5_set 12 = .ok (.invokevirtual 58, 3) := by decide +kernel
theorem dX5_set_15 : decode cX5_set 15 = .ok (.ireturn, 1) := by decide +kernel
theorem dX5_set_16 : decode cX5_set 16 = .ok (.aload_n 0, 1) := by decide +kernel
theorem dX5_set_17 : decode cX5_set 17 = .ok (.getfield 45, 3) := by decide +kernel
theorem dX5_set_20 : decode cX5_set 20 = .ok (.iload_n 1, 1) := by decide +kernel
theorem dX5_set_21 : decode cX5_set 21 = .ok (.aaload, 1) := by decide +kernel
theorem dX5_set_22 : decode cX5_set 22 = .ok (.astore 5, 2) := by decide +kernel
theorem dX5_set_24 : decode cX5_set 24 = .ok (.aload 5, 2) := by decide +kernel
theorem dX5_set_26 : decode cX5_set 26 = .ok (.invokevirtual 66, 3) := by decide +kernel
theorem dX5_set_29 : decode cX5_set 29 = .ok (.istore 6, 2) := by decide +kernel
theorem dX5_set_31 : decode cX5_set 31 = .ok (.iload 6, 2) := by decide +kernel
theorem dX5_set_33 : decode cX5_set 33 = .ok (.ifCond .eq 10, 3) := by decide +kernel
theorem dX5_set_36 : decode cX5_set 36 = .ok (.aload_n 0, 1) := by decide +kernel
theorem dX5_set_37 : decode cX5_set 37 = .ok (.iload 6, 2) := by decide +kernel
theorem dX5_set_39 : decode cX5_set 39 = .ok (.invokevirtual 58, 3) := by decide +kernel
theorem dX5_set_42 : decode cX5_set 42 = .ok (.ireturn, 1) := by decide +kernel
theorem dX5_set_43 : decode cX5_set 43 = .ok (.iload_n 2, 1) := by decide +kernel
theorem dX5_set_44 : decode cX5_set 44 = .ok (.aload 5, 2) := by decide +kernel
theorem dX5_set_46 : decode cX5_set 46 = .ok (.getfield 70, 3) := by decide +kernel
theorem dX5_set_49 : decode cX5_set 49 = .ok (.invokestatic 54, 3) := by decide +kernel
theorem dX5_set_52 : decode cX5_set 52 = .ok (.ifCond .eq 10, 3) := by decide +kernel
theorem dX5_set_55 : decode cX5_set 55 = .ok (.aload_n 0, 1) := by decide +kernel
theorem dX5_set_56 : decode cX5_set 56 = .ok (.bipush (-2), 2) := by decide +kernel
theorem dX5_set_58 : decode cX5_set 58 = .ok (.invokevirtual 58, 3) := by decide +kernel
theorem dX5_set_61 : decode cX5_set 61 = .ok (.ireturn, 1) := by decide +kernel
theorem dX5_set_62 : decode cX5_set 62 = .ok (.aload 5, 2) := by decide +kernel
theorem dX5_set_64 : decode cX5_set 64 = .ok (.iload_n 2, 1) := by decide +kernel
theorem dX5_set_65 : decode cX5_set 65 = .ok (.lload_n 3, 1) := by decide +kernel
theorem dX5_set_66 : decode cX5_set 66 = .ok (.invokevirtual 74, 3) := by decide +kernel
theorem dX5_set_69 : decode cX5_set 69 = .ok (.iconst 1, 1) := by decide +kernel
theorem dX5_set_70 : decode cX5_set 70 = .ok (.ireturn, 1) := by decide +kernel
set_option maxRecDepth 100000 in
set_option maxHeartbeats 4000000 in
theorem c_X5_set (Z : ZZ) (l : Launch) (t : Nat) (a1 : Int32) (a2 : Int32) (a3 : Int64) (h : HP) {v : Int32} {h1 : HP} (ho : f_X5_set t a1 a2 a3 h = some (v, h1)) : MetP Z l yX5_set cX5_set 7 (some .int) 2 43 [.ref (zb Z + t), .int a1, .int a2, .long a3] h (some (.int v)) h1 := by
  refine MetP_of ho (by decide +kernel) (Nat.le_of_ble_eq_true rfl) [(0, .ref (zb Z + t)), (1, .int a1), (2, .int a2), (3, .long a3)] rfl (own := RX5) rfl (nm := "set") rfl ?_
  unfold f_X5_set
  refine S_iload_n dX5_set_0 rfl 1 rfl (pc' := 1) rfl ?_
  refine S_bipush dX5_set_1 (v := 8) rfl (pc' := 3) rfl ?_
  refine S_stai ml_X5_54 ms_X5_outside dX5_set_3 [.int a1, .int 8] rfl (fun v h2 q => c_X5_outside Z l _ _ _ q) ⟨Nat.le_of_ble_eq_true rfl, Nat.le_of_ble_eq_true rfl⟩ (rest := []) (Nat.le_of_ble_eq_true rfl) rfl (pc' := 6) rfl (fun x3 h3 => ?_)
  refine S_if_eq dX5_set_6 16 rfl (pc' := 9) rfl (fun g6 => ?_) (fun g6 => ?_)
  · refine S_aload_n dX5_set_16 rfl 0 rfl (pc' := 17) rfl ?_
    refine S_getR fl_X5_45 rfl dX5_set_17 (pc' := 20) rfl (fun x17 => ?_)
    refine S_iload_n dX5_set_20 rfl 1 rfl (pc' := 21) rfl ?_
    refine S_aaloadS dX5_set_21 (pc' := 22) rfl (fun x21 => ?_)
    refine S_astore dX5_set_22 (by decide) (lo' := [(5, .ref (zb Z + x21)), (0, .ref (zb Z + t)), (1, .int a1), (2, .int a2), (3, .long a3)]) rfl (pc' := 24) rfl ?_
    refine S_aload dX5_set_24 0 rfl (pc' := 26) rfl ?_
    refine S_invi ml_X5_66 mi_X3_refusalAsRow (ci := 3) ⟨_, rfl, rfl⟩ (by decide) dX5_set_26 [] rfl (fun v h2 q => c_X3_refusalAsRow Z l _ _ q) ⟨Nat.le_of_ble_eq_true rfl, Nat.le_of_ble_eq_true rfl⟩ (rest := []) (Nat.le_of_ble_eq_true rfl) rfl (pc' := 29) rfl (fun x26 h26 => ?_)
    refine S_istore dX5_set_29 (by decide) (lo' := [(6, .int x26), (5, .ref (zb Z + x21)), (0, .ref (zb Z + t)), (1, .int a1), (2, .int a2), (3, .long a3)]) rfl (pc' := 31) rfl ?_
    refine S_iload dX5_set_31 0 rfl (pc' := 33) rfl ?_
    refine S_if_eq dX5_set_33 43 rfl (pc' := 36) rfl (fun g33 => ?_) (fun g33 => ?_)
    · refine S_iload_n dX5_set_43 rfl 4 rfl (pc' := 44) rfl ?_
      refine S_aload dX5_set_44 1 rfl (pc' := 46) rfl ?_
      refine S_getI fl_X5_70 rfl dX5_set_46 (pc' := 49) rfl (fun x46 => ?_)
      refine S_stai ml_X5_54 ms_X5_outside dX5_set_49 [.int a2, .int x46] rfl (fun v h2 q => c_X5_outside Z l _ _ _ q) ⟨Nat.le_of_ble_eq_true rfl, Nat.le_of_ble_eq_true rfl⟩ (rest := []) (Nat.le_of_ble_eq_true rfl) rfl (pc' := 52) rfl (fun x49 h49 => ?_)
      refine S_if_eq dX5_set_52 62 rfl (pc' := 55) rfl (fun g52 => ?_) (fun g52 => ?_)
      · refine S_aload dX5_set_62 1 rfl (pc' := 64) rfl ?_
        refine S_iload_n dX5_set_64 rfl 4 rfl (pc' := 65) rfl ?_
        refine S_lload_n dX5_set_65 rfl 5 rfl (pc' := 66) rfl ?_
        refine S_invv ml_X5_74 mi_X3_put (ci := 3) ⟨_, rfl, rfl⟩ (by decide) dX5_set_66 [.int a2, .long a3] rfl (fun v h2 q => c_X3_put Z l _ _ _ _ q) ⟨Nat.le_of_ble_eq_true rfl, Nat.le_of_ble_eq_true rfl⟩ (rest := []) (Nat.le_of_ble_eq_true rfl) rfl (pc' := 69) rfl (fun _ h66 => ?_)
        refine S_iconst dX5_set_69 (v := 1) rfl (pc' := 70) rfl ?_
        exact S_iret rfl dX5_set_70
      · refine S_aload_n dX5_set_55 rfl 2 rfl (pc' := 56) rfl ?_
        refine S_bipush dX5_set_56 (v := (-2)) rfl (pc' := 58) rfl ?_
        refine S_invi ml_X5_58 mi_X5_refuse (ci := 5) ⟨_, rfl, rfl⟩ (by decide) dX5_set_58 [.int (-2)] rfl (fun v h2 q => c_X5_refuse Z l _ _ _ q) ⟨Nat.le_of_ble_eq_true rfl, Nat.le_of_ble_eq_true rfl⟩ (rest := []) (Nat.le_of_ble_eq_true rfl) rfl (pc' := 61) rfl (fun x58 h58 => ?_)
        exact S_iret rfl dX5_set_61
    · refine S_aload_n dX5_set_36 rfl 2 rfl (pc' := 37) rfl ?_
      refine S_iload dX5_set_37 0 rfl (pc' := 39) rfl ?_
      refine S_invi ml_X5_58 mi_X5_refuse (ci := 5) ⟨_, rfl, rfl⟩ (by decide) dX5_set_39 [.int x26] rfl (fun v h2 q => c_X5_refuse Z l _ _ _ q) ⟨Nat.le_of_ble_eq_true rfl, Nat.le_of_ble_eq_true rfl⟩ (rest := []) (Nat.le_of_ble_eq_true rfl) rfl (pc' := 42) rfl (fun x39 h39 => ?_)
      exact S_iret rfl dX5_set_42
  · refine S_aload_n dX5_set_9 rfl 0 rfl (pc' := 10) rfl ?_
    refine S_bipush dX5_set_10 (v := (-2)) rfl (pc' := 12) rfl ?_
    refine S_invi ml_X5_58 mi_X5_refuse (ci := 5) ⟨_, rfl, rfl⟩ (by decide) dX5_set_12 [.int (-2)] rfl (fun v h2 q => c_X5_refuse Z l _ _ _ q) ⟨Nat.le_of_ble_eq_true rfl, Nat.le_of_ble_eq_true rfl⟩ (rest := []) (Nat.le_of_ble_eq_true rfl) rfl (pc' := 15) rfl (fun x12 h12 => ?_)
    exact S_iret rfl dX5_set_15
theorem dX5_copy_0 : decode cX5_copy 0 = .ok (.iload_n 1, 1) := by decide +kernel
theorem dX5_copy_1 : decode cX5_copy 1 = .ok (.bipush 8, 2) := by decide +kernel
theorem dX5_copy_3 : decode cX5_copy 3 = .ok (.invokestatic 54, 3) := by decide +kernel
theorem dX5_copy_6 : decode cX5_copy 6 = .ok (.ifCond .ne 12, 3) := by decide +kernel
theorem dX5_copy_9 : decode cX5_copy 9 = .ok (.iload_n 2, 1) := by decide +kernel
theorem dX5_copy_10 : decode cX5_copy 10 = .ok (.bipush 8, 2) := by decide +kernel
theorem dX5_copy_12 : decode cX5_copy 12 = .ok (.invokestatic 54, 3) := by decide +kernel
theorem dX5_copy_15 : decode cX5_copy 15 = .ok (.ifCond .eq 10, 3) := by decide +kernel
theorem dX5_copy_18 : decode cX5_copy 18 = .ok (.aload_n 0, 1) := by decide +kernel
theorem dX5_copy_19 : decode cX5_copy 19 = .ok (.bipush (-2), 2) := by decide +kernel
theorem dX5_copy_21 : decode cX5_copy 21 = .ok (.invokevirtual 58, 3) := by decide +kernel
theorem dX5_copy_24 : decode cX5_copy 24 = .ok (.ireturn, 1) := by decide +kernel
theorem dX5_copy_25 : decode cX5_copy 25 = .ok (.aload_n 0, 1) := by decide +kernel
theorem dX5_copy_26 : decode cX5_copy 26 = .ok (.getfield 45, 3) := by decide +kernel
theorem dX5_copy_29 : decode cX5_copy 29 = .ok (.iload_n 1, 1) := by decide +kernel
theorem dX5_copy_30 : decode cX5_copy 30 = .ok (.aaload, 1) := by decide +kernel
theorem dX5_copy_31 : decode cX5_copy 31 = .ok (.astore 6, 2) := by decide +kernel
theorem dX5_copy_33 : decode cX5_copy 33 = .ok (.aload_n 0, 1) := by decide +kernel
theorem dX5_copy_34 : decode cX5_copy 34 = .ok (.getfield 45, 3) := by decide +kernel
theorem dX5_copy_37 : decode cX5_copy 37 = .ok (.iload_n 2, 1) := by decide +kernel
theorem dX5_copy_38 : decode cX5_copy 38 = .ok (.aaload, 1) := by decide +kernel
theorem dX5_copy_39 : decode cX5_copy 39 = .ok (.astore 7, 2) := by decide +kernel
theorem dX5_copy_41 : decode cX5_copy 41 = .ok (.aload 6, 2) := by decide +kernel
theorem dX5_copy_43 : decode cX5_copy 43 = .ok (.invokevirtual 78, 3) := by decide +kernel
theorem dX5_copy_46 : decode cX5_copy 46 = .ok (.ifCond .ne 11, 3) := by decide +kernel
theorem dX5_copy_49 : decode cX5_copy 49 = .ok (.aload 7, 2) := by decide +kernel
theorem dX5_copy_51 : decode cX5_copy 51 = .ok (.invokevirtual 78, 3) := by decide +kernel
theorem dX5_copy_54 : decode cX5_copy 54 = .ok (.ifCond .eq 10, 3) := by decide +kernel
theorem dX5_copy_57 : decode cX5_copy 57 = .ok (.aload_n 0, 1) := by decide +kernel
theorem dX5_copy_58 : decode cX5_copy 58 = .ok (.bipush (-3), 2) := by decide +kernel
theorem dX5_copy_60 : decode cX5_copy 60 = .ok (.invokevirtual 58, 3) := by decide +kernel
theorem dX5_copy_63 : decode cX5_copy 63 = .ok (.ireturn, 1) := by decide +kernel
theorem dX5_copy_64 : decode cX5_copy 64 = .ok (.aload 6, 2) := by decide +kernel
theorem dX5_copy_66 : decode cX5_copy 66 = .ok (.getfield 82, 3) := by decide +kernel
theorem dX5_copy_69 : decode cX5_copy 69 = .ok (.iconst (-1), 1) := by decide +kernel
theorem dX5_copy_70 : decode cX5_copy 70 = .ok (.if_icmp .eq 12, 3) := by decide +kernel
theorem dX5_copy_73 : decode cX5_copy 73 = .ok (.aload 7, 2) := by decide +kernel
theorem dX5_copy_75 : decode cX5_copy 75 = .ok (.getfield 82, 3) := by decide +kernel
theorem dX5_copy_78 : decode cX5_copy 78 = .ok (.iconst (-1), 1) := by decide +kernel
theorem dX5_copy_79 : decode cX5_copy 79 = .ok (.if_icmp .ne 7, 3) := by decide +kernel
theorem dX5_copy_82 : decode cX5_copy 82 = .ok (.iconst 1, 1) := by decide +kernel
theorem dX5_copy_83 : decode cX5_copy 83 = .ok (.goto 4, 3) := by decide +kernel
theorem dX5_copy_86 : decode cX5_copy 86 = .ok (.iconst 0, 1) := by decide +kernel
theorem dX5_copy_87 : decode cX5_copy 87 = .ok (.istore 8, 2) := by decide +kernel
theorem dX5_copy_89 : decode cX5_copy 89 = .ok (.iload 8, 2) := by decide +kernel
theorem dX5_copy_91 : decode cX5_copy 91 = .ok (.ifCond .ne 23, 3) := by decide +kernel
theorem dX5_copy_94 : decode cX5_copy 94 = .ok (.aload 6, 2) := by decide +kernel
theorem dX5_copy_96 : decode cX5_copy 96 = .ok (.getfield 82, 3) := by decide +kernel
theorem dX5_copy_99 : decode cX5_copy 99 = .ok (.aload 7, 2) := by decide +kernel
theorem dX5_copy_101 : decode cX5_copy 101 = .ok (.getfield 82, 3) := by decide +kernel
theorem dX5_copy_104 : decode cX5_copy 104 = .ok (.if_icmp .eq 10, 3) := by decide +kernel
theorem dX5_copy_107 : decode cX5_copy 107 = .ok (.aload_n 0, 1) := by decide +kernel
theorem dX5_copy_108 : decode cX5_copy 108 = .ok (.bipush (-3), 2) := by decide +kernel
theorem dX5_copy_110 : decode cX5_copy 110 = .ok (.invokevirtual 58, 3) := by decide +kernel
theorem dX5_copy_113 : decode cX5_copy 113 = .ok (.ireturn, 1) := by decide +kernel
theorem dX5_copy_114 : decode cX5_copy 114 = .ok (.iload 8, 2) := by decide +kernel
theorem dX5_copy_116 : decode cX5_copy 116 = .ok (.ifCond .eq 10, 3) := by decide +kernel
theorem dX5_copy_119 : decode cX5_copy 119 = .ok (.aload_n 0, 1) := by decide +kernel
theorem dX5_copy_120 : decode cX5_copy 120 = .ok (.bipush (-4), 2) := by decide +kernel
theorem dX5_copy_122 : decode cX5_copy 122 = .ok (.invokevirtual 58, 3) := by decide +kernel
theorem dX5_copy_125 : decode cX5_copy 125 = .ok (.ireturn, 1) := by decide +kernel
theorem dX5_copy_126 : decode cX5_copy 126 = .ok (.aload 6, 2) := by decide +kernel
theorem dX5_copy_128 : decode cX5_copy 128 = .ok (.iload_n 3, 1) := by decide +kernel
theorem dX5_copy_129 : decode cX5_copy 129 = .ok (.iload 5, 2) := by decide +kernel
theorem dX5_copy_131 : decode cX5_copy 131 = .ok (.invokevirtual 85, 3) := by decide +kernel
theorem dX5_copy_134 : decode cX5_copy 134 = .ok (.ifCond .ne 15, 3) := by decide +kernel
theorem dX5_copy_137 : decode cX5_copy 137 = .ok (.aload 7, 2) := by decide +kernel
theorem dX5_copy_139 : decode cX5_copy 139 = .ok (.iload 4, 2) := by decide +kernel
theorem dX5_copy_141 : decode cX5_copy 141 = .ok (.iload 5, 2) := by decide +kernel
theorem dX5_copy_143 : decode cX5_copy 143 = .ok (.invokevirtual 85, 3) := by decide +kernel
theorem dX5_copy_146 : decode cX5_copy 146 = .ok (.ifCond .eq 10, 3) := by decide +kernel
theorem dX5_copy_149 : decode cX5_copy 149 = .ok (.aload_n 0, 1) := by decide +kernel
theorem dX5_copy_150 : decode cX5_copy 150 = .ok (.bipush (-2), 2) := by decide +kernel
theorem dX5_copy_152 : decode cX5_copy 152 = .ok (.invokevirtual 58, 3) := by decide +kernel
theorem dX5_copy_155 : decode cX5_copy 155 = .ok (.ireturn, 1) := by decide +kernel
theorem dX5_copy_156 : decode cX5_copy 156 = .ok (.aload 6, 2) := by decide +kernel
theorem dX5_copy_158 : decode cX5_copy 158 = .ok (.getfield 88, 3) := by decide +kernel
theorem dX5_copy_161 : decode cX5_copy 161 = .ok (.iload_n 3, 1) := by decide +kernel
theorem dX5_copy_162 : decode cX5_copy 162 = .ok (.aload 7, 2) := by decide +kernel
theorem dX5_copy_164 : decode cX5_copy 164 = .ok (.getfield 88, 3) := by decide +kernel
theorem dX5_copy_167 : decode cX5_copy 167 = .ok (.iload 4, 2) := by decide +kernel
theorem dX5_copy_169 : decode cX5_copy 169 = .ok (.iload 5, 2) := by decide +kernel
theorem dX5_copy_171 : decode cX5_copy 171 = .ok (.invokestatic 92, 3) := by decide +kernel
theorem dX5_copy_174 : decode cX5_copy 174 = .ok (.iload 5, 2) := by decide +kernel
theorem dX5_copy_176 : decode cX5_copy 176 = .ok (.ireturn, 1) := by decide +kernel
set_option maxRecDepth 100000 in
set_option maxHeartbeats 4000000 in
theorem c_X5_copy (Z : ZZ) (l : Launch) (t : Nat) (a1 : Int32) (a2 : Int32) (a3 : Int32) (a4 : Int32) (a5 : Int32) (h : HP) {v : Int32} {h1 : HP} (ho : f_X5_copy t a1 a2 a3 a4 a5 h = some (v, h1)) : MetP Z l yX5_copy cX5_copy 9 (some .int) 2 43 [.ref (zb Z + t), .int a1, .int a2, .int a3, .int a4, .int a5] h (some (.int v)) h1 := by
  refine MetP_of ho (by decide +kernel) (Nat.le_of_ble_eq_true rfl) [(0, .ref (zb Z + t)), (1, .int a1), (2, .int a2), (3, .int a3), (4, .int a4), (5, .int a5)] rfl (own := RX5) rfl (nm := "copy") rfl ?_
  unfold f_X5_copy
  refine S_iload_n dX5_copy_0 rfl 1 rfl (pc' := 1) rfl ?_
  refine S_bipush dX5_copy_1 (v := 8) rfl (pc' := 3) rfl ?_
  refine S_stai ml_X5_54 ms_X5_outside dX5_copy_3 [.int a1, .int 8] rfl (fun v h2 q => c_X5_outside Z l _ _ _ q) ⟨Nat.le_of_ble_eq_true rfl, Nat.le_of_ble_eq_true rfl⟩ (rest := []) (Nat.le_of_ble_eq_true rfl) rfl (pc' := 6) rfl (fun x3 h3 => ?_)
  refine S_if_ne dX5_copy_6 18 rfl (pc' := 9) rfl (fun g6 => ?_) (fun g6 => ?_)
  · refine S_aload_n dX5_copy_18 rfl 0 rfl (pc' := 19) rfl ?_
    refine S_bipush dX5_copy_19 (v := (-2)) rfl (pc' := 21) rfl ?_
    refine S_invi ml_X5_58 mi_X5_refuse (ci := 5) ⟨_, rfl, rfl⟩ (by decide) dX5_copy_21 [.int (-2)] rfl (fun v h2 q => c_X5_refuse Z l _ _ _ q) ⟨Nat.le_of_ble_eq_true rfl, Nat.le_of_ble_eq_true rfl⟩ (rest := []) (Nat.le_of_ble_eq_true rfl) rfl (pc' := 24) rfl (fun x21 h21 => ?_)
    exact S_iret rfl dX5_copy_24
  · refine S_iload_n dX5_copy_9 rfl 2 rfl (pc' := 10) rfl ?_
    refine S_bipush dX5_copy_10 (v := 8) rfl (pc' := 12) rfl ?_
    refine S_stai ml_X5_54 ms_X5_outside dX5_copy_12 [.int a2, .int 8] rfl (fun v h2 q => c_X5_outside Z l _ _ _ q) ⟨Nat.le_of_ble_eq_true rfl, Nat.le_of_ble_eq_true rfl⟩ (rest := []) (Nat.le_of_ble_eq_true rfl) rfl (pc' := 15) rfl (fun x12 h12 => ?_)
    refine S_if_eq dX5_copy_15 25 rfl (pc' := 18) rfl (fun g15 => ?_) (fun g15 => ?_)
    · refine S_aload_n dX5_copy_25 rfl 0 rfl (pc' := 26) rfl ?_
      refine S_getR fl_X5_45 rfl dX5_copy_26 (pc' := 29) rfl (fun x26 => ?_)
      refine S_iload_n dX5_copy_29 rfl 1 rfl (pc' := 30) rfl ?_
      refine S_aaloadS dX5_copy_30 (pc' := 31) rfl (fun x30 => ?_)
      refine S_astore dX5_copy_31 (by decide) (lo' := [(6, .ref (zb Z + x30)), (0, .ref (zb Z + t)), (1, .int a1), (2, .int a2), (3, .int a3), (4, .int a4), (5, .int a5)]) rfl (pc' := 33) rfl ?_
      refine S_aload_n dX5_copy_33 rfl 1 rfl (pc' := 34) rfl ?_
      refine S_getR fl_X5_45 rfl dX5_copy_34 (pc' := 37) rfl (fun x34 => ?_)
      refine S_iload_n dX5_copy_37 rfl 3 rfl (pc' := 38) rfl ?_
      refine S_aaloadS dX5_copy_38 (pc' := 39) rfl (fun x38 => ?_)
      refine S_astore dX5_copy_39 (by decide) (lo' := [(7, .ref (zb Z + x38)), (6, .ref (zb Z + x30)), (0, .ref (zb Z + t)), (1, .int a1), (2, .int a2), (3, .int a3), (4, .int a4), (5, .int a5)]) rfl (pc' := 41) rfl ?_
      refine S_aload dX5_copy_41 1 rfl (pc' := 43) rfl ?_
      refine S_invi ml_X5_78 mi_X3_hasPerson (ci := 3) ⟨_, rfl, rfl⟩ (by decide) dX5_copy_43 [] rfl (fun v h2 q => c_X3_hasPerson Z l _ _ q) ⟨Nat.le_of_ble_eq_true rfl, Nat.le_of_ble_eq_true rfl⟩ (rest := []) (Nat.le_of_ble_eq_true rfl) rfl (pc' := 46) rfl (fun x43 h43 => ?_)
      refine S_if_ne dX5_copy_46 57 rfl (pc' := 49) rfl (fun g46 => ?_) (fun g46 => ?_)
      · refine S_aload_n dX5_copy_57 rfl 2 rfl (pc' := 58) rfl ?_
        refine S_bipush dX5_copy_58 (v := (-3)) rfl (pc' := 60) rfl ?_
        refine S_invi ml_X5_58 mi_X5_refuse (ci := 5) ⟨_, rfl, rfl⟩ (by decide) dX5_copy_60 [.int (-3)] rfl (fun v h2 q => c_X5_refuse Z l _ _ _ q) ⟨Nat.le_of_ble_eq_true rfl, Nat.le_of_ble_eq_true rfl⟩ (rest := []) (Nat.le_of_ble_eq_true rfl) rfl (pc' := 63) rfl (fun x60 h60 => ?_)
        exact S_iret rfl dX5_copy_63
      · refine S_aload dX5_copy_49 0 rfl (pc' := 51) rfl ?_
        refine S_invi ml_X5_78 mi_X3_hasPerson (ci := 3) ⟨_, rfl, rfl⟩ (by decide) dX5_copy_51 [] rfl (fun v h2 q => c_X3_hasPerson Z l _ _ q) ⟨Nat.le_of_ble_eq_true rfl, Nat.le_of_ble_eq_true rfl⟩ (rest := []) (Nat.le_of_ble_eq_true rfl) rfl (pc' := 54) rfl (fun x51 h51 => ?_)
        refine S_if_eq dX5_copy_54 64 rfl (pc' := 57) rfl (fun g54 => ?_) (fun g54 => ?_)
        · refine S_aload dX5_copy_64 1 rfl (pc' := 66) rfl ?_
          refine S_getI fl_X5_82 rfl dX5_copy_66 (pc' := 69) rfl (fun x66 => ?_)
          refine S_iconst dX5_copy_69 (v := (-1)) rfl (pc' := 70) rfl ?_
          refine S_icmp_eq dX5_copy_70 82 rfl (pc' := 73) rfl (fun g70 => ?_) (fun g70 => ?_)
          · refine S_iconst dX5_copy_82 (v := 1) rfl (pc' := 83) rfl ?_
            refine S_goto dX5_copy_83 87 rfl ?_
            refine S_istore dX5_copy_87 (by decide) (lo' := [(8, .int 1), (7, .ref (zb Z + x38)), (6, .ref (zb Z + x30)), (0, .ref (zb Z + t)), (1, .int a1), (2, .int a2), (3, .int a3), (4, .int a4), (5, .int a5)]) rfl (pc' := 89) rfl ?_
            refine S_iload dX5_copy_89 0 rfl (pc' := 91) rfl ?_
            refine S_if_ne_J dX5_copy_91 114 rfl (pc' := 94) rfl (by decide) ?_
            refine S_iload dX5_copy_114 0 rfl (pc' := 116) rfl ?_
            refine S_if_eq_N dX5_copy_116 126 rfl (pc' := 119) rfl (by decide) ?_
            refine S_aload_n dX5_copy_119 rfl 3 rfl (pc' := 120) rfl ?_
            refine S_bipush dX5_copy_120 (v := (-4)) rfl (pc' := 122) rfl ?_
            refine S_invi ml_X5_58 mi_X5_refuse (ci := 5) ⟨_, rfl, rfl⟩ (by decide) dX5_copy_122 [.int (-4)] rfl (fun v h2 q => c_X5_refuse Z l _ _ _ q) ⟨Nat.le_of_ble_eq_true rfl, Nat.le_of_ble_eq_true rfl⟩ (rest := []) (Nat.le_of_ble_eq_true rfl) rfl (pc' := 125) rfl (fun x122 h122 => ?_)
            exact S_iret rfl dX5_copy_125
          · refine S_aload dX5_copy_73 0 rfl (pc' := 75) rfl ?_
            refine S_getI fl_X5_82 rfl dX5_copy_75 (pc' := 78) rfl (fun x75 => ?_)
            refine S_iconst dX5_copy_78 (v := (-1)) rfl (pc' := 79) rfl ?_
            refine S_icmp_ne dX5_copy_79 86 rfl (pc' := 82) rfl (fun g79 => ?_) (fun g79 => ?_)
            · refine S_iconst dX5_copy_86 (v := 0) rfl (pc' := 87) rfl ?_
              refine S_istore dX5_copy_87 (by decide) (lo' := [(8, .int 0), (7, .ref (zb Z + x38)), (6, .ref (zb Z + x30)), (0, .ref (zb Z + t)), (1, .int a1), (2, .int a2), (3, .int a3), (4, .int a4), (5, .int a5)]) rfl (pc' := 89) rfl ?_
              refine S_iload dX5_copy_89 0 rfl (pc' := 91) rfl ?_
              refine S_if_ne_N dX5_copy_91 114 rfl (pc' := 94) rfl (by decide) ?_
              refine S_aload dX5_copy_94 2 rfl (pc' := 96) rfl ?_
              refine S_getI fl_X5_82 rfl dX5_copy_96 (pc' := 99) rfl (fun x96 => ?_)
              refine S_aload dX5_copy_99 1 rfl (pc' := 101) rfl ?_
              refine S_getI fl_X5_82 rfl dX5_copy_101 (pc' := 104) rfl (fun x101 => ?_)
              refine S_icmp_eq dX5_copy_104 114 rfl (pc' := 107) rfl (fun g104 => ?_) (fun g104 => ?_)
              · refine S_iload dX5_copy_114 0 rfl (pc' := 116) rfl ?_
                refine S_if_eq_J dX5_copy_116 126 rfl (pc' := 119) rfl (by decide) ?_
                refine S_aload dX5_copy_126 2 rfl (pc' := 128) rfl ?_
                refine S_iload_n dX5_copy_128 rfl 6 rfl (pc' := 129) rfl ?_
                refine S_iload dX5_copy_129 8 rfl (pc' := 131) rfl ?_
                refine S_invi ml_X5_85 mi_X3_lacks (ci := 3) ⟨_, rfl, rfl⟩ (by decide) dX5_copy_131 [.int a3, .int a5] rfl (fun v h2 q => c_X3_lacks Z l _ _ _ _ q) ⟨Nat.le_of_ble_eq_true rfl, Nat.le_of_ble_eq_true rfl⟩ (rest := []) (Nat.le_of_ble_eq_true rfl) rfl (pc' := 134) rfl (fun x131 h131 => ?_)
                refine S_if_ne dX5_copy_134 149 rfl (pc' := 137) rfl (fun g134 => ?_) (fun g134 => ?_)
                · refine S_aload_n dX5_copy_149 rfl 3 rfl (pc' := 150) rfl ?_
                  refine S_bipush dX5_copy_150 (v := (-2)) rfl (pc' := 152) rfl ?_
                  refine S_invi ml_X5_58 mi_X5_refuse (ci := 5) ⟨_, rfl, rfl⟩ (by decide) dX5_copy_152 [.int (-2)] rfl (fun v h2 q => c_X5_refuse Z l _ _ _ q) ⟨Nat.le_of_ble_eq_true rfl, Nat.le_of_ble_eq_true rfl⟩ (rest := []) (Nat.le_of_ble_eq_true rfl) rfl (pc' := 155) rfl (fun x152 h152 => ?_)
                  exact S_iret rfl dX5_copy_155
                · refine S_aload dX5_copy_137 1 rfl (pc' := 139) rfl ?_
                  refine S_iload dX5_copy_139 7 rfl (pc' := 141) rfl ?_
                  refine S_iload dX5_copy_141 8 rfl (pc' := 143) rfl ?_
                  refine S_invi ml_X5_85 mi_X3_lacks (ci := 3) ⟨_, rfl, rfl⟩ (by decide) dX5_copy_143 [.int a4, .int a5] rfl (fun v h2 q => c_X3_lacks Z l _ _ _ _ q) ⟨Nat.le_of_ble_eq_true rfl, Nat.le_of_ble_eq_true rfl⟩ (rest := []) (Nat.le_of_ble_eq_true rfl) rfl (pc' := 146) rfl (fun x143 h143 => ?_)
                  refine S_if_eq dX5_copy_146 156 rfl (pc' := 149) rfl (fun g146 => ?_) (fun g146 => ?_)
                  · refine S_aload dX5_copy_156 2 rfl (pc' := 158) rfl ?_
                    refine S_getR fl_X5_88 rfl dX5_copy_158 (pc' := 161) rfl (fun x158 => ?_)
                    refine S_iload_n dX5_copy_161 rfl 6 rfl (pc' := 162) rfl ?_
                    refine S_aload dX5_copy_162 1 rfl (pc' := 164) rfl ?_
                    refine S_getR fl_X5_88 rfl dX5_copy_164 (pc' := 167) rfl (fun x164 => ?_)
                    refine S_iload dX5_copy_167 7 rfl (pc' := 169) rfl ?_
                    refine S_iload dX5_copy_169 8 rfl (pc' := 171) rfl ?_
                    refine S_copyJ cp_X5_92 dX5_copy_171 ⟨Nat.le_of_ble_eq_true rfl, Nat.le_of_ble_eq_true rfl⟩ (pc' := 174) rfl (fun h171 => ?_)
                    refine S_iload dX5_copy_174 8 rfl (pc' := 176) rfl ?_
                    exact S_iret rfl dX5_copy_176
                  · refine S_aload_n dX5_copy_149 rfl 3 rfl (pc' := 150) rfl ?_
                    refine S_bipush dX5_copy_150 (v := (-2)) rfl (pc' := 152) rfl ?_
                    refine S_invi ml_X5_58 mi_X5_refuse (ci := 5) ⟨_, rfl, rfl⟩ (by decide) dX5_copy_152 [.int (-2)] rfl (fun v h2 q => c_X5_refuse Z l _ _ _ q) ⟨Nat.le_of_ble_eq_true rfl, Nat.le_of_ble_eq_true rfl⟩ (rest := []) (Nat.le_of_ble_eq_true rfl) rfl (pc' := 155) rfl (fun x152 h152 => ?_)
                    exact S_iret rfl dX5_copy_155
              · refine S_aload_n dX5_copy_107 rfl 3 rfl (pc' := 108) rfl ?_
                refine S_bipush dX5_copy_108 (v := (-3)) rfl (pc' := 110) rfl ?_
                refine S_invi ml_X5_58 mi_X5_refuse (ci := 5) ⟨_, rfl, rfl⟩ (by decide) dX5_copy_110 [.int (-3)] rfl (fun v h2 q => c_X5_refuse Z l _ _ _ q) ⟨Nat.le_of_ble_eq_true rfl, Nat.le_of_ble_eq_true rfl⟩ (rest := []) (Nat.le_of_ble_eq_true rfl) rfl (pc' := 113) rfl (fun x110 h110 => ?_)
                exact S_iret rfl dX5_copy_113
            · refine S_iconst dX5_copy_82 (v := 1) rfl (pc' := 83) rfl ?_
              refine S_goto dX5_copy_83 87 rfl ?_
              refine S_istore dX5_copy_87 (by decide) (lo' := [(8, .int 1), (7, .ref (zb Z + x38)), (6, .ref (zb Z + x30)), (0, .ref (zb Z + t)), (1, .int a1), (2, .int a2), (3, .int a3), (4, .int a4), (5, .int a5)]) rfl (pc' := 89) rfl ?_
              refine S_iload dX5_copy_89 0 rfl (pc' := 91) rfl ?_
              refine S_if_ne_J dX5_copy_91 114 rfl (pc' := 94) rfl (by decide) ?_
              refine S_iload dX5_copy_114 0 rfl (pc' := 116) rfl ?_
              refine S_if_eq_N dX5_copy_116 126 rfl (pc' := 119) rfl (by decide) ?_
              refine S_aload_n dX5_copy_119 rfl 3 rfl (pc' := 120) rfl ?_
              refine S_bipush dX5_copy_120 (v := (-4)) rfl (pc' := 122) rfl ?_
              refine S_invi ml_X5_58 mi_X5_refuse (ci := 5) ⟨_, rfl, rfl⟩ (by decide) dX5_copy_122 [.int (-4)] rfl (fun v h2 q => c_X5_refuse Z l _ _ _ q) ⟨Nat.le_of_ble_eq_true rfl, Nat.le_of_ble_eq_true rfl⟩ (rest := []) (Nat.le_of_ble_eq_true rfl) rfl (pc' := 125) rfl (fun x122 h122 => ?_)
              exact S_iret rfl dX5_copy_125
        · refine S_aload_n dX5_copy_57 rfl 2 rfl (pc' := 58) rfl ?_
          refine S_bipush dX5_copy_58 (v := (-3)) rfl (pc' := 60) rfl ?_
          refine S_invi ml_X5_58 mi_X5_refuse (ci := 5) ⟨_, rfl, rfl⟩ (by decide) dX5_copy_60 [.int (-3)] rfl (fun v h2 q => c_X5_refuse Z l _ _ _ q) ⟨Nat.le_of_ble_eq_true rfl, Nat.le_of_ble_eq_true rfl⟩ (rest := []) (Nat.le_of_ble_eq_true rfl) rfl (pc' := 63) rfl (fun x60 h60 => ?_)
          exact S_iret rfl dX5_copy_63
    · refine S_aload_n dX5_copy_18 rfl 0 rfl (pc' := 19) rfl ?_
      refine S_bipush dX5_copy_19 (v := (-2)) rfl (pc' := 21) rfl ?_
      refine S_invi ml_X5_58 mi_X5_refuse (ci := 5) ⟨_, rfl, rfl⟩ (by decide) dX5_copy_21 [.int (-2)] rfl (fun v h2 q => c_X5_refuse Z l _ _ _ q) ⟨Nat.le_of_ble_eq_true rfl, Nat.le_of_ble_eq_true rfl⟩ (rest := []) (Nat.le_of_ble_eq_true rfl) rfl (pc' := 24) rfl (fun x21 h21 => ?_)
      exact S_iret rfl dX5_copy_24
theorem dX5_element_0 : decode cX5_element 0 = .ok (.iload_n 1, 1) := by decide +kernel
theorem dX5_element_1 : decode cX5_element 1 = .ok (.bipush 8, 2) := by decide +kernel
theorem dX5_element_3 : decode cX5_element 3 = .ok (.invokestatic 54, 3) := by decide +kernel
theorem dX5_element_6 : decode cX5_element 6 = .ok (.ifCond .eq 5, 3) := by decide +kernel
theorem dX5_element_9 : decode cX5_element 9 = .ok (.lconst 0, 1) := by decide +kernel
theorem dX5_element_10 : decode cX5_element 10 = .ok (.lreturn, 1) := by decide +kernel
theorem dX5_element_11 : decode cX5_element 11 = .ok (.aload_n 0, 1) := by decide +kernel
theorem dX5_element_12 : decode cX5_element 12 = .ok (.getfield 45, 3) := by decide +kernel
theorem dX5_element_15 : decode cX5_element 15 = .ok (.iload_n 1, 1) := by decide +kernel
theorem dX5_element_16 : decode cX5_element 16 = .ok (.aaload, 1) := by decide +kernel
theorem dX5_element_17 : decode cX5_element 17 = .ok (.astore_n 3, 1) := by decide +kernel
theorem dX5_element_18 : decode cX5_element 18 = .ok (.aload_n 3, 1) := by decide +kernel
theorem dX5_element_19 : decode cX5_element 19 = .ok (.invokevirtual 66, 3) := by decide +kernel
theorem dX5_element_22 : decode cX5_element 22 = .ok (.ifCond .ne 14, 3) := by decide +kernel
theorem dX5_element_25 : decode cX5_element 25 = .ok (.iload_n 2, 1) := by decide +kernel
theorem dX5_element_26 : decode cX5_element 26 = .ok (.aload_n 3, 1) := by decide +kernel
theorem dX5_element_27 : decode cX5_element 27 = .ok (.getfield 70, 3) := by decide +kernel
theorem dX5_element_30 : decode cX5_element 30 = .ok (.invokestatic 54, 3) := by decide +kernel
theorem dX5_element_33 : decode cX5_element 33 = .ok (.ifCond .eq 7, 3) := by decide +kernel
theorem dX5_element_36 : decode cX5_element 36 = .ok (.lconst 0, 1) := by decide +kernel
theorem dX5_element_37 : decode cX5_element 37 = .ok (.goto 9, 3) := by decide +kernel
theorem dX5_element_40 : decode cX5_element 40 = .ok (.aload_n 3, 1) := by decide +kernel
theorem dX5_element_41 : decode cX5_element 41 = .ok (.getfield 88, 3) := by decide +kernel
theorem dX5_element_44 : decode cX5_element 44 = .ok (.iload_n 2, 1) := by decide +kernel
theorem dX5_element_45 : decode cX5_element 45 = .ok (.laload, 1) := by decide +kernel
theorem dX5_element_46 : decode cX5_element 46 = .ok (.lreturn, 1) := by decide +kernel
set_option maxRecDepth 100000 in
set_option maxHeartbeats 4000000 in
theorem c_X5_element (Z : ZZ) (l : Launch) (t : Nat) (a1 : Int32) (a2 : Int32) (h : HP) {v : Int64} {h1 : HP} (ho : f_X5_element t a1 a2 h = some (v, h1)) : MetP Z l yX5_element cX5_element 4 (some .long) 2 40 [.ref (zb Z + t), .int a1, .int a2] h (some (.long v)) h1 := by
  refine MetP_of ho (by decide +kernel) (Nat.le_of_ble_eq_true rfl) [(0, .ref (zb Z + t)), (1, .int a1), (2, .int a2)] rfl (own := RX5) rfl (nm := "element") rfl ?_
  unfold f_X5_element
  refine S_iload_n dX5_element_0 rfl 1 rfl (pc' := 1) rfl ?_
  refine S_bipush dX5_element_1 (v := 8) rfl (pc' := 3) rfl ?_
  refine S_stai ml_X5_54 ms_X5_outside dX5_element_3 [.int a1, .int 8] rfl (fun v h2 q => c_X5_outside Z l _ _ _ q) ⟨Nat.le_of_ble_eq_true rfl, Nat.le_of_ble_eq_true rfl⟩ (rest := []) (Nat.le_of_ble_eq_true rfl) rfl (pc' := 6) rfl (fun x3 h3 => ?_)
  refine S_if_eq dX5_element_6 11 rfl (pc' := 9) rfl (fun g6 => ?_) (fun g6 => ?_)
  · refine S_aload_n dX5_element_11 rfl 0 rfl (pc' := 12) rfl ?_
    refine S_getR fl_X5_45 rfl dX5_element_12 (pc' := 15) rfl (fun x12 => ?_)
    refine S_iload_n dX5_element_15 rfl 1 rfl (pc' := 16) rfl ?_
    refine S_aaloadS dX5_element_16 (pc' := 17) rfl (fun x16 => ?_)
    refine S_astore_n dX5_element_17 rfl (by decide) (lo' := [(3, .ref (zb Z + x16)), (0, .ref (zb Z + t)), (1, .int a1), (2, .int a2)]) rfl (pc' := 18) rfl ?_
    refine S_aload_n dX5_element_18 rfl 0 rfl (pc' := 19) rfl ?_
    refine S_invi ml_X5_66 mi_X3_refusalAsRow (ci := 3) ⟨_, rfl, rfl⟩ (by decide) dX5_element_19 [] rfl (fun v h2 q => c_X3_refusalAsRow Z l _ _ q) ⟨Nat.le_of_ble_eq_true rfl, Nat.le_of_ble_eq_true rfl⟩ (rest := []) (Nat.le_of_ble_eq_true rfl) rfl (pc' := 22) rfl (fun x19 h19 => ?_)
    refine S_if_ne dX5_element_22 36 rfl (pc' := 25) rfl (fun g22 => ?_) (fun g22 => ?_)
    · refine S_lconst dX5_element_36 (v := 0) rfl (pc' := 37) rfl ?_
      refine S_goto dX5_element_37 46 rfl ?_
      exact S_lret rfl dX5_element_46
    · refine S_iload_n dX5_element_25 rfl 3 rfl (pc' := 26) rfl ?_
      refine S_aload_n dX5_element_26 rfl 0 rfl (pc' := 27) rfl ?_
      refine S_getI fl_X5_70 rfl dX5_element_27 (pc' := 30) rfl (fun x27 => ?_)
      refine S_stai ml_X5_54 ms_X5_outside dX5_element_30 [.int a2, .int x27] rfl (fun v h2 q => c_X5_outside Z l _ _ _ q) ⟨Nat.le_of_ble_eq_true rfl, Nat.le_of_ble_eq_true rfl⟩ (rest := []) (Nat.le_of_ble_eq_true rfl) rfl (pc' := 33) rfl (fun x30 h30 => ?_)
      refine S_if_eq dX5_element_33 40 rfl (pc' := 36) rfl (fun g33 => ?_) (fun g33 => ?_)
      · refine S_aload_n dX5_element_40 rfl 0 rfl (pc' := 41) rfl ?_
        refine S_getR fl_X5_88 rfl dX5_element_41 (pc' := 44) rfl (fun x41 => ?_)
        refine S_iload_n dX5_element_44 rfl 3 rfl (pc' := 45) rfl ?_
        refine S_laload dX5_element_45 (pc' := 46) rfl (fun x45 => ?_)
        exact S_lret rfl dX5_element_46
      · refine S_lconst dX5_element_36 (v := 0) rfl (pc' := 37) rfl ?_
        refine S_goto dX5_element_37 46 rfl ?_
        exact S_lret rfl dX5_element_46
  · refine S_lconst dX5_element_9 (v := 0) rfl (pc' := 10) rfl ?_
    exact S_lret rfl dX5_element_10
theorem dX5_holds_0 : decode cX5_holds 0 = .ok (.iload_n 1, 1) := by decide +kernel
theorem dX5_holds_1 : decode cX5_holds 1 = .ok (.bipush 8, 2) := by decide +kernel
theorem dX5_holds_3 : decode cX5_holds 3 = .ok (.invokestatic 54, 3) := by decide +kernel
theorem dX5_holds_6 : decode cX5_holds 6 = .ok (.ifCond .eq 7, 3) := by decide +kernel
theorem dX5_holds_9 : decode cX5_holds 9 = .ok (.iconst (-1), 1) := by decide +kernel
theorem dX5_holds_10 : decode cX5_holds 10 = .ok (.goto 12, 3) := by decide +kernel
theorem dX5_holds_13 : decode cX5_holds 13 = .ok (.aload_n 0, 1) := by decide +kernel
theorem dX5_holds_14 : decode cX5_holds 14 = .ok (.getfield 45, 3) := by decide +kernel
theorem dX5_holds_17 : decode cX5_holds 17 = .ok (.iload_n 1, 1) := by decide +kernel
theorem dX5_holds_18 : decode cX5_holds 18 = .ok (.aaload, 1) := by decide +kernel
theorem dX5_holds_19 : decode cX5_holds 19 = .ok (.getfield 82, 3) := by decide +kernel
theorem dX5_holds_22 : decode cX5_holds 22 = .ok (.ireturn, 1) := by decide +kernel
set_option maxRecDepth 100000 in
set_option maxHeartbeats 4000000 in
theorem c_X5_holds (Z : ZZ) (l : Launch) (t : Nat) (a1 : Int32) (h : HP) {v : Int32} {h1 : HP} (ho : f_X5_holds t a1 h = some (v, h1)) : MetP Z l yX5_holds cX5_holds 2 (some .int) 1 21 [.ref (zb Z + t), .int a1] h (some (.int v)) h1 := by
  refine MetP_of ho (by decide +kernel) (Nat.le_of_ble_eq_true rfl) [(0, .ref (zb Z + t)), (1, .int a1)] rfl (own := RX5) rfl (nm := "holds") rfl ?_
  unfold f_X5_holds
  refine S_iload_n dX5_holds_0 rfl 1 rfl (pc' := 1) rfl ?_
  refine S_bipush dX5_holds_1 (v := 8) rfl (pc' := 3) rfl ?_
  refine S_stai ml_X5_54 ms_X5_outside dX5_holds_3 [.int a1, .int 8] rfl (fun v h2 q => c_X5_outside Z l _ _ _ q) ⟨Nat.le_of_ble_eq_true rfl, Nat.le_of_ble_eq_true rfl⟩ (rest := []) (Nat.le_of_ble_eq_true rfl) rfl (pc' := 6) rfl (fun x3 h3 => ?_)
  refine S_if_eq dX5_holds_6 13 rfl (pc' := 9) rfl (fun g6 => ?_) (fun g6 => ?_)
  · refine S_aload_n dX5_holds_13 rfl 0 rfl (pc' := 14) rfl ?_
    refine S_getR fl_X5_45 rfl dX5_holds_14 (pc' := 17) rfl (fun x14 => ?_)
    refine S_iload_n dX5_holds_17 rfl 1 rfl (pc' := 18) rfl ?_
    refine S_aaloadS dX5_holds_18 (pc' := 19) rfl (fun x18 => ?_)
    refine S_getI fl_X5_82 rfl dX5_holds_19 (pc' := 22) rfl (fun x19 => ?_)
    exact S_iret rfl dX5_holds_22
  · refine S_iconst dX5_holds_9 (v := (-1)) rfl (pc' := 10) rfl ?_
    refine S_goto dX5_holds_10 22 rfl ?_
    exact S_iret rfl dX5_holds_22
theorem dX5_noPerson_0 : decode cX5_noPerson 0 = .ok (.iload_n 1, 1) := by decide +kernel
theorem dX5_noPerson_1 : decode cX5_noPerson 1 = .ok (.aload_n 0, 1) := by decide +kernel
theorem dX5_noPerson_2 : decode cX5_noPerson 2 = .ok (.getfield 12, 3) := by decide +kernel
theorem dX5_noPerson_5 : decode cX5_noPerson 5 = .ok (.getfield 112, 3) := by decide +kernel
theorem dX5_noPerson_8 : decode cX5_noPerson 8 = .ok (.invokestatic 54, 3) := by decide +kernel
theorem dX5_noPerson_11 : decode cX5_noPerson 11 = .ok (.ireturn, 1) := by decide +kernel
set_option maxRecDepth 100000 in
set_option maxHeartbeats 4000000 in
theorem c_X5_noPerson (Z : ZZ) (l : Launch) (t : Nat) (a1 : Int32) (h : HP) {v : Int32} {h1 : HP} (ho : f_X5_noPerson t a1 h = some (v, h1)) : MetP Z l yX5_noPerson cX5_noPerson 2 (some .boolean) 1 21 [.ref (zb Z + t), .int a1] h (some (.int v)) h1 := by
  refine MetP_of ho (by decide +kernel) (Nat.le_of_ble_eq_true rfl) [(0, .ref (zb Z + t)), (1, .int a1)] rfl (own := RX5) rfl (nm := "noPerson") rfl ?_
  unfold f_X5_noPerson
  refine S_iload_n dX5_noPerson_0 rfl 1 rfl (pc' := 1) rfl ?_
  refine S_aload_n dX5_noPerson_1 rfl 0 rfl (pc' := 2) rfl ?_
  refine S_getR fl_X5_12 rfl dX5_noPerson_2 (pc' := 5) rfl (fun x2 => ?_)
  refine S_getI fl_X5_112 rfl dX5_noPerson_5 (pc' := 8) rfl (fun x5 => ?_)
  refine S_stai ml_X5_54 ms_X5_outside dX5_noPerson_8 [.int a1, .int x5] rfl (fun v h2 q => c_X5_outside Z l _ _ _ q) ⟨Nat.le_of_ble_eq_true rfl, Nat.le_of_ble_eq_true rfl⟩ (rest := []) (Nat.le_of_ble_eq_true rfl) rfl (pc' := 11) rfl (fun x8 h8 => ?_)
  exact S_zret rfl dX5_noPerson_11
theorem dX5_show_0 : decode cX5_show 0 = .ok (.iload_n 1, 1) := by decide +kernel
theorem dX5_show_1 : decode cX5_show 1 = .ok (.bipush 8, 2) := by decide +kernel
theorem dX5_show_3 : decode cX5_show 3 = .ok (.invokestatic 54, 3) := by decide +kernel
theorem dX5_show_6 : decode cX5_show 6 = .ok (.ifCond .ne 16, 3) := by decide +kernel
theorem dX5_show_9 : decode cX5_show 9 = .ok (.iload_n 2, 1) := by decide +kernel
theorem dX5_show_10 : decode cX5_show 10 = .ok (.iconst (-1), 1) := by decide +kernel
theorem dX5_show_11 : decode cX5_show 11 = .ok (.if_icmp .eq 18, 3) := by decide +kernel
theorem dX5_show_14 : decode cX5_show 14 = .ok (.aload_n 0, 1) := by decide +kernel
theorem dX5_show_15 : decode cX5_show 15 = .ok (.iload_n 2, 1) := by decide +kernel
theorem dX5_show_16 : decode cX5_show 16 = .ok (.invokevirtual 98, 3) := by decide +kernel
theorem dX5_show_19 : decode cX5_show 19 = .ok (.ifCond .eq 10, 3) := by decide +kernel
theorem dX5_show_22 : decode cX5_show 22 = .ok (.aload_n 0, 1) := by decide +kernel
theorem dX5_show_23 : decode cX5_show 23 = .ok (.bipush (-2), 2) := by decide +kernel
theorem dX5_show_25 : decode cX5_show 25 = .ok (.invokevirtual 58, 3) := by decide +kernel
theorem dX5_show_28 : decode cX5_show 28 = .ok (.ireturn, 1) := by decide +kernel
theorem dX5_show_29 : decode cX5_show 29 = .ok (.aload_n 0, 1) := by decide +kernel
theorem dX5_show_30 : decode cX5_show 30 = .ok (.getfield 45, 3) := by decide +kernel
theorem dX5_show_33 : decode cX5_show 33 = .ok (.iload_n 1, 1) := by decide +kernel
theorem dX5_show_34 : decode cX5_show 34 = .ok (.aaload, 1) := by decide +kernel
theorem dX5_show_35 : decode cX5_show 35 = .ok (.iload_n 2, 1) := by decide +kernel
theorem dX5_show_36 : decode cX5_show 36 = .ok (.iconst (-1), 1) := by decide +kernel
theorem dX5_show_37 : decode cX5_show 37 = .ok (.if_icmp .ne 7, 3) := by decide +kernel
theorem dX5_show_40 : decode cX5_show 40 = .ok (.iconst (-1), 1) := by decide +kernel
theorem dX5_show_41 : decode cX5_show 41 = .ok (.goto 7, 3) := by decide +kernel
theorem dX5_show_44 : decode cX5_show 44 = .ok (.bipush 10, 2) := by decide +kernel
theorem dX5_show_46 : decode cX5_show 46 = .ok (.iload_n 2, 1) := by decide +kernel
theorem dX5_show_47 : decode cX5_show 47 = .ok (.iadd, 1) := by decide +kernel
theorem dX5_show_48 : decode cX5_show 48 = .ok (.putfield 82, 3) := by decide +kernel
theorem dX5_show_51 : decode cX5_show 51 = .ok (.iconst 1, 1) := by decide +kernel
theorem dX5_show_52 : decode cX5_show 52 = .ok (.ireturn, 1) := by decide +kernel
set_option maxRecDepth 100000 in
set_option maxHeartbeats 4000000 in
theorem c_X5_show (Z : ZZ) (l : Launch) (t : Nat) (a1 : Int32) (a2 : Int32) (h : HP) {v : Int32} {h1 : HP} (ho : f_X5_show t a1 a2 h = some (v, h1)) : MetP Z l yX5_show cX5_show 3 (some .int) 2 43 [.ref (zb Z + t), .int a1, .int a2] h (some (.int v)) h1 := by
  refine MetP_of ho (by decide +kernel) (Nat.le_of_ble_eq_true rfl) [(0, .ref (zb Z + t)), (1, .int a1), (2, .int a2)] rfl (own := RX5) rfl (nm := "show") rfl ?_
  unfold f_X5_show
  refine S_iload_n dX5_show_0 rfl 1 rfl (pc' := 1) rfl ?_
  refine S_bipush dX5_show_1 (v := 8) rfl (pc' := 3) rfl ?_
  refine S_stai ml_X5_54 ms_X5_outside dX5_show_3 [.int a1, .int 8] rfl (fun v h2 q => c_X5_outside Z l _ _ _ q) ⟨Nat.le_of_ble_eq_true rfl, Nat.le_of_ble_eq_true rfl⟩ (rest := []) (Nat.le_of_ble_eq_true rfl) rfl (pc' := 6) rfl (fun x3 h3 => ?_)
  refine S_if_ne dX5_show_6 22 rfl (pc' := 9) rfl (fun g6 => ?_) (fun g6 => ?_)
  · refine S_aload_n dX5_show_22 rfl 0 rfl (pc' := 23) rfl ?_
    refine S_bipush dX5_show_23 (v := (-2)) rfl (pc' := 25) rfl ?_
    refine S_invi ml_X5_58 mi_X5_refuse (ci := 5) ⟨_, rfl, rfl⟩ (by decide) dX5_show_25 [.int (-2)] rfl (fun v h2 q => c_X5_refuse Z l _ _ _ q) ⟨Nat.le_of_ble_eq_true rfl, Nat.le_of_ble_eq_true rfl⟩ (rest := []) (Nat.le_of_ble_eq_true rfl) rfl (pc' := 28) rfl (fun x25 h25 => ?_)
    exact S_iret rfl dX5_show_28
  · refine S_iload_n dX5_show_9 rfl 2 rfl (pc' := 10) rfl ?_
    refine S_iconst dX5_show_10 (v := (-1)) rfl (pc' := 11) rfl ?_
    refine S_icmp_eq dX5_show_11 29 rfl (pc' := 14) rfl (fun g11 => ?_) (fun g11 => ?_)
    · refine S_aload_n dX5_show_29 rfl 0 rfl (pc' := 30) rfl ?_
      refine S_getR fl_X5_45 rfl dX5_show_30 (pc' := 33) rfl (fun x30 => ?_)
      refine S_iload_n dX5_show_33 rfl 1 rfl (pc' := 34) rfl ?_
      refine S_aaloadS dX5_show_34 (pc' := 35) rfl (fun x34 => ?_)
      refine S_iload_n dX5_show_35 rfl 2 rfl (pc' := 36) rfl ?_
      refine S_iconst dX5_show_36 (v := (-1)) rfl (pc' := 37) rfl ?_
      refine S_icmp_ne_N dX5_show_37 44 rfl (pc' := 40) rfl g11 ?_
      refine S_iconst dX5_show_40 (v := (-1)) rfl (pc' := 41) rfl ?_
      refine S_goto dX5_show_41 48 rfl ?_
      refine S_putI fl_X5_82 (by decide) rfl dX5_show_48 (pc' := 51) rfl (fun h48 => ?_)
      refine S_iconst dX5_show_51 (v := 1) rfl (pc' := 52) rfl ?_
      exact S_iret rfl dX5_show_52
    · refine S_aload_n dX5_show_14 rfl 0 rfl (pc' := 15) rfl ?_
      refine S_iload_n dX5_show_15 rfl 2 rfl (pc' := 16) rfl ?_
      refine S_invi ml_X5_98 mi_X5_noPerson (ci := 5) ⟨_, rfl, rfl⟩ (by decide) dX5_show_16 [.int a2] rfl (fun v h2 q => c_X5_noPerson Z l _ _ _ q) ⟨Nat.le_of_ble_eq_true rfl, Nat.le_of_ble_eq_true rfl⟩ (rest := []) (Nat.le_of_ble_eq_true rfl) rfl (pc' := 19) rfl (fun x16 h16 => ?_)
      refine S_if_eq dX5_show_19 29 rfl (pc' := 22) rfl (fun g19 => ?_) (fun g19 => ?_)
      · refine S_aload_n dX5_show_29 rfl 0 rfl (pc' := 30) rfl ?_
        refine S_getR fl_X5_45 rfl dX5_show_30 (pc' := 33) rfl (fun x30 => ?_)
        refine S_iload_n dX5_show_33 rfl 1 rfl (pc' := 34) rfl ?_
        refine S_aaloadS dX5_show_34 (pc' := 35) rfl (fun x34 => ?_)
        refine S_iload_n dX5_show_35 rfl 2 rfl (pc' := 36) rfl ?_
        refine S_iconst dX5_show_36 (v := (-1)) rfl (pc' := 37) rfl ?_
        refine S_icmp_ne_J dX5_show_37 44 rfl (pc' := 40) rfl g11 ?_
        refine S_bipush dX5_show_44 (v := 10) rfl (pc' := 46) rfl ?_
        refine S_iload_n dX5_show_46 rfl 2 rfl (pc' := 47) rfl ?_
        refine S_iadd dX5_show_47 (pc' := 48) rfl ?_
        refine S_putI fl_X5_82 (by decide) rfl dX5_show_48 (pc' := 51) rfl (fun h48 => ?_)
        refine S_iconst dX5_show_51 (v := 1) rfl (pc' := 52) rfl ?_
        exact S_iret rfl dX5_show_52
      · refine S_aload_n dX5_show_22 rfl 0 rfl (pc' := 23) rfl ?_
        refine S_bipush dX5_show_23 (v := (-2)) rfl (pc' := 25) rfl ?_
        refine S_invi ml_X5_58 mi_X5_refuse (ci := 5) ⟨_, rfl, rfl⟩ (by decide) dX5_show_25 [.int (-2)] rfl (fun v h2 q => c_X5_refuse Z l _ _ _ q) ⟨Nat.le_of_ble_eq_true rfl, Nat.le_of_ble_eq_true rfl⟩ (rest := []) (Nat.le_of_ble_eq_true rfl) rfl (pc' := 28) rfl (fun x25 h25 => ?_)
        exact S_iret rfl dX5_show_28
theorem dX5_says_0 : decode cX5_says 0 = .ok (.iload_n 1, 1) := by decide +kernel
theorem dX5_says_1 : decode cX5_says 1 = .ok (.bipush 8, 2) := by decide +kernel
theorem dX5_says_3 : decode cX5_says 3 = .ok (.invokestatic 54, 3) := by decide +kernel
theorem dX5_says_6 : decode cX5_says 6 = .ok (.ifCond .ne 12, 3) := by decide +kernel
theorem dX5_says_9 : decode cX5_says 9 = .ok (.iload_n 2, 1) := by decide +kernel
theorem dX5_says_10 : decode cX5_says 10 = .ok (.bipush 6, 2) := by decide +kernel
theorem dX5_says_12 : decode cX5_says 12 = .ok (.invokestatic 54, 3) := by decide +kernel
theorem dX5_says_15 : decode cX5_says 15 = .ok (.ifCond .eq 10, 3) := by decide +kernel
theorem dX5_says_18 : decode cX5_says 18 = .ok (.aload_n 0, 1) := by decide +kernel
theorem dX5_says_19 : decode cX5_says 19 = .ok (.bipush (-2), 2) := by decide +kernel
theorem dX5_says_21 : decode cX5_says 21 = .ok (.invokevirtual 58, 3) := by decide +kernel
theorem dX5_says_24 : decode cX5_says 24 = .ok (.ireturn, 1) := by decide +kernel
theorem dX5_says_25 : decode cX5_says 25 = .ok (.aload_n 0, 1) := by decide +kernel
theorem dX5_says_26 : decode cX5_says 26 = .ok (.getfield 45, 3) := by decide +kernel
theorem dX5_says_29 : decode cX5_says 29 = .ok (.iload_n 1, 1) := by decide +kernel
theorem dX5_says_30 : decode cX5_says 30 = .ok (.aaload, 1) := by decide +kernel
theorem dX5_says_31 : decode cX5_says 31 = .ok (.astore_n 3, 1) := by decide +kernel
theorem dX5_says_32 : decode cX5_says 32 = .ok (.aload_n 3, 1) := by decide +kernel
theorem dX5_says_33 : decode cX5_says 33 = .ok (.getfield 82, 3) := by decide +kernel
theorem dX5_says_36 : decode cX5_says 36 = .ok (.iconst (-1), 1) := by decide +kernel
theorem dX5_says_37 : decode cX5_says 37 = .ok (.if_icmp .ne 10, 3) := by decide +kernel
theorem dX5_says_40 : decode cX5_says 40 = .ok (.aload_n 0, 1) := by decide +kernel
theorem dX5_says_41 : decode cX5_says 41 = .ok (.bipush (-4), 2) := by decide +kernel
theorem dX5_says_43 : decode cX5_says 43 = .ok (.invokevirtual 58, 3) := by decide +kernel
theorem dX5_says_46 : decode cX5_says 46 = .ok (.ireturn, 1) := by decide +kernel
theorem dX5_says_47 : decode cX5_says 47 = .ok (.aload_n 3, 1) := by decide +kernel
theorem dX5_says_48 : decode cX5_says 48 = .ok (.getfield 82, 3) := by decide +kernel
theorem dX5_says_51 : decode cX5_says 51 = .ok (.bipush 10, 2) := by decide +kernel
theorem dX5_says_53 : decode cX5_says 53 = .ok (.isub, 1) := by decide +kernel
theorem dX5_says_54 : decode cX5_says 54 = .ok (.istore 4, 2) := by decide +kernel
theorem dX5_says_56 : decode cX5_says 56 = .ok (.aload_n 0, 1) := by decide +kernel
theorem dX5_says_57 : decode cX5_says 57 = .ok (.iload 4, 2) := by decide +kernel
theorem dX5_says_59 : decode cX5_says 59 = .ok (.invokevirtual 98, 3) := by decide +kernel
theorem dX5_says_62 : decode cX5_says 62 = .ok (.ifCond .ne 16, 3) := by decide +kernel
theorem dX5_says_65 : decode cX5_says 65 = .ok (.aload_n 0, 1) := by decide +kernel
theorem dX5_says_66 : decode cX5_says 66 = .ok (.getfield 12, 3) := by decide +kernel
theorem dX5_says_69 : decode cX5_says 69 = .ok (.iload 4, 2) := by decide +kernel
theorem dX5_says_71 : decode cX5_says 71 = .ok (.iload_n 2, 1) := by decide +kernel
theorem dX5_says_72 : decode cX5_says 72 = .ok (.invokevirtual 102, 3) := by decide +kernel
theorem dX5_says_75 : decode cX5_says 75 = .ok (.ifCond .ne 10, 3) := by decide +kernel
theorem dX5_says_78 : decode cX5_says 78 = .ok (.aload_n 0, 1) := by decide +kernel
theorem dX5_says_79 : decode cX5_says 79 = .ok (.bipush (-3), 2) := by decide +kernel
theorem dX5_says_81 : decode cX5_says 81 = .ok (.invokevirtual 58, 3) := by decide +kernel
theorem dX5_says_84 : decode cX5_says 84 = .ok (.ireturn, 1) := by decide +kernel
theorem dX5_says_85 : decode cX5_says 85 = .ok (.iload_n 2, 1) := by decide +kernel
theorem dX5_says_86 : decode cX5_says 86 = .ok (.ifCond .ne 16, 3) := by decide +kernel
theorem dX5_says_89 : decode cX5_says 89 = .ok (.aload_n 0, 1) := by decide +kernel
theorem dX5_says_90 : decode cX5_says 90 = .ok (.getfield 12, 3) := by decide +kernel
theorem dX5_says_93 : decode cX5_says 93 = .ok (.getfield 105, 3) := by decide +kernel
theorem dX5_says_96 : decode cX5_says 96 = .ok (.iload 4, 2) := by decide +kernel
theorem dX5_says_98 : decode cX5_says 98 = .ok (.iaload, 1) := by decide +kernel
theorem dX5_says_99 : decode cX5_says 99 = .ok (.goto 13, 3) := by decide +kernel
theorem dX5_says_102 : decode cX5_says 102 = .ok (.aload_n 0, 1) := by decide +kernel
theorem dX5_says_103 : decode cX5_says 103 = .ok (.getfield 12, 3) := by decide +kernel
theorem dX5_says_106 : decode cX5_says 106 = .ok (.iload 4, 2) := by decide +kernel
theorem dX5_says_108 : decode cX5_says 108 = .ok (.iconst 0, 1) := by decide +kernel
theorem dX5_says_109 : decode cX5_says 109 = .ok (.invokevirtual 108, 3) := by decide +kernel
theorem dX5_says_112 : decode cX5_says 112 = .ok (.ireturn, 1) := by decide +kernel
set_option maxRecDepth 100000 in
set_option maxHeartbeats 4000000 in
theorem c_X5_says (Z : ZZ) (l : Launch) (t : Nat) (a1 : Int32) (a2 : Int32) (h : HP) {v : Int32} {h1 : HP} (ho : f_X5_says t a1 a2 h = some (v, h1)) : MetP Z l yX5_says cX5_says 5 (some .int) 2 43 [.ref (zb Z + t), .int a1, .int a2] h (some (.int v)) h1 := by
  refine MetP_of ho (by decide +kernel) (Nat.le_of_ble_eq_true rfl) [(0, .ref (zb Z + t)), (1, .int a1), (2, .int a2)] rfl (own := RX5) rfl (nm := "says") rfl ?_
  unfold f_X5_says
  refine S_iload_n dX5_says_0 rfl 1 rfl (pc' := 1) rfl ?_
  refine S_bipush dX5_says_1 (v := 8) rfl (pc' := 3) rfl ?_
  refine S_stai ml_X5_54 ms_X5_outside dX5_says_3 [.int a1, .int 8] rfl (fun v h2 q => c_X5_outside Z l _ _ _ q) ⟨Nat.le_of_ble_eq_true rfl, Nat.le_of_ble_eq_true rfl⟩ (rest := []) (Nat.le_of_ble_eq_true rfl) rfl (pc' := 6) rfl (fun x3 h3 => ?_)
  refine S_if_ne dX5_says_6 18 rfl (pc' := 9) rfl (fun g6 => ?_) (fun g6 => ?_)
  · refine S_aload_n dX5_says_18 rfl 0 rfl (pc' := 19) rfl ?_
    refine S_bipush dX5_says_19 (v := (-2)) rfl (pc' := 21) rfl ?_
    refine S_invi ml_X5_58 mi_X5_refuse (ci := 5) ⟨_, rfl, rfl⟩ (by decide) dX5_says_21 [.int (-2)] rfl (fun v h2 q => c_X5_refuse Z l _ _ _ q) ⟨Nat.le_of_ble_eq_true rfl, Nat.le_of_ble_eq_true rfl⟩ (rest := []) (Nat.le_of_ble_eq_true rfl) rfl (pc' := 24) rfl (fun x21 h21 => ?_)
    exact S_iret rfl dX5_says_24
  · refine S_iload_n dX5_says_9 rfl 2 rfl (pc' := 10) rfl ?_
    refine S_bipush dX5_says_10 (v := 6) rfl (pc' := 12) rfl ?_
    refine S_stai ml_X5_54 ms_X5_outside dX5_says_12 [.int a2, .int 6] rfl (fun v h2 q => c_X5_outside Z l _ _ _ q) ⟨Nat.le_of_ble_eq_true rfl, Nat.le_of_ble_eq_true rfl⟩ (rest := []) (Nat.le_of_ble_eq_true rfl) rfl (pc' := 15) rfl (fun x12 h12 => ?_)
    refine S_if_eq dX5_says_15 25 rfl (pc' := 18) rfl (fun g15 => ?_) (fun g15 => ?_)
    · refine S_aload_n dX5_says_25 rfl 0 rfl (pc' := 26) rfl ?_
      refine S_getR fl_X5_45 rfl dX5_says_26 (pc' := 29) rfl (fun x26 => ?_)
      refine S_iload_n dX5_says_29 rfl 1 rfl (pc' := 30) rfl ?_
      refine S_aaloadS dX5_says_30 (pc' := 31) rfl (fun x30 => ?_)
      refine S_astore_n dX5_says_31 rfl (by decide) (lo' := [(3, .ref (zb Z + x30)), (0, .ref (zb Z + t)), (1, .int a1), (2, .int a2)]) rfl (pc' := 32) rfl ?_
      refine S_aload_n dX5_says_32 rfl 0 rfl (pc' := 33) rfl ?_
      refine S_getI fl_X5_82 rfl dX5_says_33 (pc' := 36) rfl (fun x33 => ?_)
      refine S_iconst dX5_says_36 (v := (-1)) rfl (pc' := 37) rfl ?_
      refine S_icmp_ne dX5_says_37 47 rfl (pc' := 40) rfl (fun g37 => ?_) (fun g37 => ?_)
      · refine S_aload_n dX5_says_47 rfl 0 rfl (pc' := 48) rfl ?_
        refine S_getI fl_X5_82 rfl dX5_says_48 (pc' := 51) rfl (fun x48 => ?_)
        refine S_bipush dX5_says_51 (v := 10) rfl (pc' := 53) rfl ?_
        refine S_isub dX5_says_53 (pc' := 54) rfl ?_
        refine S_istore dX5_says_54 (by decide) (lo' := [(4, .int (x48 - 10)), (3, .ref (zb Z + x30)), (0, .ref (zb Z + t)), (1, .int a1), (2, .int a2)]) rfl (pc' := 56) rfl ?_
        refine S_aload_n dX5_says_56 rfl 2 rfl (pc' := 57) rfl ?_
        refine S_iload dX5_says_57 0 rfl (pc' := 59) rfl ?_
        refine S_invi ml_X5_98 mi_X5_noPerson (ci := 5) ⟨_, rfl, rfl⟩ (by decide) dX5_says_59 [.int (x48 - 10)] rfl (fun v h2 q => c_X5_noPerson Z l _ _ _ q) ⟨Nat.le_of_ble_eq_true rfl, Nat.le_of_ble_eq_true rfl⟩ (rest := []) (Nat.le_of_ble_eq_true rfl) rfl (pc' := 62) rfl (fun x59 h59 => ?_)
        refine S_if_ne dX5_says_62 78 rfl (pc' := 65) rfl (fun g62 => ?_) (fun g62 => ?_)
        · refine S_aload_n dX5_says_78 rfl 2 rfl (pc' := 79) rfl ?_
          refine S_bipush dX5_says_79 (v := (-3)) rfl (pc' := 81) rfl ?_
          refine S_invi ml_X5_58 mi_X5_refuse (ci := 5) ⟨_, rfl, rfl⟩ (by decide) dX5_says_81 [.int (-3)] rfl (fun v h2 q => c_X5_refuse Z l _ _ _ q) ⟨Nat.le_of_ble_eq_true rfl, Nat.le_of_ble_eq_true rfl⟩ (rest := []) (Nat.le_of_ble_eq_true rfl) rfl (pc' := 84) rfl (fun x81 h81 => ?_)
          exact S_iret rfl dX5_says_84
        · refine S_aload_n dX5_says_65 rfl 2 rfl (pc' := 66) rfl ?_
          refine S_getR fl_X5_12 rfl dX5_says_66 (pc' := 69) rfl (fun x66 => ?_)
          refine S_iload dX5_says_69 0 rfl (pc' := 71) rfl ?_
          refine S_iload_n dX5_says_71 rfl 4 rfl (pc' := 72) rfl ?_
          refine S_invi ml_X5_102 mi_X0_isOfKind (ci := 0) ⟨_, rfl, rfl⟩ (by decide) dX5_says_72 [.int (x48 - 10), .int a2] rfl (fun v h2 q => c_X0_isOfKind Z l _ _ _ _ q) ⟨Nat.le_of_ble_eq_true rfl, Nat.le_of_ble_eq_true rfl⟩ (rest := []) (Nat.le_of_ble_eq_true rfl) rfl (pc' := 75) rfl (fun x72 h72 => ?_)
          refine S_if_ne dX5_says_75 85 rfl (pc' := 78) rfl (fun g75 => ?_) (fun g75 => ?_)
          · refine S_iload_n dX5_says_85 rfl 4 rfl (pc' := 86) rfl ?_
            refine S_if_ne dX5_says_86 102 rfl (pc' := 89) rfl (fun g86 => ?_) (fun g86 => ?_)
            · refine S_aload_n dX5_says_102 rfl 2 rfl (pc' := 103) rfl ?_
              refine S_getR fl_X5_12 rfl dX5_says_103 (pc' := 106) rfl (fun x103 => ?_)
              refine S_iload dX5_says_106 0 rfl (pc' := 108) rfl ?_
              refine S_iconst dX5_says_108 (v := 0) rfl (pc' := 109) rfl ?_
              refine S_invi ml_X5_108 mi_X0_holdOn (ci := 0) ⟨_, rfl, rfl⟩ (by decide) dX5_says_109 [.int (x48 - 10), .int 0] rfl (fun v h2 q => c_X0_holdOn Z l _ _ _ _ q) ⟨Nat.le_of_ble_eq_true rfl, Nat.le_of_ble_eq_true rfl⟩ (rest := []) (Nat.le_of_ble_eq_true rfl) rfl (pc' := 112) rfl (fun x109 h109 => ?_)
              exact S_iret rfl dX5_says_112
            · refine S_aload_n dX5_says_89 rfl 2 rfl (pc' := 90) rfl ?_
              refine S_getR fl_X5_12 rfl dX5_says_90 (pc' := 93) rfl (fun x90 => ?_)
              refine S_getR fl_X5_105 rfl dX5_says_93 (pc' := 96) rfl (fun x93 => ?_)
              refine S_iload dX5_says_96 0 rfl (pc' := 98) rfl ?_
              refine S_iaload dX5_says_98 (pc' := 99) rfl (fun x98 => ?_)
              refine S_goto dX5_says_99 112 rfl ?_
              exact S_iret rfl dX5_says_112
          · refine S_aload_n dX5_says_78 rfl 2 rfl (pc' := 79) rfl ?_
            refine S_bipush dX5_says_79 (v := (-3)) rfl (pc' := 81) rfl ?_
            refine S_invi ml_X5_58 mi_X5_refuse (ci := 5) ⟨_, rfl, rfl⟩ (by decide) dX5_says_81 [.int (-3)] rfl (fun v h2 q => c_X5_refuse Z l _ _ _ q) ⟨Nat.le_of_ble_eq_true rfl, Nat.le_of_ble_eq_true rfl⟩ (rest := []) (Nat.le_of_ble_eq_true rfl) rfl (pc' := 84) rfl (fun x81 h81 => ?_)
            exact S_iret rfl dX5_says_84
      · refine S_aload_n dX5_says_40 rfl 1 rfl (pc' := 41) rfl ?_
        refine S_bipush dX5_says_41 (v := (-4)) rfl (pc' := 43) rfl ?_
        refine S_invi ml_X5_58 mi_X5_refuse (ci := 5) ⟨_, rfl, rfl⟩ (by decide) dX5_says_43 [.int (-4)] rfl (fun v h2 q => c_X5_refuse Z l _ _ _ q) ⟨Nat.le_of_ble_eq_true rfl, Nat.le_of_ble_eq_true rfl⟩ (rest := []) (Nat.le_of_ble_eq_true rfl) rfl (pc' := 46) rfl (fun x43 h43 => ?_)
        exact S_iret rfl dX5_says_46
    · refine S_aload_n dX5_says_18 rfl 0 rfl (pc' := 19) rfl ?_
      refine S_bipush dX5_says_19 (v := (-2)) rfl (pc' := 21) rfl ?_
      refine S_invi ml_X5_58 mi_X5_refuse (ci := 5) ⟨_, rfl, rfl⟩ (by decide) dX5_says_21 [.int (-2)] rfl (fun v h2 q => c_X5_refuse Z l _ _ _ q) ⟨Nat.le_of_ble_eq_true rfl, Nat.le_of_ble_eq_true rfl⟩ (rest := []) (Nat.le_of_ble_eq_true rfl) rfl (pc' := 24) rfl (fun x21 h21 => ?_)
      exact S_iret rfl dX5_says_24
theorem dX5_person_0 : decode cX5_person 0 = .ok (.iload_n 1, 1) := by decide +kernel
theorem dX5_person_1 : decode cX5_person 1 = .ok (.bipush 6, 2) := by decide +kernel
theorem dX5_person_3 : decode cX5_person 3 = .ok (.invokestatic 54, 3) := by decide +kernel
theorem dX5_person_6 : decode cX5_person 6 = .ok (.ifCond .ne 31, 3) := by decide +kernel
theorem dX5_person_9 : decode cX5_person 9 = .ok (.iload_n 2, 1) := by decide +kernel
theorem dX5_person_10 : decode cX5_person 10 = .ok (.bipush 10, 2) := by decide +kernel
theorem dX5_person_12 : decode cX5_person 12 = .ok (.invokestatic 54, 3) := by decide +kernel
theorem dX5_person_15 : decode cX5_person 15 = .ok (.ifCond .ne 22, 3) := by decide +kernel
theorem dX5_person_18 : decode cX5_person 18 = .ok (.iload_n 3, 1) := by decide +kernel
theorem dX5_person_19 : decode cX5_person 19 = .ok (.bipush 10, 2) := by decide +kernel
theorem dX5_person_21 : decode cX5_person 21 = .ok (.invokestatic 54, 3) := by decide +kernel
theorem dX5_person_24 : decode cX5_person 24 = .ok (.ifCond .ne 13, 3) := by decide +kernel
theorem dX5_person_27 : decode cX5_person 27 = .ok (.iload 4, 2) := by decide +kernel
theorem dX5_person_29 : decode cX5_person 29 = .ok (.bipush 10, 2) := by decide +kernel
theorem dX5_person_31 : decode cX5_person 31 = .ok (.invokestatic 54, 3) := by decide +kernel
theorem dX5_person_34 : decode cX5_person 34 = .ok (.ifCond .eq 10, 3) := by decide +kernel
theorem dX5_person_37 : decode cX5_person 37 = .ok (.aload_n 0, 1) := by decide +kernel
theorem dX5_person_38 : decode cX5_person 38 = .ok (.bipush (-2), 2) := by decide +kernel
theorem dX5_person_40 : decode cX5_person 40 = .ok (.invokevirtual 58, 3) := by decide +kernel
theorem dX5_person_43 : decode cX5_person 43 = .ok (.ireturn, 1) := by decide +kernel
theorem dX5_person_44 : decode cX5_person 44 = .ok (.aload_n 0, 1) := by decide +kernel
theorem dX5_person_45 : decode cX5_person 45 = .ok (.getfield 12, 3) := by decide +kernel
theorem dX5_person_48 : decode cX5_person 48 = .ok (.getfield 112, 3) := by decide +kernel
theorem dX5_person_51 : decode cX5_person 51 = .ok (.bipush 8, 2) := by decide +kernel
theorem dX5_person_53 : decode cX5_person 53 = .ok (.if_icmp .lt 10, 3) := by decide +kernel
theorem dX5_person_56 : decode cX5_person 56 = .ok (.aload_n 0, 1) := by decide +kernel
theorem dX5_person_57 : decode cX5_person 57 = .ok (.bipush (-6), 2) := by decide +kernel
theorem dX5_person_59 : decode cX5_person 59 = .ok (.invokevirtual 58, 3) := by decide +kernel
theorem dX5_person_62 : decode cX5_person 62 = .ok (.ireturn, 1) := by decide +kernel
theorem dX5_person_63 : decode cX5_person 63 = .ok (.aload_n 0, 1) := by decide +kernel
theorem dX5_person_64 : decode cX5_person 64 = .ok (.getfield 12, 3) := by decide +kernel
theorem dX5_person_67 : decode cX5_person 67 = .ok (.iload_n 1, 1) := by decide +kernel
theorem dX5_person_68 : decode cX5_person 68 = .ok (.iload_n 2, 1) := by decide +kernel
theorem dX5_person_69 : decode cX5_person 69 = .ok (.iload_n 3, 1) := by decide +kernel
theorem dX5_person_70 : decode cX5_person 70 = .ok (.iload 4, 2) := by decide +kernel
theorem dX5_person_72 : decode cX5_person 72 = .ok (.invokevirtual 115, 3) := by decide +kernel
theorem dX5_person_75 : decode cX5_person 75 = .ok (.ireturn, 1) := by decide +kernel
set_option maxRecDepth 100000 in
set_option maxHeartbeats 4000000 in
theorem c_X5_person (Z : ZZ) (l : Launch) (t : Nat) (a1 : Int32) (a2 : Int32) (a3 : Int32) (a4 : Int32) (h : HP) {v : Int32} {h1 : HP} (ho : f_X5_person t a1 a2 a3 a4 h = some (v, h1)) : MetP Z l yX5_person cX5_person 5 (some .int) 3 70 [.ref (zb Z + t), .int a1, .int a2, .int a3, .int a4] h (some (.int v)) h1 := by
  refine MetP_of ho (by decide +kernel) (Nat.le_of_ble_eq_true rfl) [(0, .ref (zb Z + t)), (1, .int a1), (2, .int a2), (3, .int a3), (4, .int a4)] rfl (own := RX5) rfl (nm := "person") rfl ?_
  unfold f_X5_person
  refine S_iload_n dX5_person_0 rfl 1 rfl (pc' := 1) rfl ?_
  refine S_bipush dX5_person_1 (v := 6) rfl (pc' := 3) rfl ?_
  refine S_stai ml_X5_54 ms_X5_outside dX5_person_3 [.int a1, .int 6] rfl (fun v h2 q => c_X5_outside Z l _ _ _ q) ⟨Nat.le_of_ble_eq_true rfl, Nat.le_of_ble_eq_true rfl⟩ (rest := []) (Nat.le_of_ble_eq_true rfl) rfl (pc' := 6) rfl (fun x3 h3 => ?_)
  refine S_if_ne dX5_person_6 37 rfl (pc' := 9) rfl (fun g6 => ?_) (fun g6 => ?_)
  · refine S_aload_n dX5_person_37 rfl 0 rfl (pc' := 38) rfl ?_
    refine S_bipush dX5_person_38 (v := (-2)) rfl (pc' := 40) rfl ?_
    refine S_invi ml_X5_58 mi_X5_refuse (ci := 5) ⟨_, rfl, rfl⟩ (by decide) dX5_person_40 [.int (-2)] rfl (fun v h2 q => c_X5_refuse Z l _ _ _ q) ⟨Nat.le_of_ble_eq_true rfl, Nat.le_of_ble_eq_true rfl⟩ (rest := []) (Nat.le_of_ble_eq_true rfl) rfl (pc' := 43) rfl (fun x40 h40 => ?_)
    exact S_iret rfl dX5_person_43
  · refine S_iload_n dX5_person_9 rfl 2 rfl (pc' := 10) rfl ?_
    refine S_bipush dX5_person_10 (v := 10) rfl (pc' := 12) rfl ?_
    refine S_stai ml_X5_54 ms_X5_outside dX5_person_12 [.int a2, .int 10] rfl (fun v h2 q => c_X5_outside Z l _ _ _ q) ⟨Nat.le_of_ble_eq_true rfl, Nat.le_of_ble_eq_true rfl⟩ (rest := []) (Nat.le_of_ble_eq_true rfl) rfl (pc' := 15) rfl (fun x12 h12 => ?_)
    refine S_if_ne dX5_person_15 37 rfl (pc' := 18) rfl (fun g15 => ?_) (fun g15 => ?_)
    · refine S_aload_n dX5_person_37 rfl 0 rfl (pc' := 38) rfl ?_
      refine S_bipush dX5_person_38 (v := (-2)) rfl (pc' := 40) rfl ?_
      refine S_invi ml_X5_58 mi_X5_refuse (ci := 5) ⟨_, rfl, rfl⟩ (by decide) dX5_person_40 [.int (-2)] rfl (fun v h2 q => c_X5_refuse Z l _ _ _ q) ⟨Nat.le_of_ble_eq_true rfl, Nat.le_of_ble_eq_true rfl⟩ (rest := []) (Nat.le_of_ble_eq_true rfl) rfl (pc' := 43) rfl (fun x40 h40 => ?_)
      exact S_iret rfl dX5_person_43
    · refine S_iload_n dX5_person_18 rfl 3 rfl (pc' := 19) rfl ?_
      refine S_bipush dX5_person_19 (v := 10) rfl (pc' := 21) rfl ?_
      refine S_stai ml_X5_54 ms_X5_outside dX5_person_21 [.int a3, .int 10] rfl (fun v h2 q => c_X5_outside Z l _ _ _ q) ⟨Nat.le_of_ble_eq_true rfl, Nat.le_of_ble_eq_true rfl⟩ (rest := []) (Nat.le_of_ble_eq_true rfl) rfl (pc' := 24) rfl (fun x21 h21 => ?_)
      refine S_if_ne dX5_person_24 37 rfl (pc' := 27) rfl (fun g24 => ?_) (fun g24 => ?_)
      · refine S_aload_n dX5_person_37 rfl 0 rfl (pc' := 38) rfl ?_
        refine S_bipush dX5_person_38 (v := (-2)) rfl (pc' := 40) rfl ?_
        refine S_invi ml_X5_58 mi_X5_refuse (ci := 5) ⟨_, rfl, rfl⟩ (by decide) dX5_person_40 [.int (-2)] rfl (fun v h2 q => c_X5_refuse Z l _ _ _ q) ⟨Nat.le_of_ble_eq_true rfl, Nat.le_of_ble_eq_true rfl⟩ (rest := []) (Nat.le_of_ble_eq_true rfl) rfl (pc' := 43) rfl (fun x40 h40 => ?_)
        exact S_iret rfl dX5_person_43
      · refine S_iload dX5_person_27 4 rfl (pc' := 29) rfl ?_
        refine S_bipush dX5_person_29 (v := 10) rfl (pc' := 31) rfl ?_
        refine S_stai ml_X5_54 ms_X5_outside dX5_person_31 [.int a4, .int 10] rfl (fun v h2 q => c_X5_outside Z l _ _ _ q) ⟨Nat.le_of_ble_eq_true rfl, Nat.le_of_ble_eq_true rfl⟩ (rest := []) (Nat.le_of_ble_eq_true rfl) rfl (pc' := 34) rfl (fun x31 h31 => ?_)
        refine S_if_eq dX5_person_34 44 rfl (pc' := 37) rfl (fun g34 => ?_) (fun g34 => ?_)
        · refine S_aload_n dX5_person_44 rfl 0 rfl (pc' := 45) rfl ?_
          refine S_getR fl_X5_12 rfl dX5_person_45 (pc' := 48) rfl (fun x45 => ?_)
          refine S_getI fl_X5_112 rfl dX5_person_48 (pc' := 51) rfl (fun x48 => ?_)
          refine S_bipush dX5_person_51 (v := 8) rfl (pc' := 53) rfl ?_
          refine S_icmp_lt dX5_person_53 63 rfl (pc' := 56) rfl (fun g53 => ?_) (fun g53 => ?_)
          · refine S_aload_n dX5_person_63 rfl 0 rfl (pc' := 64) rfl ?_
            refine S_getR fl_X5_12 rfl dX5_person_64 (pc' := 67) rfl (fun x64 => ?_)
            refine S_iload_n dX5_person_67 rfl 1 rfl (pc' := 68) rfl ?_
            refine S_iload_n dX5_person_68 rfl 2 rfl (pc' := 69) rfl ?_
            refine S_iload_n dX5_person_69 rfl 3 rfl (pc' := 70) rfl ?_
            refine S_iload dX5_person_70 4 rfl (pc' := 72) rfl ?_
            refine S_invi ml_X5_115 mi_X0_addPerson (ci := 0) ⟨_, rfl, rfl⟩ (by decide) dX5_person_72 [.int a1, .int a2, .int a3, .int a4] rfl (fun v h2 q => c_X0_addPerson Z l _ _ _ _ _ _ q) ⟨Nat.le_of_ble_eq_true rfl, Nat.le_of_ble_eq_true rfl⟩ (rest := []) (Nat.le_of_ble_eq_true rfl) rfl (pc' := 75) rfl (fun x72 h72 => ?_)
            exact S_iret rfl dX5_person_75
          · refine S_aload_n dX5_person_56 rfl 0 rfl (pc' := 57) rfl ?_
            refine S_bipush dX5_person_57 (v := (-6)) rfl (pc' := 59) rfl ?_
            refine S_invi ml_X5_58 mi_X5_refuse (ci := 5) ⟨_, rfl, rfl⟩ (by decide) dX5_person_59 [.int (-6)] rfl (fun v h2 q => c_X5_refuse Z l _ _ _ q) ⟨Nat.le_of_ble_eq_true rfl, Nat.le_of_ble_eq_true rfl⟩ (rest := []) (Nat.le_of_ble_eq_true rfl) rfl (pc' := 62) rfl (fun x59 h59 => ?_)
            exact S_iret rfl dX5_person_62
        · refine S_aload_n dX5_person_37 rfl 0 rfl (pc' := 38) rfl ?_
          refine S_bipush dX5_person_38 (v := (-2)) rfl (pc' := 40) rfl ?_
          refine S_invi ml_X5_58 mi_X5_refuse (ci := 5) ⟨_, rfl, rfl⟩ (by decide) dX5_person_40 [.int (-2)] rfl (fun v h2 q => c_X5_refuse Z l _ _ _ q) ⟨Nat.le_of_ble_eq_true rfl, Nat.le_of_ble_eq_true rfl⟩ (rest := []) (Nat.le_of_ble_eq_true rfl) rfl (pc' := 43) rfl (fun x40 h40 => ?_)
          exact S_iret rfl dX5_person_43
theorem dX5_song_0 : decode cX5_song 0 = .ok (.iload_n 1, 1) := by decide +kernel
theorem dX5_song_1 : decode cX5_song 1 = .ok (.bipush 10, 2) := by decide +kernel
theorem dX5_song_3 : decode cX5_song 3 = .ok (.invokestatic 54, 3) := by decide +kernel
theorem dX5_song_6 : decode cX5_song 6 = .ok (.ifCond .ne 11, 3) := by decide +kernel
theorem dX5_song_9 : decode cX5_song 9 = .ok (.iload_n 2, 1) := by decide +kernel
theorem dX5_song_10 : decode cX5_song 10 = .ok (.iconst 5, 1) := by decide +kernel
theorem dX5_song_11 : decode cX5_song 11 = .ok (.invokestatic 54, 3) := by decide +kernel
theorem dX5_song_14 : decode cX5_song 14 = .ok (.ifCond .eq 10, 3) := by decide +kernel
theorem dX5_song_17 : decode cX5_song 17 = .ok (.aload_n 0, 1) := by decide +kernel
theorem dX5_song_18 : decode cX5_song 18 = .ok (.bipush (-2), 2) := by decide +kernel
theorem dX5_song_20 : decode cX5_song 20 = .ok (.invokevirtual 58, 3) := by decide +kernel
theorem dX5_song_23 : decode cX5_song 23 = .ok (.ireturn, 1) := by decide +kernel
theorem dX5_song_24 : decode cX5_song 24 = .ok (.aload_n 0, 1) := by decide +kernel
theorem dX5_song_25 : decode cX5_song 25 = .ok (.getfield 12, 3) := by decide +kernel
theorem dX5_song_28 : decode cX5_song 28 = .ok (.getfield 119, 3) := by decide +kernel
theorem dX5_song_31 : decode cX5_song 31 = .ok (.bipush 6, 2) := by decide +kernel
theorem dX5_song_33 : decode cX5_song 33 = .ok (.if_icmp .lt 10, 3) := by decide +kernel
theorem dX5_song_36 : decode cX5_song 36 = .ok (.aload_n 0, 1) := by decide +kernel
theorem dX5_song_37 : decode cX5_song 37 = .ok (.bipush (-6), 2) := by decide +kernel
theorem dX5_song_39 : decode cX5_song 39 = .ok (.invokevirtual 58, 3) := by decide +kernel
theorem dX5_song_42 : decode cX5_song 42 = .ok (.ireturn, 1) := by decide +kernel
theorem dX5_song_43 : decode cX5_song 43 = .ok (.aload_n 0, 1) := by decide +kernel
theorem dX5_song_44 : decode cX5_song 44 = .ok (.getfield 12, 3) := by decide +kernel
theorem dX5_song_47 : decode cX5_song 47 = .ok (.iload_n 1, 1) := by decide +kernel
theorem dX5_song_48 : decode cX5_song 48 = .ok (.iload_n 2, 1) := by decide +kernel
theorem dX5_song_49 : decode cX5_song 49 = .ok (.invokevirtual 122, 3) := by decide +kernel
theorem dX5_song_52 : decode cX5_song 52 = .ok (.ireturn, 1) := by decide +kernel
set_option maxRecDepth 100000 in
set_option maxHeartbeats 4000000 in
theorem c_X5_song (Z : ZZ) (l : Launch) (t : Nat) (a1 : Int32) (a2 : Int32) (h : HP) {v : Int32} {h1 : HP} (ho : f_X5_song t a1 a2 h = some (v, h1)) : MetP Z l yX5_song cX5_song 3 (some .int) 2 47 [.ref (zb Z + t), .int a1, .int a2] h (some (.int v)) h1 := by
  refine MetP_of ho (by decide +kernel) (Nat.le_of_ble_eq_true rfl) [(0, .ref (zb Z + t)), (1, .int a1), (2, .int a2)] rfl (own := RX5) rfl (nm := "song") rfl ?_
  unfold f_X5_song
  refine S_iload_n dX5_song_0 rfl 1 rfl (pc' := 1) rfl ?_
  refine S_bipush dX5_song_1 (v := 10) rfl (pc' := 3) rfl ?_
  refine S_stai ml_X5_54 ms_X5_outside dX5_song_3 [.int a1, .int 10] rfl (fun v h2 q => c_X5_outside Z l _ _ _ q) ⟨Nat.le_of_ble_eq_true rfl, Nat.le_of_ble_eq_true rfl⟩ (rest := []) (Nat.le_of_ble_eq_true rfl) rfl (pc' := 6) rfl (fun x3 h3 => ?_)
  refine S_if_ne dX5_song_6 17 rfl (pc' := 9) rfl (fun g6 => ?_) (fun g6 => ?_)
  · refine S_aload_n dX5_song_17 rfl 0 rfl (pc' := 18) rfl ?_
    refine S_bipush dX5_song_18 (v := (-2)) rfl (pc' := 20) rfl ?_
    refine S_invi ml_X5_58 mi_X5_refuse (ci := 5) ⟨_, rfl, rfl⟩ (by decide) dX5_song_20 [.int (-2)] rfl (fun v h2 q => c_X5_refuse Z l _ _ _ q) ⟨Nat.le_of_ble_eq_true rfl, Nat.le_of_ble_eq_true rfl⟩ (rest := []) (Nat.le_of_ble_eq_true rfl) rfl (pc' := 23) rfl (fun x20 h20 => ?_)
    exact S_iret rfl dX5_song_23
  · refine S_iload_n dX5_song_9 rfl 2 rfl (pc' := 10) rfl ?_
    refine S_iconst dX5_song_10 (v := 5) rfl (pc' := 11) rfl ?_
    refine S_stai ml_X5_54 ms_X5_outside dX5_song_11 [.int a2, .int 5] rfl (fun v h2 q => c_X5_outside Z l _ _ _ q) ⟨Nat.le_of_ble_eq_true rfl, Nat.le_of_ble_eq_true rfl⟩ (rest := []) (Nat.le_of_ble_eq_true rfl) rfl (pc' := 14) rfl (fun x11 h11 => ?_)
    refine S_if_eq dX5_song_14 24 rfl (pc' := 17) rfl (fun g14 => ?_) (fun g14 => ?_)
    · refine S_aload_n dX5_song_24 rfl 0 rfl (pc' := 25) rfl ?_
      refine S_getR fl_X5_12 rfl dX5_song_25 (pc' := 28) rfl (fun x25 => ?_)
      refine S_getI fl_X5_119 rfl dX5_song_28 (pc' := 31) rfl (fun x28 => ?_)
      refine S_bipush dX5_song_31 (v := 6) rfl (pc' := 33) rfl ?_
      refine S_icmp_lt dX5_song_33 43 rfl (pc' := 36) rfl (fun g33 => ?_) (fun g33 => ?_)
      · refine S_aload_n dX5_song_43 rfl 0 rfl (pc' := 44) rfl ?_
        refine S_getR fl_X5_12 rfl dX5_song_44 (pc' := 47) rfl (fun x44 => ?_)
        refine S_iload_n dX5_song_47 rfl 1 rfl (pc' := 48) rfl ?_
        refine S_iload_n dX5_song_48 rfl 2 rfl (pc' := 49) rfl ?_
        refine S_invi ml_X5_122 mi_X0_addSong (ci := 0) ⟨_, rfl, rfl⟩ (by decide) dX5_song_49 [.int a1, .int a2] rfl (fun v h2 q => c_X0_addSong Z l _ _ _ _ q) ⟨Nat.le_of_ble_eq_true rfl, Nat.le_of_ble_eq_true rfl⟩ (rest := []) (Nat.le_of_ble_eq_true rfl) rfl (pc' := 52) rfl (fun x49 h49 => ?_)
        exact S_iret rfl dX5_song_52
      · refine S_aload_n dX5_song_36 rfl 0 rfl (pc' := 37) rfl ?_
        refine S_bipush dX5_song_37 (v := (-6)) rfl (pc' := 39) rfl ?_
        refine S_invi ml_X5_58 mi_X5_refuse (ci := 5) ⟨_, rfl, rfl⟩ (by decide) dX5_song_39 [.int (-6)] rfl (fun v h2 q => c_X5_refuse Z l _ _ _ q) ⟨Nat.le_of_ble_eq_true rfl, Nat.le_of_ble_eq_true rfl⟩ (rest := []) (Nat.le_of_ble_eq_true rfl) rfl (pc' := 42) rfl (fun x39 h39 => ?_)
        exact S_iret rfl dX5_song_42
    · refine S_aload_n dX5_song_17 rfl 0 rfl (pc' := 18) rfl ?_
      refine S_bipush dX5_song_18 (v := (-2)) rfl (pc' := 20) rfl ?_
      refine S_invi ml_X5_58 mi_X5_refuse (ci := 5) ⟨_, rfl, rfl⟩ (by decide) dX5_song_20 [.int (-2)] rfl (fun v h2 q => c_X5_refuse Z l _ _ _ q) ⟨Nat.le_of_ble_eq_true rfl, Nat.le_of_ble_eq_true rfl⟩ (rest := []) (Nat.le_of_ble_eq_true rfl) rfl (pc' := 23) rfl (fun x20 h20 => ?_)
      exact S_iret rfl dX5_song_23
theorem dX5_give_0 : decode cX5_give 0 = .ok (.aload_n 0, 1) := by decide +kernel
theorem dX5_give_1 : decode cX5_give 1 = .ok (.iload_n 1, 1) := by decide +kernel
theorem dX5_give_2 : decode cX5_give 2 = .ok (.invokevirtual 98, 3) := by decide +kernel
theorem dX5_give_5 : decode cX5_give 5 = .ok (.ifCond .ne 29, 3) := by decide +kernel
theorem dX5_give_8 : decode cX5_give 8 = .ok (.iload_n 2, 1) := by decide +kernel
theorem dX5_give_9 : decode cX5_give 9 = .ok (.iconst 3, 1) := by decide +kernel
theorem dX5_give_10 : decode cX5_give 10 = .ok (.invokestatic 54, 3) := by decide +kernel
theorem dX5_give_13 : decode cX5_give 13 = .ok (.ifCond .ne 21, 3) := by decide +kernel
theorem dX5_give_16 : decode cX5_give 16 = .ok (.iload_n 3, 1) := by decide +kernel
theorem dX5_give_17 : decode cX5_give 17 = .ok (.iload_n 2, 1) := by decide +kernel
theorem dX5_give_18 : decode cX5_give 18 = .ok (.iconst 2, 1) := by decide +kernel
theorem dX5_give_19 : decode cX5_give 19 = .ok (.if_icmp .ne 7, 3) := by decide +kernel
theorem dX5_give_22 : decode cX5_give 22 = .ok (.iconst 2, 1) := by decide +kernel
theorem dX5_give_23 : decode cX5_give 23 = .ok (.goto 5, 3) := by decide +kernel
theorem dX5_give_26 : decode cX5_give 26 = .ok (.bipush 10, 2) := by decide +kernel
theorem dX5_give_28 : decode cX5_give 28 = .ok (.invokestatic 54, 3) := by decide +kernel
theorem dX5_give_31 : decode cX5_give 31 = .ok (.ifCond .eq 10, 3) := by decide +kernel
theorem dX5_give_34 : decode cX5_give 34 = .ok (.aload_n 0, 1) := by decide +kernel
theorem dX5_give_35 : decode cX5_give 35 = .ok (.bipush (-2), 2) := by decide +kernel
theorem dX5_give_37 : decode cX5_give 37 = .ok (.invokevirtual 58, 3) := by decide +kernel
theorem dX5_give_40 : decode cX5_give 40 = .ok (.ireturn, 1) := by decide +kernel
theorem dX5_give_41 : decode cX5_give 41 = .ok (.iload_n 2, 1) := by decide +kernel
theorem dX5_give_42 : decode cX5_give 42 = .ok (.ifCond .ne 27, 3) := by decide +kernel
theorem dX5_give_45 : decode cX5_give 45 = .ok (.aload_n 0, 1) := by decide +kernel
theorem dX5_give_46 : decode cX5_give 46 = .ok (.getfield 12, 3) := by decide +kernel
theorem dX5_give_49 : decode cX5_give 49 = .ok (.getfield 105, 3) := by decide +kernel
theorem dX5_give_52 : decode cX5_give 52 = .ok (.iload_n 1, 1) := by decide +kernel
theorem dX5_give_53 : decode cX5_give 53 = .ok (.iaload, 1) := by decide +kernel
theorem dX5_give_54 : decode cX5_give 54 = .ok (.istore 4, 2) := by decide +kernel
theorem dX5_give_56 : decode cX5_give 56 = .ok (.aload_n 0, 1) := by decide +kernel
theorem dX5_give_57 : decode cX5_give 57 = .ok (.getfield 12, 3) := by decide +kernel
theorem dX5_give_60 : decode cX5_give 60 = .ok (.getfield 105, 3) := by decide +kernel
theorem dX5_give_63 : decode cX5_give 63 = .ok (.iload_n 1, 1) := by decide +kernel
theorem dX5_give_64 : decode cX5_give 64 = .ok (.iload_n 3, 1) := by decide +kernel
theorem dX5_give_65 : decode cX5_give 65 = .ok (.iastore, 1) := by decide +kernel
theorem dX5_give_66 : decode cX5_give 66 = .ok (.goto 63, 3) := by decide +kernel
theorem dX5_give_69 : decode cX5_give 69 = .ok (.iload_n 2, 1) := by decide +kernel
theorem dX5_give_70 : decode cX5_give 70 = .ok (.iconst 1, 1) := by decide +kernel
theorem dX5_give_71 : decode cX5_give 71 = .ok (.if_icmp .ne 27, 3) := by decide +kernel
theorem dX5_give_74 : decode cX5_give 74 = .ok (.aload_n 0, 1) := by decide +kernel
theorem dX5_give_75 : decode cX5_give 75 = .ok (.getfield 12, 3) := by decide +kernel
theorem dX5_give_78 : decode cX5_give 78 = .ok (.getfield 125, 3) := by decide +kernel
theorem dX5_give_81 : decode cX5_give 81 = .ok (.iload_n 1, 1) := by decide +kernel
theorem dX5_give_82 : decode cX5_give 82 = .ok (.iaload, 1) := by decide +kernel
theorem dX5_give_83 : decode cX5_give 83 = .ok (.istore 4, 2) := by decide +kernel
theorem dX5_give_85 : decode cX5_give 85 = .ok (.aload_n 0, 1) := by decide +kernel
theorem dX5_give_86 : decode cX5_give 86 = .ok (.getfield 12, 3) := by decide +kernel
theorem dX5_give_89 : decode cX5_give 89 = .ok (.getfield 125, 3) := by decide +kernel
theorem dX5_give_92 : decode cX5_give 92 = .ok (.iload_n 1, 1) := by decide +kernel
theorem dX5_give_93 : decode cX5_give 93 = .ok (.iload_n 3, 1) := by decide +kernel
theorem dX5_give_94 : decode cX5_give 94 = .ok (.iastore, 1) := by decide +kernel
theorem dX5_give_95 : decode cX5_give 95 = .ok (.goto 34, 3) := by decide +kernel
theorem dX5_give_98 : decode cX5_give 98 = .ok (.aload_n 0, 1) := by decide +kernel
theorem dX5_give_99 : decode cX5_give 99 = .ok (.getfield 12, 3) := by decide +kernel
theorem dX5_give_102 : decode cX5_give 102 = .ok (.getfield 128, 3) := by decide +kernel
theorem dX5_give_105 : decode cX5_give 105 = .ok (.iload_n 1, 1) := by decide +kernel
theorem dX5_give_106 : decode cX5_give 106 = .ok (.ishr, 1) := by decide +kernel
theorem dX5_give_107 : decode cX5_give 107 = .ok (.iconst 1, 1) := by decide +kernel
theorem dX5_give_108 : decode cX5_give 108 = .ok (.iand, 1) := by decide +kernel
theorem dX5_give_109 : decode cX5_give 109 = .ok (.istore 4, 2) := by decide +kernel
theorem dX5_give_111 : decode cX5_give 111 = .ok (.aload_n 0, 1) := by decide +kernel
theorem dX5_give_112 : decode cX5_give 112 = .ok (.getfield 12, 3) := by decide +kernel
theorem dX5_give_115 : decode cX5_give 115 = .ok (.iload_n 1, 1) := by decide +kernel
theorem dX5_give_116 : decode cX5_give 116 = .ok (.iload_n 3, 1) := by decide +kernel
theorem dX5_give_117 : decode cX5_give 117 = .ok (.iconst 1, 1) := by decide +kernel
theorem dX5_give_118 : decode cX5_give 118 = .ok (.if_icmp .ne 7, 3) := by decide +kernel
theorem dX5_give_121 : decode cX5_give 121 = .ok (.iconst 1, 1) := by decide +kernel
theorem dX5_give_122 : decode cX5_give 122 = .ok (.goto 4, 3) := by decide +kernel
theorem dX5_give_125 : decode cX5_give 125 = .ok (.iconst 0, 1) := by decide +kernel
theorem dX5_give_126 : decode cX5_give 126 = .ok (.invokevirtual 131, 3) := by decide +kernel
theorem dX5_give_129 : decode cX5_give 129 = .ok (.iload 4, 2) := by decide +kernel
theorem dX5_give_131 : decode cX5_give 131 = .ok (.ireturn, 1) := by decide +kernel
set_option maxRecDepth 100000 in
set_option maxHeartbeats 4000000 in
theorem c_X5_give (Z : ZZ) (l : Launch) (t : Nat) (a1 : Int32) (a2 : Int32) (a3 : Int32) (h : HP) {v : Int32} {h1 : HP} (ho : f_X5_give t a1 a2 a3 h = some (v, h1)) : MetP Z l yX5_give cX5_give 5 (some .int) 2 44 [.ref (zb Z + t), .int a1, .int a2, .int a3] h (some (.int v)) h1 := by
  refine MetP_of ho (by decide +kernel) (Nat.le_of_ble_eq_true rfl) [(0, .ref (zb Z + t)), (1, .int a1), (2, .int a2), (3, .int a3)] rfl (own := RX5) rfl (nm := "give") rfl ?_
  unfold f_X5_give
  refine S_aload_n dX5_give_0 rfl 0 rfl (pc' := 1) rfl ?_
  refine S_iload_n dX5_give_1 rfl 1 rfl (pc' := 2) rfl ?_
  refine S_invi ml_X5_98 mi_X5_noPerson (ci := 5) ⟨_, rfl, rfl⟩ (by decide) dX5_give_2 [.int a1] rfl (fun v h2 q => c_X5_noPerson Z l _ _ _ q) ⟨Nat.le_of_ble_eq_true rfl, Nat.le_of_ble_eq_true rfl⟩ (rest := []) (Nat.le_of_ble_eq_true rfl) rfl (pc' := 5) rfl (fun x2 h2 => ?_)
  refine S_if_ne dX5_give_5 34 rfl (pc' := 8) rfl (fun g5 => ?_) (fun g5 => ?_)
  · refine S_aload_n dX5_give_34 rfl 0 rfl (pc' := 35) rfl ?_
    refine S_bipush dX5_give_35 (v := (-2)) rfl (pc' := 37) rfl ?_
    refine S_invi ml_X5_58 mi_X5_refuse (ci := 5) ⟨_, rfl, rfl⟩ (by decide) dX5_give_37 [.int (-2)] rfl (fun v h2 q => c_X5_refuse Z l _ _ _ q) ⟨Nat.le_of_ble_eq_true rfl, Nat.le_of_ble_eq_true rfl⟩ (rest := []) (Nat.le_of_ble_eq_true rfl) rfl (pc' := 40) rfl (fun x37 h37 => ?_)
    exact S_iret rfl dX5_give_40
  · refine S_iload_n dX5_give_8 rfl 2 rfl (pc' := 9) rfl ?_
    refine S_iconst dX5_give_9 (v := 3) rfl (pc' := 10) rfl ?_
    refine S_stai ml_X5_54 ms_X5_outside dX5_give_10 [.int a2, .int 3] rfl (fun v h2 q => c_X5_outside Z l _ _ _ q) ⟨Nat.le_of_ble_eq_true rfl, Nat.le_of_ble_eq_true rfl⟩ (rest := []) (Nat.le_of_ble_eq_true rfl) rfl (pc' := 13) rfl (fun x10 h10 => ?_)
    refine S_if_ne dX5_give_13 34 rfl (pc' := 16) rfl (fun g13 => ?_) (fun g13 => ?_)
    · refine S_aload_n dX5_give_34 rfl 0 rfl (pc' := 35) rfl ?_
      refine S_bipush dX5_give_35 (v := (-2)) rfl (pc' := 37) rfl ?_
      refine S_invi ml_X5_58 mi_X5_refuse (ci := 5) ⟨_, rfl, rfl⟩ (by decide) dX5_give_37 [.int (-2)] rfl (fun v h2 q => c_X5_refuse Z l _ _ _ q) ⟨Nat.le_of_ble_eq_true rfl, Nat.le_of_ble_eq_true rfl⟩ (rest := []) (Nat.le_of_ble_eq_true rfl) rfl (pc' := 40) rfl (fun x37 h37 => ?_)
      exact S_iret rfl dX5_give_40
    · refine S_iload_n dX5_give_16 rfl 3 rfl (pc' := 17) rfl ?_
      refine S_iload_n dX5_give_17 rfl 2 rfl (pc' := 18) rfl ?_
      refine S_iconst dX5_give_18 (v := 2) rfl (pc' := 19) rfl ?_
      refine S_icmp_ne dX5_give_19 26 rfl (pc' := 22) rfl (fun g19 => ?_) (fun g19 => ?_)
      · refine S_bipush dX5_give_26 (v := 10) rfl (pc' := 28) rfl ?_
        refine S_stai ml_X5_54 ms_X5_outside dX5_give_28 [.int a3, .int 10] rfl (fun v h2 q => c_X5_outside Z l _ _ _ q) ⟨Nat.le_of_ble_eq_true rfl, Nat.le_of_ble_eq_true rfl⟩ (rest := []) (Nat.le_of_ble_eq_true rfl) rfl (pc' := 31) rfl (fun x28 h28 => ?_)
        refine S_if_eq dX5_give_31 41 rfl (pc' := 34) rfl (fun g31 => ?_) (fun g31 => ?_)
        · refine S_iload_n dX5_give_41 rfl 2 rfl (pc' := 42) rfl ?_
          refine S_if_ne dX5_give_42 69 rfl (pc' := 45) rfl (fun g42 => ?_) (fun g42 => ?_)
          · refine S_iload_n dX5_give_69 rfl 2 rfl (pc' := 70) rfl ?_
            refine S_iconst dX5_give_70 (v := 1) rfl (pc' := 71) rfl ?_
            refine S_icmp_ne dX5_give_71 98 rfl (pc' := 74) rfl (fun g71 => ?_) (fun g71 => ?_)
            · refine S_aload_n dX5_give_98 rfl 0 rfl (pc' := 99) rfl ?_
              refine S_getR fl_X5_12 rfl dX5_give_99 (pc' := 102) rfl (fun x99 => ?_)
              refine S_getI fl_X5_128 rfl dX5_give_102 (pc' := 105) rfl (fun x102 => ?_)
              refine S_iload_n dX5_give_105 rfl 1 rfl (pc' := 106) rfl ?_
              refine S_ishr dX5_give_106 (pc' := 107) rfl ?_
              refine S_iconst dX5_give_107 (v := 1) rfl (pc' := 108) rfl ?_
              refine S_iand dX5_give_108 (pc' := 109) rfl ?_
              refine S_istore dX5_give_109 (by decide) (lo' := [(4, .int ((x102 >>> (a1 &&& 31)) &&& 1)), (0, .ref (zb Z + t)), (1, .int a1), (2, .int a2), (3, .int a3)]) rfl (pc' := 111) rfl ?_
              refine S_aload_n dX5_give_111 rfl 1 rfl (pc' := 112) rfl ?_
              refine S_getR fl_X5_12 rfl dX5_give_112 (pc' := 115) rfl (fun x112 => ?_)
              refine S_iload_n dX5_give_115 rfl 2 rfl (pc' := 116) rfl ?_
              refine S_iload_n dX5_give_116 rfl 4 rfl (pc' := 117) rfl ?_
              refine S_iconst dX5_give_117 (v := 1) rfl (pc' := 118) rfl ?_
              refine S_icmp_ne dX5_give_118 125 rfl (pc' := 121) rfl (fun g118 => ?_) (fun g118 => ?_)
              · refine S_iconst dX5_give_125 (v := 0) rfl (pc' := 126) rfl ?_
                refine S_invv ml_X5_131 mi_X0_setHums (ci := 0) ⟨_, rfl, rfl⟩ (by decide) dX5_give_126 [.int a1, .int 0] rfl (fun v h2 q => c_X0_setHums Z l _ _ _ _ q) ⟨Nat.le_of_ble_eq_true rfl, Nat.le_of_ble_eq_true rfl⟩ (rest := []) (Nat.le_of_ble_eq_true rfl) rfl (pc' := 129) rfl (fun _ h126 => ?_)
                refine S_iload dX5_give_129 0 rfl (pc' := 131) rfl ?_
                exact S_iret rfl dX5_give_131
              · refine S_iconst dX5_give_121 (v := 1) rfl (pc' := 122) rfl ?_
                refine S_goto dX5_give_122 126 rfl ?_
                refine S_invv ml_X5_131 mi_X0_setHums (ci := 0) ⟨_, rfl, rfl⟩ (by decide) dX5_give_126 [.int a1, .int 1] rfl (fun v h2 q => c_X0_setHums Z l _ _ _ _ q) ⟨Nat.le_of_ble_eq_true rfl, Nat.le_of_ble_eq_true rfl⟩ (rest := []) (Nat.le_of_ble_eq_true rfl) rfl (pc' := 129) rfl (fun _ h126 => ?_)
                refine S_iload dX5_give_129 0 rfl (pc' := 131) rfl ?_
                exact S_iret rfl dX5_give_131
            · refine S_aload_n dX5_give_74 rfl 0 rfl (pc' := 75) rfl ?_
              refine S_getR fl_X5_12 rfl dX5_give_75 (pc' := 78) rfl (fun x75 => ?_)
              refine S_getR fl_X5_125 rfl dX5_give_78 (pc' := 81) rfl (fun x78 => ?_)
              refine S_iload_n dX5_give_81 rfl 1 rfl (pc' := 82) rfl ?_
              refine S_iaload dX5_give_82 (pc' := 83) rfl (fun x82 => ?_)
              refine S_istore dX5_give_83 (by decide) (lo' := [(4, .int x82), (0, .ref (zb Z + t)), (1, .int a1), (2, .int a2), (3, .int a3)]) rfl (pc' := 85) rfl ?_
              refine S_aload_n dX5_give_85 rfl 1 rfl (pc' := 86) rfl ?_
              refine S_getR fl_X5_12 rfl dX5_give_86 (pc' := 89) rfl (fun x86 => ?_)
              refine S_getR fl_X5_125 rfl dX5_give_89 (pc' := 92) rfl (fun x89 => ?_)
              refine S_iload_n dX5_give_92 rfl 2 rfl (pc' := 93) rfl ?_
              refine S_iload_n dX5_give_93 rfl 4 rfl (pc' := 94) rfl ?_
              refine S_iastore dX5_give_94 (pc' := 95) rfl (fun h94 => ?_)
              refine S_goto dX5_give_95 129 rfl ?_
              refine S_iload dX5_give_129 0 rfl (pc' := 131) rfl ?_
              exact S_iret rfl dX5_give_131
          · refine S_aload_n dX5_give_45 rfl 0 rfl (pc' := 46) rfl ?_
            refine S_getR fl_X5_12 rfl dX5_give_46 (pc' := 49) rfl (fun x46 => ?_)
            refine S_getR fl_X5_105 rfl dX5_give_49 (pc' := 52) rfl (fun x49 => ?_)
            refine S_iload_n dX5_give_52 rfl 1 rfl (pc' := 53) rfl ?_
            refine S_iaload dX5_give_53 (pc' := 54) rfl (fun x53 => ?_)
            refine S_istore dX5_give_54 (by decide) (lo' := [(4, .int x53), (0, .ref (zb Z + t)), (1, .int a1), (2, .int a2), (3, .int a3)]) rfl (pc' := 56) rfl ?_
            refine S_aload_n dX5_give_56 rfl 1 rfl (pc' := 57) rfl ?_
            refine S_getR fl_X5_12 rfl dX5_give_57 (pc' := 60) rfl (fun x57 => ?_)
            refine S_getR fl_X5_105 rfl dX5_give_60 (pc' := 63) rfl (fun x60 => ?_)
            refine S_iload_n dX5_give_63 rfl 2 rfl (pc' := 64) rfl ?_
            refine S_iload_n dX5_give_64 rfl 4 rfl (pc' := 65) rfl ?_
            refine S_iastore dX5_give_65 (pc' := 66) rfl (fun h65 => ?_)
            refine S_goto dX5_give_66 129 rfl ?_
            refine S_iload dX5_give_129 0 rfl (pc' := 131) rfl ?_
            exact S_iret rfl dX5_give_131
        · refine S_aload_n dX5_give_34 rfl 0 rfl (pc' := 35) rfl ?_
          refine S_bipush dX5_give_35 (v := (-2)) rfl (pc' := 37) rfl ?_
          refine S_invi ml_X5_58 mi_X5_refuse (ci := 5) ⟨_, rfl, rfl⟩ (by decide) dX5_give_37 [.int (-2)] rfl (fun v h2 q => c_X5_refuse Z l _ _ _ q) ⟨Nat.le_of_ble_eq_true rfl, Nat.le_of_ble_eq_true rfl⟩ (rest := []) (Nat.le_of_ble_eq_true rfl) rfl (pc' := 40) rfl (fun x37 h37 => ?_)
          exact S_iret rfl dX5_give_40
      · refine S_iconst dX5_give_22 (v := 2) rfl (pc' := 23) rfl ?_
        refine S_goto dX5_give_23 28 rfl ?_
        refine S_stai ml_X5_54 ms_X5_outside dX5_give_28 [.int a3, .int 2] rfl (fun v h2 q => c_X5_outside Z l _ _ _ q) ⟨Nat.le_of_ble_eq_true rfl, Nat.le_of_ble_eq_true rfl⟩ (rest := []) (Nat.le_of_ble_eq_true rfl) rfl (pc' := 31) rfl (fun x28 h28 => ?_)
        refine S_if_eq dX5_give_31 41 rfl (pc' := 34) rfl (fun g31 => ?_) (fun g31 => ?_)
        · refine S_iload_n dX5_give_41 rfl 2 rfl (pc' := 42) rfl ?_
          refine S_if_ne_J dX5_give_42 69 rfl (pc' := 45) rfl (fun q9 => absurd (g19.symm.trans q9) (by decide)) ?_
          refine S_iload_n dX5_give_69 rfl 2 rfl (pc' := 70) rfl ?_
          refine S_iconst dX5_give_70 (v := 1) rfl (pc' := 71) rfl ?_
          refine S_icmp_ne_J dX5_give_71 98 rfl (pc' := 74) rfl (fun q9 => absurd (g19.symm.trans q9) (by decide)) ?_
          refine S_aload_n dX5_give_98 rfl 0 rfl (pc' := 99) rfl ?_
          refine S_getR fl_X5_12 rfl dX5_give_99 (pc' := 102) rfl (fun x99 => ?_)
          refine S_getI fl_X5_128 rfl dX5_give_102 (pc' := 105) rfl (fun x102 => ?_)
          refine S_iload_n dX5_give_105 rfl 1 rfl (pc' := 106) rfl ?_
          refine S_ishr dX5_give_106 (pc' := 107) rfl ?_
          refine S_iconst dX5_give_107 (v := 1) rfl (pc' := 108) rfl ?_
          refine S_iand dX5_give_108 (pc' := 109) rfl ?_
          refine S_istore dX5_give_109 (by decide) (lo' := [(4, .int ((x102 >>> (a1 &&& 31)) &&& 1)), (0, .ref (zb Z + t)), (1, .int a1), (2, .int a2), (3, .int a3)]) rfl (pc' := 111) rfl ?_
          refine S_aload_n dX5_give_111 rfl 1 rfl (pc' := 112) rfl ?_
          refine S_getR fl_X5_12 rfl dX5_give_112 (pc' := 115) rfl (fun x112 => ?_)
          refine S_iload_n dX5_give_115 rfl 2 rfl (pc' := 116) rfl ?_
          refine S_iload_n dX5_give_116 rfl 4 rfl (pc' := 117) rfl ?_
          refine S_iconst dX5_give_117 (v := 1) rfl (pc' := 118) rfl ?_
          refine S_icmp_ne dX5_give_118 125 rfl (pc' := 121) rfl (fun g118 => ?_) (fun g118 => ?_)
          · refine S_iconst dX5_give_125 (v := 0) rfl (pc' := 126) rfl ?_
            refine S_invv ml_X5_131 mi_X0_setHums (ci := 0) ⟨_, rfl, rfl⟩ (by decide) dX5_give_126 [.int a1, .int 0] rfl (fun v h2 q => c_X0_setHums Z l _ _ _ _ q) ⟨Nat.le_of_ble_eq_true rfl, Nat.le_of_ble_eq_true rfl⟩ (rest := []) (Nat.le_of_ble_eq_true rfl) rfl (pc' := 129) rfl (fun _ h126 => ?_)
            refine S_iload dX5_give_129 0 rfl (pc' := 131) rfl ?_
            exact S_iret rfl dX5_give_131
          · refine S_iconst dX5_give_121 (v := 1) rfl (pc' := 122) rfl ?_
            refine S_goto dX5_give_122 126 rfl ?_
            refine S_invv ml_X5_131 mi_X0_setHums (ci := 0) ⟨_, rfl, rfl⟩ (by decide) dX5_give_126 [.int a1, .int 1] rfl (fun v h2 q => c_X0_setHums Z l _ _ _ _ q) ⟨Nat.le_of_ble_eq_true rfl, Nat.le_of_ble_eq_true rfl⟩ (rest := []) (Nat.le_of_ble_eq_true rfl) rfl (pc' := 129) rfl (fun _ h126 => ?_)
            refine S_iload dX5_give_129 0 rfl (pc' := 131) rfl ?_
            exact S_iret rfl dX5_give_131
        · refine S_aload_n dX5_give_34 rfl 0 rfl (pc' := 35) rfl ?_
          refine S_bipush dX5_give_35 (v := (-2)) rfl (pc' := 37) rfl ?_
          refine S_invi ml_X5_58 mi_X5_refuse (ci := 5) ⟨_, rfl, rfl⟩ (by decide) dX5_give_37 [.int (-2)] rfl (fun v h2 q => c_X5_refuse Z l _ _ _ q) ⟨Nat.le_of_ble_eq_true rfl, Nat.le_of_ble_eq_true rfl⟩ (rest := []) (Nat.le_of_ble_eq_true rfl) rfl (pc' := 40) rfl (fun x37 h37 => ?_)
          exact S_iret rfl dX5_give_40
theorem dX5_noSong_0 : decode cX5_noSong 0 = .ok (.iload_n 1, 1) := by decide +kernel
theorem dX5_noSong_1 : decode cX5_noSong 1 = .ok (.aload_n 0, 1) := by decide +kernel
theorem dX5_noSong_2 : decode cX5_noSong 2 = .ok (.getfield 12, 3) := by decide +kernel
theorem dX5_noSong_5 : decode cX5_noSong 5 = .ok (.getfield 119, 3) := by decide +kernel
theorem dX5_noSong_8 : decode cX5_noSong 8 = .ok (.invokestatic 54, 3) := by decide +kernel
theorem dX5_noSong_11 : decode cX5_noSong 11 = .ok (.ireturn, 1) := by decide +kernel
set_option maxRecDepth 100000 in
set_option maxHeartbeats 4000000 in
theorem c_X5_noSong (Z : ZZ) (l : Launch) (t : Nat) (a1 : Int32) (h : HP) {v : Int32} {h1 : HP} (ho : f_X5_noSong t a1 h = some (v, h1)) : MetP Z l yX5_noSong cX5_noSong 2 (some .boolean) 1 21 [.ref (zb Z + t), .int a1] h (some (.int v)) h1 := by
  refine MetP_of ho (by decide +kernel) (Nat.le_of_ble_eq_true rfl) [(0, .ref (zb Z + t)), (1, .int a1)] rfl (own := RX5) rfl (nm := "noSong") rfl ?_
  unfold f_X5_noSong
  refine S_iload_n dX5_noSong_0 rfl 1 rfl (pc' := 1) rfl ?_
  refine S_aload_n dX5_noSong_1 rfl 0 rfl (pc' := 2) rfl ?_
  refine S_getR fl_X5_12 rfl dX5_noSong_2 (pc' := 5) rfl (fun x2 => ?_)
  refine S_getI fl_X5_119 rfl dX5_noSong_5 (pc' := 8) rfl (fun x5 => ?_)
  refine S_stai ml_X5_54 ms_X5_outside dX5_noSong_8 [.int a1, .int x5] rfl (fun v h2 q => c_X5_outside Z l _ _ _ q) ⟨Nat.le_of_ble_eq_true rfl, Nat.le_of_ble_eq_true rfl⟩ (rest := []) (Nat.le_of_ble_eq_true rfl) rfl (pc' := 11) rfl (fun x8 h8 => ?_)
  exact S_zret rfl dX5_noSong_11
theorem dX5_markLimit_0 : decode cX5_markLimit 0 = .ok (.iload_n 0, 1) := by decide +kernel
theorem dX5_markLimit_1 : decode cX5_markLimit 1 = .ok (.ifCond .ne 8, 3) := by decide +kernel
theorem dX5_markLimit_4 : decode cX5_markLimit 4 = .ok (.bipush 10, 2) := by decide +kernel
theorem dX5_markLimit_6 : decode cX5_markLimit 6 = .ok (.goto 13, 3) := by decide +kernel
theorem dX5_markLimit_9 : decode cX5_markLimit 9 = .ok (.iload_n 0, 1) := by decide +kernel
theorem dX5_markLimit_10 : decode cX5_markLimit 10 = .ok (.iconst 1, 1) := by decide +kernel
theorem dX5_markLimit_11 : decode cX5_markLimit 11 = .ok (.if_icmp .ne 7, 3) := by decide +kernel
theorem dX5_markLimit_14 : decode cX5_markLimit 14 = .ok (.iconst 5, 1) := by decide +kernel
theorem dX5_markLimit_15 : decode cX5_markLimit 15 = .ok (.goto 4, 3) := by decide +kernel
theorem dX5_markLimit_18 : decode cX5_markLimit 18 = .ok (.iconst 3, 1) := by decide +kernel
theorem dX5_markLimit_19 : decode cX5_markLimit 19 = .ok (.ireturn, 1) := by decide +kernel
set_option maxRecDepth 100000 in
set_option maxHeartbeats 4000000 in
theorem c_X5_markLimit (Z : ZZ) (l : Launch) (a0 : Int32) (h : HP) {v : Int32} {h1 : HP} (ho : f_X5_markLimit a0 h = some (v, h1)) : MetP Z l yX5_markLimit cX5_markLimit 1 (some .int) 0 0 [.int a0] h (some (.int v)) h1 := by
  refine MetP_of ho (by decide +kernel) (Nat.le_of_ble_eq_true rfl) [(0, .int a0)] rfl (own := RX5) rfl (nm := "markLimit") rfl ?_
  unfold f_X5_markLimit
  refine S_iload_n dX5_markLimit_0 rfl 0 rfl (pc' := 1) rfl ?_
  refine S_if_ne dX5_markLimit_1 9 rfl (pc' := 4) rfl (fun g1 => ?_) (fun g1 => ?_)
  · refine S_iload_n dX5_markLimit_9 rfl 0 rfl (pc' := 10) rfl ?_
    refine S_iconst dX5_markLimit_10 (v := 1) rfl (pc' := 11) rfl ?_
    refine S_icmp_ne dX5_markLimit_11 18 rfl (pc' := 14) rfl (fun g11 => ?_) (fun g11 => ?_)
    · refine S_iconst dX5_markLimit_18 (v := 3) rfl (pc' := 19) rfl ?_
      exact S_iret rfl dX5_markLimit_19
    · refine S_iconst dX5_markLimit_14 (v := 5) rfl (pc' := 15) rfl ?_
      refine S_goto dX5_markLimit_15 19 rfl ?_
      exact S_iret rfl dX5_markLimit_19
  · refine S_bipush dX5_markLimit_4 (v := 10) rfl (pc' := 6) rfl ?_
    refine S_goto dX5_markLimit_6 19 rfl ?_
    exact S_iret rfl dX5_markLimit_19
theorem dX5_mark_0 : decode cX5_mark 0 = .ok (.aload_n 0, 1) := by decide +kernel
theorem dX5_mark_1 : decode cX5_mark 1 = .ok (.iload_n 1, 1) := by decide +kernel
theorem dX5_mark_2 : decode cX5_mark 2 = .ok (.invokevirtual 135, 3) := by decide +kernel
theorem dX5_mark_5 : decode cX5_mark 5 = .ok (.ifCond .ne 22, 3) := by decide +kernel
theorem dX5_mark_8 : decode cX5_mark 8 = .ok (.iload_n 2, 1) := by decide +kernel
theorem dX5_mark_9 : decode cX5_mark 9 = .ok (.iconst 3, 1) := by decide +kernel
theorem dX5_mark_10 : decode cX5_mark 10 = .ok (.invokestatic 54, 3) := by decide +kernel
theorem dX5_mark_13 : decode cX5_mark 13 = .ok (.ifCond .ne 14, 3) := by decide +kernel
theorem dX5_mark_16 : decode cX5_mark 16 = .ok (.iload_n 3, 1) := by decide +kernel
theorem dX5_mark_17 : decode cX5_mark 17 = .ok (.iload_n 2, 1) := by decide +kernel
theorem dX5_mark_18 : decode cX5_mark 18 = .ok (.invokestatic 138, 3) := by decide +kernel
theorem dX5_mark_21 : decode cX5_mark 21 = .ok (.invokestatic 54, 3) := by decide +kernel
theorem dX5_mark_24 : decode cX5_mark 24 = .ok (.ifCond .eq 10, 3) := by decide +kernel
theorem dX5_mark_27 : decode cX5_mark 27 = .ok (.aload_n 0, 1) := by decide +kernel
theorem dX5_mark_28 : decode cX5_mark 28 = .ok (.bipush (-2), 2) := by decide +kernel
theorem dX5_mark_30 : decode cX5_mark 30 = .ok (.invokevirtual 58, 3) := by decide +kernel
theorem dX5_mark_33 : decode cX5_mark 33 = .ok (.ireturn, 1) := by decide +kernel
theorem dX5_mark_34 : decode cX5_mark 34 = .ok (.iload_n 2, 1) := by decide +kernel
theorem dX5_mark_35 : decode cX5_mark 35 = .ok (.ifCond .ne 13, 3) := by decide +kernel
theorem dX5_mark_38 : decode cX5_mark 38 = .ok (.aload_n 0, 1) := by decide +kernel
theorem dX5_mark_39 : decode cX5_mark 39 = .ok (.getfield 12, 3) := by decide +kernel
theorem dX5_mark_42 : decode cX5_mark 42 = .ok (.getfield 141, 3) := by decide +kernel
theorem dX5_mark_45 : decode cX5_mark 45 = .ok (.goto 25, 3) := by decide +kernel
theorem dX5_mark_48 : decode cX5_mark 48 = .ok (.iload_n 2, 1) := by decide +kernel
theorem dX5_mark_49 : decode cX5_mark 49 = .ok (.iconst 1, 1) := by decide +kernel
theorem dX5_mark_50 : decode cX5_mark 50 = .ok (.if_icmp .ne 13, 3) := by decide +kernel
theorem dX5_mark_53 : decode cX5_mark 53 = .ok (.aload_n 0, 1) := by decide +kernel
theorem dX5_mark_54 : decode cX5_mark 54 = .ok (.getfield 12, 3) := by decide +kernel
theorem dX5_mark_57 : decode cX5_mark 57 = .ok (.getfield 144, 3) := by decide +kernel
theorem dX5_mark_60 : decode cX5_mark 60 = .ok (.goto 10, 3) := by decide +kernel
theorem dX5_mark_63 : decode cX5_mark 63 = .ok (.aload_n 0, 1) := by decide +kernel
theorem dX5_mark_64 : decode cX5_mark 64 = .ok (.getfield 12, 3) := by decide +kernel
theorem dX5_mark_67 : decode cX5_mark 67 = .ok (.getfield 147, 3) := by decide +kernel
theorem dX5_mark_70 : decode cX5_mark 70 = .ok (.astore 4, 2) := by decide +kernel
theorem dX5_mark_72 : decode cX5_mark 72 = .ok (.aload 4, 2) := by decide +kernel
theorem dX5_mark_74 : decode cX5_mark 74 = .ok (.iload_n 1, 1) := by decide +kernel
theorem dX5_mark_75 : decode cX5_mark 75 = .ok (.iaload, 1) := by decide +kernel
theorem dX5_mark_76 : decode cX5_mark 76 = .ok (.istore 5, 2) := by decide +kernel
theorem dX5_mark_78 : decode cX5_mark 78 = .ok (.aload 4, 2) := by decide +kernel
theorem dX5_mark_80 : decode cX5_mark 80 = .ok (.iload_n 1, 1) := by decide +kernel
theorem dX5_mark_81 : decode cX5_mark 81 = .ok (.iload_n 3, 1) := by decide +kernel
theorem dX5_mark_82 : decode cX5_mark 82 = .ok (.iastore, 1) := by decide +kernel
theorem dX5_mark_83 : decode cX5_mark 83 = .ok (.iload 5, 2) := by decide +kernel
theorem dX5_mark_85 : decode cX5_mark 85 = .ok (.ireturn, 1) := by decide +kernel
set_option maxRecDepth 100000 in
set_option maxHeartbeats 4000000 in
theorem c_X5_mark (Z : ZZ) (l : Launch) (t : Nat) (a1 : Int32) (a2 : Int32) (a3 : Int32) (h : HP) {v : Int32} {h1 : HP} (ho : f_X5_mark t a1 a2 a3 h = some (v, h1)) : MetP Z l yX5_mark cX5_mark 6 (some .int) 2 43 [.ref (zb Z + t), .int a1, .int a2, .int a3] h (some (.int v)) h1 := by
  refine MetP_of ho (by decide +kernel) (Nat.le_of_ble_eq_true rfl) [(0, .ref (zb Z + t)), (1, .int a1), (2, .int a2), (3, .int a3)] rfl (own := RX5) rfl (nm := "mark") rfl ?_
  unfold f_X5_mark
  refine S_aload_n dX5_mark_0 rfl 0 rfl (pc' := 1) rfl ?_
  refine S_iload_n dX5_mark_1 rfl 1 rfl (pc' := 2) rfl ?_
  refine S_invi ml_X5_135 mi_X5_noSong (ci := 5) ⟨_, rfl, rfl⟩ (by decide) dX5_mark_2 [.int a1] rfl (fun v h2 q => c_X5_noSong Z l _ _ _ q) ⟨Nat.le_of_ble_eq_true rfl, Nat.le_of_ble_eq_true rfl⟩ (rest := []) (Nat.le_of_ble_eq_true rfl) rfl (pc' := 5) rfl (fun x2 h2 => ?_)
  refine S_if_ne dX5_mark_5 27 rfl (pc' := 8) rfl (fun g5 => ?_) (fun g5 => ?_)
  · refine S_aload_n dX5_mark_27 rfl 0 rfl (pc' := 28) rfl ?_
    refine S_bipush dX5_mark_28 (v := (-2)) rfl (pc' := 30) rfl ?_
    refine S_invi ml_X5_58 mi_X5_refuse (ci := 5) ⟨_, rfl, rfl⟩ (by decide) dX5_mark_30 [.int (-2)] rfl (fun v h2 q => c_X5_refuse Z l _ _ _ q) ⟨Nat.le_of_ble_eq_true rfl, Nat.le_of_ble_eq_true rfl⟩ (rest := []) (Nat.le_of_ble_eq_true rfl) rfl (pc' := 33) rfl (fun x30 h30 => ?_)
    exact S_iret rfl dX5_mark_33
  · refine S_iload_n dX5_mark_8 rfl 2 rfl (pc' := 9) rfl ?_
    refine S_iconst dX5_mark_9 (v := 3) rfl (pc' := 10) rfl ?_
    refine S_stai ml_X5_54 ms_X5_outside dX5_mark_10 [.int a2, .int 3] rfl (fun v h2 q => c_X5_outside Z l _ _ _ q) ⟨Nat.le_of_ble_eq_true rfl, Nat.le_of_ble_eq_true rfl⟩ (rest := []) (Nat.le_of_ble_eq_true rfl) rfl (pc' := 13) rfl (fun x10 h10 => ?_)
    refine S_if_ne dX5_mark_13 27 rfl (pc' := 16) rfl (fun g13 => ?_) (fun g13 => ?_)
    · refine S_aload_n dX5_mark_27 rfl 0 rfl (pc' := 28) rfl ?_
      refine S_bipush dX5_mark_28 (v := (-2)) rfl (pc' := 30) rfl ?_
      refine S_invi ml_X5_58 mi_X5_refuse (ci := 5) ⟨_, rfl, rfl⟩ (by decide) dX5_mark_30 [.int (-2)] rfl (fun v h2 q => c_X5_refuse Z l _ _ _ q) ⟨Nat.le_of_ble_eq_true rfl, Nat.le_of_ble_eq_true rfl⟩ (rest := []) (Nat.le_of_ble_eq_true rfl) rfl (pc' := 33) rfl (fun x30 h30 => ?_)
      exact S_iret rfl dX5_mark_33
    · refine S_iload_n dX5_mark_16 rfl 3 rfl (pc' := 17) rfl ?_
      refine S_iload_n dX5_mark_17 rfl 2 rfl (pc' := 18) rfl ?_
      refine S_stai ml_X5_138 ms_X5_markLimit dX5_mark_18 [.int a2] rfl (fun v h2 q => c_X5_markLimit Z l _ _ q) ⟨Nat.le_of_ble_eq_true rfl, Nat.le_of_ble_eq_true rfl⟩ (rest := [.int a3]) (Nat.le_of_ble_eq_true rfl) rfl (pc' := 21) rfl (fun x18 h18 => ?_)
      refine S_stai ml_X5_54 ms_X5_outside dX5_mark_21 [.int a3, .int x18] rfl (fun v h2 q => c_X5_outside Z l _ _ _ q) ⟨Nat.le_of_ble_eq_true rfl, Nat.le_of_ble_eq_true rfl⟩ (rest := []) (Nat.le_of_ble_eq_true rfl) rfl (pc' := 24) rfl (fun x21 h21 => ?_)
      refine S_if_eq dX5_mark_24 34 rfl (pc' := 27) rfl (fun g24 => ?_) (fun g24 => ?_)
      · refine S_iload_n dX5_mark_34 rfl 2 rfl (pc' := 35) rfl ?_
        refine S_if_ne dX5_mark_35 48 rfl (pc' := 38) rfl (fun g35 => ?_) (fun g35 => ?_)
        · refine S_iload_n dX5_mark_48 rfl 2 rfl (pc' := 49) rfl ?_
          refine S_iconst dX5_mark_49 (v := 1) rfl (pc' := 50) rfl ?_
          refine S_icmp_ne dX5_mark_50 63 rfl (pc' := 53) rfl (fun g50 => ?_) (fun g50 => ?_)
          · refine S_aload_n dX5_mark_63 rfl 0 rfl (pc' := 64) rfl ?_
            refine S_getR fl_X5_12 rfl dX5_mark_64 (pc' := 67) rfl (fun x64 => ?_)
            refine S_getR fl_X5_147 rfl dX5_mark_67 (pc' := 70) rfl (fun x67 => ?_)
            refine S_astore dX5_mark_70 (by decide) (lo' := [(4, .ref (zb Z + x67)), (0, .ref (zb Z + t)), (1, .int a1), (2, .int a2), (3, .int a3)]) rfl (pc' := 72) rfl ?_
            refine S_aload dX5_mark_72 0 rfl (pc' := 74) rfl ?_
            refine S_iload_n dX5_mark_74 rfl 2 rfl (pc' := 75) rfl ?_
            refine S_iaload dX5_mark_75 (pc' := 76) rfl (fun x75 => ?_)
            refine S_istore dX5_mark_76 (by decide) (lo' := [(5, .int x75), (4, .ref (zb Z + x67)), (0, .ref (zb Z + t)), (1, .int a1), (2, .int a2), (3, .int a3)]) rfl (pc' := 78) rfl ?_
            refine S_aload dX5_mark_78 1 rfl (pc' := 80) rfl ?_
            refine S_iload_n dX5_mark_80 rfl 3 rfl (pc' := 81) rfl ?_
            refine S_iload_n dX5_mark_81 rfl 5 rfl (pc' := 82) rfl ?_
            refine S_iastore dX5_mark_82 (pc' := 83) rfl (fun h82 => ?_)
            refine S_iload dX5_mark_83 0 rfl (pc' := 85) rfl ?_
            exact S_iret rfl dX5_mark_85
          · refine S_aload_n dX5_mark_53 rfl 0 rfl (pc' := 54) rfl ?_
            refine S_getR fl_X5_12 rfl dX5_mark_54 (pc' := 57) rfl (fun x54 => ?_)
            refine S_getR fl_X5_144 rfl dX5_mark_57 (pc' := 60) rfl (fun x57 => ?_)
            refine S_goto dX5_mark_60 70 rfl ?_
            refine S_astore dX5_mark_70 (by decide) (lo' := [(4, .ref (zb Z + x57)), (0, .ref (zb Z + t)), (1, .int a1), (2, .int a2), (3, .int a3)]) rfl (pc' := 72) rfl ?_
            refine S_aload dX5_mark_72 0 rfl (pc' := 74) rfl ?_
            refine S_iload_n dX5_mark_74 rfl 2 rfl (pc' := 75) rfl ?_
            refine S_iaload dX5_mark_75 (pc' := 76) rfl (fun x75 => ?_)
            refine S_istore dX5_mark_76 (by decide) (lo' := [(5, .int x75), (4, .ref (zb Z + x57)), (0, .ref (zb Z + t)), (1, .int a1), (2, .int a2), (3, .int a3)]) rfl (pc' := 78) rfl ?_
            refine S_aload dX5_mark_78 1 rfl (pc' := 80) rfl ?_
            refine S_iload_n dX5_mark_80 rfl 3 rfl (pc' := 81) rfl ?_
            refine S_iload_n dX5_mark_81 rfl 5 rfl (pc' := 82) rfl ?_
            refine S_iastore dX5_mark_82 (pc' := 83) rfl (fun h82 => ?_)
            refine S_iload dX5_mark_83 0 rfl (pc' := 85) rfl ?_
            exact S_iret rfl dX5_mark_85
        · refine S_aload_n dX5_mark_38 rfl 0 rfl (pc' := 39) rfl ?_
          refine S_getR fl_X5_12 rfl dX5_mark_39 (pc' := 42) rfl (fun x39 => ?_)
          refine S_getR fl_X5_141 rfl dX5_mark_42 (pc' := 45) rfl (fun x42 => ?_)
          refine S_goto dX5_mark_45 70 rfl ?_
          refine S_astore dX5_mark_70 (by decide) (lo' := [(4, .ref (zb Z + x42)), (0, .ref (zb Z + t)), (1, .int a1), (2, .int a2), (3, .int a3)]) rfl (pc' := 72) rfl ?_
          refine S_aload dX5_mark_72 0 rfl (pc' := 74) rfl ?_
          refine S_iload_n dX5_mark_74 rfl 2 rfl (pc' := 75) rfl ?_
          refine S_iaload dX5_mark_75 (pc' := 76) rfl (fun x75 => ?_)
          refine S_istore dX5_mark_76 (by decide) (lo' := [(5, .int x75), (4, .ref (zb Z + x42)), (0, .ref (zb Z + t)), (1, .int a1), (2, .int a2), (3, .int a3)]) rfl (pc' := 78) rfl ?_
          refine S_aload dX5_mark_78 1 rfl (pc' := 80) rfl ?_
          refine S_iload_n dX5_mark_80 rfl 3 rfl (pc' := 81) rfl ?_
          refine S_iload_n dX5_mark_81 rfl 5 rfl (pc' := 82) rfl ?_
          refine S_iastore dX5_mark_82 (pc' := 83) rfl (fun h82 => ?_)
          refine S_iload dX5_mark_83 0 rfl (pc' := 85) rfl ?_
          exact S_iret rfl dX5_mark_85
      · refine S_aload_n dX5_mark_27 rfl 0 rfl (pc' := 28) rfl ?_
        refine S_bipush dX5_mark_28 (v := (-2)) rfl (pc' := 30) rfl ?_
        refine S_invi ml_X5_58 mi_X5_refuse (ci := 5) ⟨_, rfl, rfl⟩ (by decide) dX5_mark_30 [.int (-2)] rfl (fun v h2 q => c_X5_refuse Z l _ _ _ q) ⟨Nat.le_of_ble_eq_true rfl, Nat.le_of_ble_eq_true rfl⟩ (rest := []) (Nat.le_of_ble_eq_true rfl) rfl (pc' := 33) rfl (fun x30 h30 => ?_)
        exact S_iret rfl dX5_mark_33
theorem dX5_note_0 : decode cX5_note 0 = .ok (.aload_n 0, 1) := by decide +kernel
theorem dX5_note_1 : decode cX5_note 1 = .ok (.iload_n 1, 1) := by decide +kernel
theorem dX5_note_2 : decode cX5_note 2 = .ok (.invokevirtual 135, 3) := by decide +kernel
theorem dX5_note_5 : decode cX5_note 5 = .ok (.ifCond .ne 20, 3) := by decide +kernel
theorem dX5_note_8 : decode cX5_note 8 = .ok (.iload_n 2, 1) := by decide +kernel
theorem dX5_note_9 : decode cX5_note 9 = .ok (.bipush 8, 2) := by decide +kernel
theorem dX5_note_11 : decode cX5_note 11 = .ok (.invokestatic 54, 3) := by decide +kernel
theorem dX5_note_14 : decode cX5_note 14 = .ok (.ifCond .ne 11, 3) := by decide +kernel
theorem dX5_note_17 : decode cX5_note 17 = .ok (.iload_n 3, 1) := by decide +kernel
theorem dX5_note_18 : decode cX5_note 18 = .ok (.iconst 5, 1) := by decide +kernel
theorem dX5_note_19 : decode cX5_note 19 = .ok (.invokestatic 54, 3) := by decide +kernel
theorem dX5_note_22 : decode cX5_note 22 = .ok (.ifCond .eq 10, 3) := by decide +kernel
theorem dX5_note_25 : decode cX5_note 25 = .ok (.aload_n 0, 1) := by decide +kernel
theorem dX5_note_26 : decode cX5_note 26 = .ok (.bipush (-2), 2) := by decide +kernel
theorem dX5_note_28 : decode cX5_note 28 = .ok (.invokevirtual 58, 3) := by decide +kernel
theorem dX5_note_31 : decode cX5_note 31 = .ok (.ireturn, 1) := by decide +kernel
theorem dX5_note_32 : decode cX5_note 32 = .ok (.iload_n 1, 1) := by decide +kernel
theorem dX5_note_33 : decode cX5_note 33 = .ok (.bipush 8, 2) := by decide +kernel
theorem dX5_note_35 : decode cX5_note 35 = .ok (.imul, 1) := by decide +kernel
theorem dX5_note_36 : decode cX5_note 36 = .ok (.iload_n 2, 1) := by decide +kernel
theorem dX5_note_37 : decode cX5_note 37 = .ok (.iadd, 1) := by decide +kernel
theorem dX5_note_38 : decode cX5_note 38 = .ok (.istore 4, 2) := by decide +kernel
theorem dX5_note_40 : decode cX5_note 40 = .ok (.aload_n 0, 1) := by decide +kernel
theorem dX5_note_41 : decode cX5_note 41 = .ok (.getfield 12, 3) := by decide +kernel
theorem dX5_note_44 : decode cX5_note 44 = .ok (.getfield 150, 3) := by decide +kernel
theorem dX5_note_47 : decode cX5_note 47 = .ok (.iload 4, 2) := by decide +kernel
theorem dX5_note_49 : decode cX5_note 49 = .ok (.iaload, 1) := by decide +kernel
theorem dX5_note_50 : decode cX5_note 50 = .ok (.istore 5, 2) := by decide +kernel
theorem dX5_note_52 : decode cX5_note 52 = .ok (.aload_n 0, 1) := by decide +kernel
theorem dX5_note_53 : decode cX5_note 53 = .ok (.getfield 12, 3) := by decide +kernel
theorem dX5_note_56 : decode cX5_note 56 = .ok (.getfield 150, 3) := by decide +kernel
theorem dX5_note_59 : decode cX5_note 59 = .ok (.iload 4, 2) := by decide +kernel
theorem dX5_note_61 : decode cX5_note 61 = .ok (.iload_n 3, 1) := by decide +kernel
theorem dX5_note_62 : decode cX5_note 62 = .ok (.iastore, 1) := by decide +kernel
theorem dX5_note_63 : decode cX5_note 63 = .ok (.iload 5, 2) := by decide +kernel
theorem dX5_note_65 : decode cX5_note 65 = .ok (.ireturn, 1) := by decide +kernel
set_option maxRecDepth 100000 in
set_option maxHeartbeats 4000000 in
theorem c_X5_note (Z : ZZ) (l : Launch) (t : Nat) (a1 : Int32) (a2 : Int32) (a3 : Int32) (h : HP) {v : Int32} {h1 : HP} (ho : f_X5_note t a1 a2 a3 h = some (v, h1)) : MetP Z l yX5_note cX5_note 6 (some .int) 2 43 [.ref (zb Z + t), .int a1, .int a2, .int a3] h (some (.int v)) h1 := by
  refine MetP_of ho (by decide +kernel) (Nat.le_of_ble_eq_true rfl) [(0, .ref (zb Z + t)), (1, .int a1), (2, .int a2), (3, .int a3)] rfl (own := RX5) rfl (nm := "note") rfl ?_
  unfold f_X5_note
  refine S_aload_n dX5_note_0 rfl 0 rfl (pc' := 1) rfl ?_
  refine S_iload_n dX5_note_1 rfl 1 rfl (pc' := 2) rfl ?_
  refine S_invi ml_X5_135 mi_X5_noSong (ci := 5) ⟨_, rfl, rfl⟩ (by decide) dX5_note_2 [.int a1] rfl (fun v h2 q => c_X5_noSong Z l _ _ _ q) ⟨Nat.le_of_ble_eq_true rfl, Nat.le_of_ble_eq_true rfl⟩ (rest := []) (Nat.le_of_ble_eq_true rfl) rfl (pc' := 5) rfl (fun x2 h2 => ?_)
  refine S_if_ne dX5_note_5 25 rfl (pc' := 8) rfl (fun g5 => ?_) (fun g5 => ?_)
  · refine S_aload_n dX5_note_25 rfl 0 rfl (pc' := 26) rfl ?_
    refine S_bipush dX5_note_26 (v := (-2)) rfl (pc' := 28) rfl ?_
    refine S_invi ml_X5_58 mi_X5_refuse (ci := 5) ⟨_, rfl, rfl⟩ (by decide) dX5_note_28 [.int (-2)] rfl (fun v h2 q => c_X5_refuse Z l _ _ _ q) ⟨Nat.le_of_ble_eq_true rfl, Nat.le_of_ble_eq_true rfl⟩ (rest := []) (Nat.le_of_ble_eq_true rfl) rfl (pc' := 31) rfl (fun x28 h28 => ?_)
    exact S_iret rfl dX5_note_31
  · refine S_iload_n dX5_note_8 rfl 2 rfl (pc' := 9) rfl ?_
    refine S_bipush dX5_note_9 (v := 8) rfl (pc' := 11) rfl ?_
    refine S_stai ml_X5_54 ms_X5_outside dX5_note_11 [.int a2, .int 8] rfl (fun v h2 q => c_X5_outside Z l _ _ _ q) ⟨Nat.le_of_ble_eq_true rfl, Nat.le_of_ble_eq_true rfl⟩ (rest := []) (Nat.le_of_ble_eq_true rfl) rfl (pc' := 14) rfl (fun x11 h11 => ?_)
    refine S_if_ne dX5_note_14 25 rfl (pc' := 17) rfl (fun g14 => ?_) (fun g14 => ?_)
    · refine S_aload_n dX5_note_25 rfl 0 rfl (pc' := 26) rfl ?_
      refine S_bipush dX5_note_26 (v := (-2)) rfl (pc' := 28) rfl ?_
      refine S_invi ml_X5_58 mi_X5_refuse (ci := 5) ⟨_, rfl, rfl⟩ (by decide) dX5_note_28 [.int (-2)] rfl (fun v h2 q => c_X5_refuse Z l _ _ _ q) ⟨Nat.le_of_ble_eq_true rfl, Nat.le_of_ble_eq_true rfl⟩ (rest := []) (Nat.le_of_ble_eq_true rfl) rfl (pc' := 31) rfl (fun x28 h28 => ?_)
      exact S_iret rfl dX5_note_31
    · refine S_iload_n dX5_note_17 rfl 3 rfl (pc' := 18) rfl ?_
      refine S_iconst dX5_note_18 (v := 5) rfl (pc' := 19) rfl ?_
      refine S_stai ml_X5_54 ms_X5_outside dX5_note_19 [.int a3, .int 5] rfl (fun v h2 q => c_X5_outside Z l _ _ _ q) ⟨Nat.le_of_ble_eq_true rfl, Nat.le_of_ble_eq_true rfl⟩ (rest := []) (Nat.le_of_ble_eq_true rfl) rfl (pc' := 22) rfl (fun x19 h19 => ?_)
      refine S_if_eq dX5_note_22 32 rfl (pc' := 25) rfl (fun g22 => ?_) (fun g22 => ?_)
      · refine S_iload_n dX5_note_32 rfl 1 rfl (pc' := 33) rfl ?_
        refine S_bipush dX5_note_33 (v := 8) rfl (pc' := 35) rfl ?_
        refine S_imul dX5_note_35 (pc' := 36) rfl ?_
        refine S_iload_n dX5_note_36 rfl 2 rfl (pc' := 37) rfl ?_
        refine S_iadd dX5_note_37 (pc' := 38) rfl ?_
        refine S_istore dX5_note_38 (by decide) (lo' := [(4, .int ((a1 * 8) + a2)), (0, .ref (zb Z + t)), (1, .int a1), (2, .int a2), (3, .int a3)]) rfl (pc' := 40) rfl ?_
        refine S_aload_n dX5_note_40 rfl 1 rfl (pc' := 41) rfl ?_
        refine S_getR fl_X5_12 rfl dX5_note_41 (pc' := 44) rfl (fun x41 => ?_)
        refine S_getR fl_X5_150 rfl dX5_note_44 (pc' := 47) rfl (fun x44 => ?_)
        refine S_iload dX5_note_47 0 rfl (pc' := 49) rfl ?_
        refine S_iaload dX5_note_49 (pc' := 50) rfl (fun x49 => ?_)
        refine S_istore dX5_note_50 (by decide) (lo' := [(5, .int x49), (4, .int ((a1 * 8) + a2)), (0, .ref (zb Z + t)), (1, .int a1), (2, .int a2), (3, .int a3)]) rfl (pc' := 52) rfl ?_
        refine S_aload_n dX5_note_52 rfl 2 rfl (pc' := 53) rfl ?_
        refine S_getR fl_X5_12 rfl dX5_note_53 (pc' := 56) rfl (fun x53 => ?_)
        refine S_getR fl_X5_150 rfl dX5_note_56 (pc' := 59) rfl (fun x56 => ?_)
        refine S_iload dX5_note_59 1 rfl (pc' := 61) rfl ?_
        refine S_iload_n dX5_note_61 rfl 5 rfl (pc' := 62) rfl ?_
        refine S_iastore dX5_note_62 (pc' := 63) rfl (fun h62 => ?_)
        refine S_iload dX5_note_63 0 rfl (pc' := 65) rfl ?_
        exact S_iret rfl dX5_note_65
      · refine S_aload_n dX5_note_25 rfl 0 rfl (pc' := 26) rfl ?_
        refine S_bipush dX5_note_26 (v := (-2)) rfl (pc' := 28) rfl ?_
        refine S_invi ml_X5_58 mi_X5_refuse (ci := 5) ⟨_, rfl, rfl⟩ (by decide) dX5_note_28 [.int (-2)] rfl (fun v h2 q => c_X5_refuse Z l _ _ _ q) ⟨Nat.le_of_ble_eq_true rfl, Nat.le_of_ble_eq_true rfl⟩ (rest := []) (Nat.le_of_ble_eq_true rfl) rfl (pc' := 31) rfl (fun x28 h28 => ?_)
        exact S_iret rfl dX5_note_31
theorem dX5_knows_0 : decode cX5_knows 0 = .ok (.aload_n 0, 1) := by decide +kernel
theorem dX5_knows_1 : decode cX5_knows 1 = .ok (.iload_n 1, 1) := by decide +kernel
theorem dX5_knows_2 : decode cX5_knows 2 = .ok (.invokevirtual 98, 3) := by decide +kernel
theorem dX5_knows_5 : decode cX5_knows 5 = .ok (.ifCond .ne 25, 3) := by decide +kernel
theorem dX5_knows_8 : decode cX5_knows 8 = .ok (.aload_n 0, 1) := by decide +kernel
theorem dX5_knows_9 : decode cX5_knows 9 = .ok (.iload_n 2, 1) := by decide +kernel
theorem dX5_knows_10 : decode cX5_knows 10 = .ok (.invokevirtual 135, 3) := by decide +kernel
theorem dX5_knows_13 : decode cX5_knows 13 = .ok (.ifCond .ne 17, 3) := by decide +kernel
theorem dX5_knows_16 : decode cX5_knows 16 = .ok (.iload_n 3, 1) := by decide +kernel
theorem dX5_knows_17 : decode cX5_knows 17 = .ok (.iconst (-1), 1) := by decide +kernel
theorem dX5_knows_18 : decode cX5_knows 18 = .ok (.if_icmp .eq 19, 3) := by decide +kernel
theorem dX5_knows_21 : decode cX5_knows 21 = .ok (.iload_n 3, 1) := by decide +kernel
theorem dX5_knows_22 : decode cX5_knows 22 = .ok (.bipush 100, 2) := by decide +kernel
theorem dX5_knows_24 : decode cX5_knows 24 = .ok (.invokestatic 54, 3) := by decide +kernel
theorem dX5_knows_27 : decode cX5_knows 27 = .ok (.ifCond .eq 10, 3) := by decide +kernel
theorem dX5_knows_30 : decode cX5_knows 30 = .ok (.aload_n 0, 1) := by decide +kernel
theorem dX5_knows_31 : decode cX5_knows 31 = .ok (.bipush (-2), 2) := by decide +kernel
theorem dX5_knows_33 : decode cX5_knows 33 = .ok (.invokevirtual 58, 3) := by decide +kernel
theorem dX5_knows_36 : decode cX5_knows 36 = .ok (.ireturn, 1) := by decide +kernel
theorem dX5_knows_37 : decode cX5_knows 37 = .ok (.aload_n 0, 1) := by decide +kernel
theorem dX5_knows_38 : decode cX5_knows 38 = .ok (.getfield 12, 3) := by decide +kernel
theorem dX5_knows_41 : decode cX5_knows 41 = .ok (.iload_n 1, 1) := by decide +kernel
theorem dX5_knows_42 : decode cX5_knows 42 = .ok (.iload_n 2, 1) := by decide +kernel
theorem dX5_knows_43 : decode cX5_knows 43 = .ok (.invokevirtual 153, 3) := by decide +kernel
theorem dX5_knows_46 : decode cX5_knows 46 = .ok (.istore 4, 2) := by decide +kernel
theorem dX5_knows_48 : decode cX5_knows 48 = .ok (.aload_n 0, 1) := by decide +kernel
theorem dX5_knows_49 : decode cX5_knows 49 = .ok (.getfield 12, 3) := by decide +kernel
theorem dX5_knows_52 : decode cX5_knows 52 = .ok (.iload_n 1, 1) := by decide +kernel
theorem dX5_knows_53 : decode cX5_knows 53 = .ok (.iload_n 2, 1) := by decide +kernel
theorem dX5_knows_54 : decode cX5_knows 54 = .ok (.iload_n 3, 1) := by decide +kernel
theorem dX5_knows_55 : decode cX5_knows 55 = .ok (.invokevirtual 156, 3) := by decide +kernel
theorem dX5_knows_58 : decode cX5_knows 58 = .ok (.iload 4, 2) := by decide +kernel
theorem dX5_knows_60 : decode cX5_knows 60 = .ok (.ireturn, 1) := by decide +kernel
set_option maxRecDepth 100000 in
set_option maxHeartbeats 4000000 in
theorem c_X5_knows (Z : ZZ) (l : Launch) (t : Nat) (a1 : Int32) (a2 : Int32) (a3 : Int32) (h : HP) {v : Int32} {h1 : HP} (ho : f_X5_knows t a1 a2 a3 h = some (v, h1)) : MetP Z l yX5_knows cX5_knows 5 (some .int) 2 43 [.ref (zb Z + t), .int a1, .int a2, .int a3] h (some (.int v)) h1 := by
  refine MetP_of ho (by decide +kernel) (Nat.le_of_ble_eq_true rfl) [(0, .ref (zb Z + t)), (1, .int a1), (2, .int a2), (3, .int a3)] rfl (own := RX5) rfl (nm := "knows") rfl ?_
  unfold f_X5_knows
  refine S_aload_n dX5_knows_0 rfl 0 rfl (pc' := 1) rfl ?_
  refine S_iload_n dX5_knows_1 rfl 1 rfl (pc' := 2) rfl ?_
  refine S_invi ml_X5_98 mi_X5_noPerson (ci := 5) ⟨_, rfl, rfl⟩ (by decide) dX5_knows_2 [.int a1] rfl (fun v h2 q => c_X5_noPerson Z l _ _ _ q) ⟨Nat.le_of_ble_eq_true rfl, Nat.le_of_ble_eq_true rfl⟩ (rest := []) (Nat.le_of_ble_eq_true rfl) rfl (pc' := 5) rfl (fun x2 h2 => ?_)
  refine S_if_ne dX5_knows_5 30 rfl (pc' := 8) rfl (fun g5 => ?_) (fun g5 => ?_)
  · refine S_aload_n dX5_knows_30 rfl 0 rfl (pc' := 31) rfl ?_
    refine S_bipush dX5_knows_31 (v := (-2)) rfl (pc' := 33) rfl ?_
    refine S_invi ml_X5_58 mi_X5_refuse (ci := 5) ⟨_, rfl, rfl⟩ (by decide) dX5_knows_33 [.int (-2)] rfl (fun v h2 q => c_X5_refuse Z l _ _ _ q) ⟨Nat.le_of_ble_eq_true rfl, Nat.le_of_ble_eq_true rfl⟩ (rest := []) (Nat.le_of_ble_eq_true rfl) rfl (pc' := 36) rfl (fun x33 h33 => ?_)
    exact S_iret rfl dX5_knows_36
  · refine S_aload_n dX5_knows_8 rfl 0 rfl (pc' := 9) rfl ?_
    refine S_iload_n dX5_knows_9 rfl 2 rfl (pc' := 10) rfl ?_
    refine S_invi ml_X5_135 mi_X5_noSong (ci := 5) ⟨_, rfl, rfl⟩ (by decide) dX5_knows_10 [.int a2] rfl (fun v h2 q => c_X5_noSong Z l _ _ _ q) ⟨Nat.le_of_ble_eq_true rfl, Nat.le_of_ble_eq_true rfl⟩ (rest := []) (Nat.le_of_ble_eq_true rfl) rfl (pc' := 13) rfl (fun x10 h10 => ?_)
    refine S_if_ne dX5_knows_13 30 rfl (pc' := 16) rfl (fun g13 => ?_) (fun g13 => ?_)
    · refine S_aload_n dX5_knows_30 rfl 0 rfl (pc' := 31) rfl ?_
      refine S_bipush dX5_knows_31 (v := (-2)) rfl (pc' := 33) rfl ?_
      refine S_invi ml_X5_58 mi_X5_refuse (ci := 5) ⟨_, rfl, rfl⟩ (by decide) dX5_knows_33 [.int (-2)] rfl (fun v h2 q => c_X5_refuse Z l _ _ _ q) ⟨Nat.le_of_ble_eq_true rfl, Nat.le_of_ble_eq_true rfl⟩ (rest := []) (Nat.le_of_ble_eq_true rfl) rfl (pc' := 36) rfl (fun x33 h33 => ?_)
      exact S_iret rfl dX5_knows_36
    · refine S_iload_n dX5_knows_16 rfl 3 rfl (pc' := 17) rfl ?_
      refine S_iconst dX5_knows_17 (v := (-1)) rfl (pc' := 18) rfl ?_
      refine S_icmp_eq dX5_knows_18 37 rfl (pc' := 21) rfl (fun g18 => ?_) (fun g18 => ?_)
      · refine S_aload_n dX5_knows_37 rfl 0 rfl (pc' := 38) rfl ?_
        refine S_getR fl_X5_12 rfl dX5_knows_38 (pc' := 41) rfl (fun x38 => ?_)
        refine S_iload_n dX5_knows_41 rfl 1 rfl (pc' := 42) rfl ?_
        refine S_iload_n dX5_knows_42 rfl 2 rfl (pc' := 43) rfl ?_
        refine S_invi ml_X5_153 mi_X0_heldFor (ci := 0) ⟨_, rfl, rfl⟩ (by decide) dX5_knows_43 [.int a1, .int a2] rfl (fun v h2 q => c_X0_heldFor Z l _ _ _ _ q) ⟨Nat.le_of_ble_eq_true rfl, Nat.le_of_ble_eq_true rfl⟩ (rest := []) (Nat.le_of_ble_eq_true rfl) rfl (pc' := 46) rfl (fun x43 h43 => ?_)
        refine S_istore dX5_knows_46 (by decide) (lo' := [(4, .int x43), (0, .ref (zb Z + t)), (1, .int a1), (2, .int a2), (3, .int a3)]) rfl (pc' := 48) rfl ?_
        refine S_aload_n dX5_knows_48 rfl 1 rfl (pc' := 49) rfl ?_
        refine S_getR fl_X5_12 rfl dX5_knows_49 (pc' := 52) rfl (fun x49 => ?_)
        refine S_iload_n dX5_knows_52 rfl 2 rfl (pc' := 53) rfl ?_
        refine S_iload_n dX5_knows_53 rfl 3 rfl (pc' := 54) rfl ?_
        refine S_iload_n dX5_knows_54 rfl 4 rfl (pc' := 55) rfl ?_
        refine S_invv ml_X5_156 mi_X0_setHeld (ci := 0) ⟨_, rfl, rfl⟩ (by decide) dX5_knows_55 [.int a1, .int a2, .int a3] rfl (fun v h2 q => c_X0_setHeld Z l _ _ _ _ _ q) ⟨Nat.le_of_ble_eq_true rfl, Nat.le_of_ble_eq_true rfl⟩ (rest := []) (Nat.le_of_ble_eq_true rfl) rfl (pc' := 58) rfl (fun _ h55 => ?_)
        refine S_iload dX5_knows_58 0 rfl (pc' := 60) rfl ?_
        exact S_iret rfl dX5_knows_60
      · refine S_iload_n dX5_knows_21 rfl 3 rfl (pc' := 22) rfl ?_
        refine S_bipush dX5_knows_22 (v := 100) rfl (pc' := 24) rfl ?_
        refine S_stai ml_X5_54 ms_X5_outside dX5_knows_24 [.int a3, .int 100] rfl (fun v h2 q => c_X5_outside Z l _ _ _ q) ⟨Nat.le_of_ble_eq_true rfl, Nat.le_of_ble_eq_true rfl⟩ (rest := []) (Nat.le_of_ble_eq_true rfl) rfl (pc' := 27) rfl (fun x24 h24 => ?_)
        refine S_if_eq dX5_knows_27 37 rfl (pc' := 30) rfl (fun g27 => ?_) (fun g27 => ?_)
        · refine S_aload_n dX5_knows_37 rfl 0 rfl (pc' := 38) rfl ?_
          refine S_getR fl_X5_12 rfl dX5_knows_38 (pc' := 41) rfl (fun x38 => ?_)
          refine S_iload_n dX5_knows_41 rfl 1 rfl (pc' := 42) rfl ?_
          refine S_iload_n dX5_knows_42 rfl 2 rfl (pc' := 43) rfl ?_
          refine S_invi ml_X5_153 mi_X0_heldFor (ci := 0) ⟨_, rfl, rfl⟩ (by decide) dX5_knows_43 [.int a1, .int a2] rfl (fun v h2 q => c_X0_heldFor Z l _ _ _ _ q) ⟨Nat.le_of_ble_eq_true rfl, Nat.le_of_ble_eq_true rfl⟩ (rest := []) (Nat.le_of_ble_eq_true rfl) rfl (pc' := 46) rfl (fun x43 h43 => ?_)
          refine S_istore dX5_knows_46 (by decide) (lo' := [(4, .int x43), (0, .ref (zb Z + t)), (1, .int a1), (2, .int a2), (3, .int a3)]) rfl (pc' := 48) rfl ?_
          refine S_aload_n dX5_knows_48 rfl 1 rfl (pc' := 49) rfl ?_
          refine S_getR fl_X5_12 rfl dX5_knows_49 (pc' := 52) rfl (fun x49 => ?_)
          refine S_iload_n dX5_knows_52 rfl 2 rfl (pc' := 53) rfl ?_
          refine S_iload_n dX5_knows_53 rfl 3 rfl (pc' := 54) rfl ?_
          refine S_iload_n dX5_knows_54 rfl 4 rfl (pc' := 55) rfl ?_
          refine S_invv ml_X5_156 mi_X0_setHeld (ci := 0) ⟨_, rfl, rfl⟩ (by decide) dX5_knows_55 [.int a1, .int a2, .int a3] rfl (fun v h2 q => c_X0_setHeld Z l _ _ _ _ _ q) ⟨Nat.le_of_ble_eq_true rfl, Nat.le_of_ble_eq_true rfl⟩ (rest := []) (Nat.le_of_ble_eq_true rfl) rfl (pc' := 58) rfl (fun _ h55 => ?_)
          refine S_iload dX5_knows_58 0 rfl (pc' := 60) rfl ?_
          exact S_iret rfl dX5_knows_60
        · refine S_aload_n dX5_knows_30 rfl 0 rfl (pc' := 31) rfl ?_
          refine S_bipush dX5_knows_31 (v := (-2)) rfl (pc' := 33) rfl ?_
          refine S_invi ml_X5_58 mi_X5_refuse (ci := 5) ⟨_, rfl, rfl⟩ (by decide) dX5_knows_33 [.int (-2)] rfl (fun v h2 q => c_X5_refuse Z l _ _ _ q) ⟨Nat.le_of_ble_eq_true rfl, Nat.le_of_ble_eq_true rfl⟩ (rest := []) (Nat.le_of_ble_eq_true rfl) rfl (pc' := 36) rfl (fun x33 h33 => ?_)
          exact S_iret rfl dX5_knows_36
theorem dX5_seat_0 : decode cX5_seat 0 = .ok (.aload_n 0, 1) := by decide +kernel
theorem dX5_seat_1 : decode cX5_seat 1 = .ok (.iload_n 1, 1) := by decide +kernel
theorem dX5_seat_2 : decode cX5_seat 2 = .ok (.invokevirtual 98, 3) := by decide +kernel
theorem dX5_seat_5 : decode cX5_seat 5 = .ok (.ifCond .ne 24, 3) := by decide +kernel
theorem dX5_seat_8 : decode cX5_seat 8 = .ok (.aload_n 0, 1) := by decide +kernel
theorem dX5_seat_9 : decode cX5_seat 9 = .ok (.iload_n 2, 1) := by decide +kernel
theorem dX5_seat_10 : decode cX5_seat 10 = .ok (.invokevirtual 98, 3) := by decide +kernel
theorem dX5_seat_13 : decode cX5_seat 13 = .ok (.ifCond .ne 16, 3) := by decide +kernel
theorem dX5_seat_16 : decode cX5_seat 16 = .ok (.iload_n 3, 1) := by decide +kernel
theorem dX5_seat_17 : decode cX5_seat 17 = .ok (.iconst 2, 1) := by decide +kernel
theorem dX5_seat_18 : decode cX5_seat 18 = .ok (.invokestatic 54, 3) := by decide +kernel
theorem dX5_seat_21 : decode cX5_seat 21 = .ok (.ifCond .ne 8, 3) := by decide +kernel
theorem dX5_seat_24 : decode cX5_seat 24 = .ok (.iload_n 1, 1) := by decide +kernel
theorem dX5_seat_25 : decode cX5_seat 25 = .ok (.iload_n 2, 1) := by decide +kernel
theorem dX5_seat_26 : decode cX5_seat 26 = .ok (.if_icmp .ne 10, 3) := by decide +kernel
theorem dX5_seat_29 : decode cX5_seat 29 = .ok (.aload_n 0, 1) := by decide +kernel
theorem dX5_seat_30 : decode cX5_seat 30 = .ok (.bipush (-2), 2) := by decide +kernel
theorem dX5_seat_32 : decode cX5_seat 32 = .ok (.invokevirtual 58, 3) := by decide +kernel
theorem dX5_seat_35 : decode cX5_seat 35 = .ok (.ireturn, 1) := by decide +kernel
theorem dX5_seat_36 : decode cX5_seat 36 = .ok (.aload_n 0, 1) := by decide +kernel
theorem dX5_seat_37 : decode cX5_seat 37 = .ok (.getfield 12, 3) := by decide +kernel
theorem dX5_seat_40 : decode cX5_seat 40 = .ok (.getfield 160, 3) := by decide +kernel
theorem dX5_seat_43 : decode cX5_seat 43 = .ok (.iload_n 1, 1) := by decide +kernel
theorem dX5_seat_44 : decode cX5_seat 44 = .ok (.iaload, 1) := by decide +kernel
theorem dX5_seat_45 : decode cX5_seat 45 = .ok (.iload_n 2, 1) := by decide +kernel
theorem dX5_seat_46 : decode cX5_seat 46 = .ok (.ishr, 1) := by decide +kernel
theorem dX5_seat_47 : decode cX5_seat 47 = .ok (.iconst 1, 1) := by decide +kernel
theorem dX5_seat_48 : decode cX5_seat 48 = .ok (.iand, 1) := by decide +kernel
theorem dX5_seat_49 : decode cX5_seat 49 = .ok (.istore 4, 2) := by decide +kernel
theorem dX5_seat_51 : decode cX5_seat 51 = .ok (.aload_n 0, 1) := by decide +kernel
theorem dX5_seat_52 : decode cX5_seat 52 = .ok (.getfield 12, 3) := by decide +kernel
theorem dX5_seat_55 : decode cX5_seat 55 = .ok (.iload_n 1, 1) := by decide +kernel
theorem dX5_seat_56 : decode cX5_seat 56 = .ok (.iload_n 2, 1) := by decide +kernel
theorem dX5_seat_57 : decode cX5_seat 57 = .ok (.iload_n 3, 1) := by decide +kernel
theorem dX5_seat_58 : decode cX5_seat 58 = .ok (.iconst 1, 1) := by decide +kernel
theorem dX5_seat_59 : decode cX5_seat 59 = .ok (.if_icmp .ne 7, 3) := by decide +kernel
theorem dX5_seat_62 : decode cX5_seat 62 = .ok (.iconst 1, 1) := by decide +kernel
theorem dX5_seat_63 : decode cX5_seat 63 = .ok (.goto 4, 3) := by decide +kernel
theorem dX5_seat_66 : decode cX5_seat 66 = .ok (.iconst 0, 1) := by decide +kernel
theorem dX5_seat_67 : decode cX5_seat 67 = .ok (.invokevirtual 163, 3) := by decide +kernel
theorem dX5_seat_70 : decode cX5_seat 70 = .ok (.iload 4, 2) := by decide +kernel
theorem dX5_seat_72 : decode cX5_seat 72 = .ok (.ireturn, 1) := by decide +kernel
set_option maxRecDepth 100000 in
set_option maxHeartbeats 4000000 in
theorem c_X5_seat (Z : ZZ) (l : Launch) (t : Nat) (a1 : Int32) (a2 : Int32) (a3 : Int32) (h : HP) {v : Int32} {h1 : HP} (ho : f_X5_seat t a1 a2 a3 h = some (v, h1)) : MetP Z l yX5_seat cX5_seat 5 (some .int) 2 45 [.ref (zb Z + t), .int a1, .int a2, .int a3] h (some (.int v)) h1 := by
  refine MetP_of ho (by decide +kernel) (Nat.le_of_ble_eq_true rfl) [(0, .ref (zb Z + t)), (1, .int a1), (2, .int a2), (3, .int a3)] rfl (own := RX5) rfl (nm := "seat") rfl ?_
  unfold f_X5_seat
  refine S_aload_n dX5_seat_0 rfl 0 rfl (pc' := 1) rfl ?_
  refine S_iload_n dX5_seat_1 rfl 1 rfl (pc' := 2) rfl ?_
  refine S_invi ml_X5_98 mi_X5_noPerson (ci := 5) ⟨_, rfl, rfl⟩ (by decide) dX5_seat_2 [.int a1] rfl (fun v h2 q => c_X5_noPerson Z l _ _ _ q) ⟨Nat.le_of_ble_eq_true rfl, Nat.le_of_ble_eq_true rfl⟩ (rest := []) (Nat.le_of_ble_eq_true rfl) rfl (pc' := 5) rfl (fun x2 h2 => ?_)
  refine S_if_ne dX5_seat_5 29 rfl (pc' := 8) rfl (fun g5 => ?_) (fun g5 => ?_)
  · refine S_aload_n dX5_seat_29 rfl 0 rfl (pc' := 30) rfl ?_
    refine S_bipush dX5_seat_30 (v := (-2)) rfl (pc' := 32) rfl ?_
    refine S_invi ml_X5_58 mi_X5_refuse (ci := 5) ⟨_, rfl, rfl⟩ (by decide) dX5_seat_32 [.int (-2)] rfl (fun v h2 q => c_X5_refuse Z l _ _ _ q) ⟨Nat.le_of_ble_eq_true rfl, Nat.le_of_ble_eq_true rfl⟩ (rest := []) (Nat.le_of_ble_eq_true rfl) rfl (pc' := 35) rfl (fun x32 h32 => ?_)
    exact S_iret rfl dX5_seat_35
  · refine S_aload_n dX5_seat_8 rfl 0 rfl (pc' := 9) rfl ?_
    refine S_iload_n dX5_seat_9 rfl 2 rfl (pc' := 10) rfl ?_
    refine S_invi ml_X5_98 mi_X5_noPerson (ci := 5) ⟨_, rfl, rfl⟩ (by decide) dX5_seat_10 [.int a2] rfl (fun v h2 q => c_X5_noPerson Z l _ _ _ q) ⟨Nat.le_of_ble_eq_true rfl, Nat.le_of_ble_eq_true rfl⟩ (rest := []) (Nat.le_of_ble_eq_true rfl) rfl (pc' := 13) rfl (fun x10 h10 => ?_)
    refine S_if_ne dX5_seat_13 29 rfl (pc' := 16) rfl (fun g13 => ?_) (fun g13 => ?_)
    · refine S_aload_n dX5_seat_29 rfl 0 rfl (pc' := 30) rfl ?_
      refine S_bipush dX5_seat_30 (v := (-2)) rfl (pc' := 32) rfl ?_
      refine S_invi ml_X5_58 mi_X5_refuse (ci := 5) ⟨_, rfl, rfl⟩ (by decide) dX5_seat_32 [.int (-2)] rfl (fun v h2 q => c_X5_refuse Z l _ _ _ q) ⟨Nat.le_of_ble_eq_true rfl, Nat.le_of_ble_eq_true rfl⟩ (rest := []) (Nat.le_of_ble_eq_true rfl) rfl (pc' := 35) rfl (fun x32 h32 => ?_)
      exact S_iret rfl dX5_seat_35
    · refine S_iload_n dX5_seat_16 rfl 3 rfl (pc' := 17) rfl ?_
      refine S_iconst dX5_seat_17 (v := 2) rfl (pc' := 18) rfl ?_
      refine S_stai ml_X5_54 ms_X5_outside dX5_seat_18 [.int a3, .int 2] rfl (fun v h2 q => c_X5_outside Z l _ _ _ q) ⟨Nat.le_of_ble_eq_true rfl, Nat.le_of_ble_eq_true rfl⟩ (rest := []) (Nat.le_of_ble_eq_true rfl) rfl (pc' := 21) rfl (fun x18 h18 => ?_)
      refine S_if_ne dX5_seat_21 29 rfl (pc' := 24) rfl (fun g21 => ?_) (fun g21 => ?_)
      · refine S_aload_n dX5_seat_29 rfl 0 rfl (pc' := 30) rfl ?_
        refine S_bipush dX5_seat_30 (v := (-2)) rfl (pc' := 32) rfl ?_
        refine S_invi ml_X5_58 mi_X5_refuse (ci := 5) ⟨_, rfl, rfl⟩ (by decide) dX5_seat_32 [.int (-2)] rfl (fun v h2 q => c_X5_refuse Z l _ _ _ q) ⟨Nat.le_of_ble_eq_true rfl, Nat.le_of_ble_eq_true rfl⟩ (rest := []) (Nat.le_of_ble_eq_true rfl) rfl (pc' := 35) rfl (fun x32 h32 => ?_)
        exact S_iret rfl dX5_seat_35
      · refine S_iload_n dX5_seat_24 rfl 1 rfl (pc' := 25) rfl ?_
        refine S_iload_n dX5_seat_25 rfl 2 rfl (pc' := 26) rfl ?_
        refine S_icmp_ne dX5_seat_26 36 rfl (pc' := 29) rfl (fun g26 => ?_) (fun g26 => ?_)
        · refine S_aload_n dX5_seat_36 rfl 0 rfl (pc' := 37) rfl ?_
          refine S_getR fl_X5_12 rfl dX5_seat_37 (pc' := 40) rfl (fun x37 => ?_)
          refine S_getR fl_X5_160 rfl dX5_seat_40 (pc' := 43) rfl (fun x40 => ?_)
          refine S_iload_n dX5_seat_43 rfl 1 rfl (pc' := 44) rfl ?_
          refine S_iaload dX5_seat_44 (pc' := 45) rfl (fun x44 => ?_)
          refine S_iload_n dX5_seat_45 rfl 2 rfl (pc' := 46) rfl ?_
          refine S_ishr dX5_seat_46 (pc' := 47) rfl ?_
          refine S_iconst dX5_seat_47 (v := 1) rfl (pc' := 48) rfl ?_
          refine S_iand dX5_seat_48 (pc' := 49) rfl ?_
          refine S_istore dX5_seat_49 (by decide) (lo' := [(4, .int ((x44 >>> (a2 &&& 31)) &&& 1)), (0, .ref (zb Z + t)), (1, .int a1), (2, .int a2), (3, .int a3)]) rfl (pc' := 51) rfl ?_
          refine S_aload_n dX5_seat_51 rfl 1 rfl (pc' := 52) rfl ?_
          refine S_getR fl_X5_12 rfl dX5_seat_52 (pc' := 55) rfl (fun x52 => ?_)
          refine S_iload_n dX5_seat_55 rfl 2 rfl (pc' := 56) rfl ?_
          refine S_iload_n dX5_seat_56 rfl 3 rfl (pc' := 57) rfl ?_
          refine S_iload_n dX5_seat_57 rfl 4 rfl (pc' := 58) rfl ?_
          refine S_iconst dX5_seat_58 (v := 1) rfl (pc' := 59) rfl ?_
          refine S_icmp_ne dX5_seat_59 66 rfl (pc' := 62) rfl (fun g59 => ?_) (fun g59 => ?_)
          · refine S_iconst dX5_seat_66 (v := 0) rfl (pc' := 67) rfl ?_
            refine S_invv ml_X5_163 mi_X0_setBeside (ci := 0) ⟨_, rfl, rfl⟩ (by decide) dX5_seat_67 [.int a1, .int a2, .int 0] rfl (fun v h2 q => c_X0_setBeside Z l _ _ _ _ _ q) ⟨Nat.le_of_ble_eq_true rfl, Nat.le_of_ble_eq_true rfl⟩ (rest := []) (Nat.le_of_ble_eq_true rfl) rfl (pc' := 70) rfl (fun _ h67 => ?_)
            refine S_iload dX5_seat_70 0 rfl (pc' := 72) rfl ?_
            exact S_iret rfl dX5_seat_72
          · refine S_iconst dX5_seat_62 (v := 1) rfl (pc' := 63) rfl ?_
            refine S_goto dX5_seat_63 67 rfl ?_
            refine S_invv ml_X5_163 mi_X0_setBeside (ci := 0) ⟨_, rfl, rfl⟩ (by decide) dX5_seat_67 [.int a1, .int a2, .int 1] rfl (fun v h2 q => c_X0_setBeside Z l _ _ _ _ _ q) ⟨Nat.le_of_ble_eq_true rfl, Nat.le_of_ble_eq_true rfl⟩ (rest := []) (Nat.le_of_ble_eq_true rfl) rfl (pc' := 70) rfl (fun _ h67 => ?_)
            refine S_iload dX5_seat_70 0 rfl (pc' := 72) rfl ?_
            exact S_iret rfl dX5_seat_72
        · refine S_aload_n dX5_seat_29 rfl 0 rfl (pc' := 30) rfl ?_
          refine S_bipush dX5_seat_30 (v := (-2)) rfl (pc' := 32) rfl ?_
          refine S_invi ml_X5_58 mi_X5_refuse (ci := 5) ⟨_, rfl, rfl⟩ (by decide) dX5_seat_32 [.int (-2)] rfl (fun v h2 q => c_X5_refuse Z l _ _ _ q) ⟨Nat.le_of_ble_eq_true rfl, Nat.le_of_ble_eq_true rfl⟩ (rest := []) (Nat.le_of_ble_eq_true rfl) rfl (pc' := 35) rfl (fun x32 h32 => ?_)
          exact S_iret rfl dX5_seat_35
theorem dX5_tell_0 : decode cX5_tell 0 = .ok (.iload_n 1, 1) := by decide +kernel
theorem dX5_tell_1 : decode cX5_tell 1 = .ok (.iconst 2, 1) := by decide +kernel
theorem dX5_tell_2 : decode cX5_tell 2 = .ok (.invokestatic 54, 3) := by decide +kernel
theorem dX5_tell_5 : decode cX5_tell 5 = .ok (.ifCond .ne 22, 3) := by decide +kernel
theorem dX5_tell_8 : decode cX5_tell 8 = .ok (.iload_n 2, 1) := by decide +kernel
theorem dX5_tell_9 : decode cX5_tell 9 = .ok (.iload_n 1, 1) := by decide +kernel
theorem dX5_tell_10 : decode cX5_tell 10 = .ok (.ifCond .ne 8, 3) := by decide +kernel
theorem dX5_tell_13 : decode cX5_tell 13 = .ok (.bipush 10, 2) := by decide +kernel
theorem dX5_tell_15 : decode cX5_tell 15 = .ok (.goto 6, 3) := by decide +kernel
theorem dX5_tell_18 : decode cX5_tell 18 = .ok (.sipush 1000, 3) := by decide +kernel
theorem dX5_tell_21 : decode cX5_tell 21 = .ok (.invokestatic 54, 3) := by decide +kernel
theorem dX5_tell_24 : decode cX5_tell 24 = .ok (.ifCond .eq 10, 3) := by decide +kernel
theorem dX5_tell_27 : decode cX5_tell 27 = .ok (.aload_n 0, 1) := by decide +kernel
theorem dX5_tell_28 : decode cX5_tell 28 = .ok (.bipush (-2), 2) := by decide +kernel
theorem dX5_tell_30 : decode cX5_tell 30 = .ok (.invokevirtual 58, 3) := by decide +kernel
theorem dX5_tell_33 : decode cX5_tell 33 = .ok (.ireturn, 1) := by decide +kernel
theorem dX5_tell_34 : decode cX5_tell 34 = .ok (.iload_n 1, 1) := by decide +kernel
theorem dX5_tell_35 : decode cX5_tell 35 = .ok (.ifCond .ne 22, 3) := by decide +kernel
theorem dX5_tell_38 : decode cX5_tell 38 = .ok (.aload_n 0, 1) := by decide +kernel
theorem dX5_tell_39 : decode cX5_tell 39 = .ok (.getfield 12, 3) := by decide +kernel
theorem dX5_tell_42 : decode cX5_tell 42 = .ok (.getfield 167, 3) := by decide +kernel
theorem dX5_tell_45 : decode cX5_tell 45 = .ok (.istore_n 3, 1) := by decide +kernel
theorem dX5_tell_46 : decode cX5_tell 46 = .ok (.aload_n 0, 1) := by decide +kernel
theorem dX5_tell_47 : decode cX5_tell 47 = .ok (.getfield 12, 3) := by decide +kernel
theorem dX5_tell_50 : decode cX5_tell 50 = .ok (.iload_n 2, 1) := by decide +kernel
theorem dX5_tell_51 : decode cX5_tell 51 = .ok (.putfield 167, 3) := by decide +kernel
theorem dX5_tell_54 : decode cX5_tell 54 = .ok (.goto 19, 3) := by decide +kernel
theorem dX5_tell_57 : decode cX5_tell 57 = .ok (.aload_n 0, 1) := by decide +kernel
theorem dX5_tell_58 : decode cX5_tell 58 = .ok (.getfield 12, 3) := by decide +kernel
theorem dX5_tell_61 : decode cX5_tell 61 = .ok (.getfield 170, 3) := by decide +kernel
theorem dX5_tell_64 : decode cX5_tell 64 = .ok (.istore_n 3, 1) := by decide +kernel
theorem dX5_tell_65 : decode cX5_tell 65 = .ok (.aload_n 0, 1) := by decide +kernel
theorem dX5_tell_66 : decode cX5_tell 66 = .ok (.getfield 12, 3) := by decide +kernel
theorem dX5_tell_69 : decode cX5_tell 69 = .ok (.iload_n 2, 1) := by decide +kernel
theorem dX5_tell_70 : decode cX5_tell 70 = .ok (.putfield 170, 3) := by decide +kernel
theorem dX5_tell_73 : decode cX5_tell 73 = .ok (.iload_n 3, 1) := by decide +kernel
theorem dX5_tell_74 : decode cX5_tell 74 = .ok (.ireturn, 1) := by decide +kernel
set_option maxRecDepth 100000 in
set_option maxHeartbeats 4000000 in
theorem c_X5_tell (Z : ZZ) (l : Launch) (t : Nat) (a1 : Int32) (a2 : Int32) (h : HP) {v : Int32} {h1 : HP} (ho : f_X5_tell t a1 a2 h = some (v, h1)) : MetP Z l yX5_tell cX5_tell 4 (some .int) 2 43 [.ref (zb Z + t), .int a1, .int a2] h (some (.int v)) h1 := by
  refine MetP_of ho (by decide +kernel) (Nat.le_of_ble_eq_true rfl) [(0, .ref (zb Z + t)), (1, .int a1), (2, .int a2)] rfl (own := RX5) rfl (nm := "tell") rfl ?_
  unfold f_X5_tell
  refine S_iload_n dX5_tell_0 rfl 1 rfl (pc' := 1) rfl ?_
  refine S_iconst dX5_tell_1 (v := 2) rfl (pc' := 2) rfl ?_
  refine S_stai ml_X5_54 ms_X5_outside dX5_tell_2 [.int a1, .int 2] rfl (fun v h2 q => c_X5_outside Z l _ _ _ q) ⟨Nat.le_of_ble_eq_true rfl, Nat.le_of_ble_eq_true rfl⟩ (rest := []) (Nat.le_of_ble_eq_true rfl) rfl (pc' := 5) rfl (fun x2 h2 => ?_)
  refine S_if_ne dX5_tell_5 27 rfl (pc' := 8) rfl (fun g5 => ?_) (fun g5 => ?_)
  · refine S_aload_n dX5_tell_27 rfl 0 rfl (pc' := 28) rfl ?_
    refine S_bipush dX5_tell_28 (v := (-2)) rfl (pc' := 30) rfl ?_
    refine S_invi ml_X5_58 mi_X5_refuse (ci := 5) ⟨_, rfl, rfl⟩ (by decide) dX5_tell_30 [.int (-2)] rfl (fun v h2 q => c_X5_refuse Z l _ _ _ q) ⟨Nat.le_of_ble_eq_true rfl, Nat.le_of_ble_eq_true rfl⟩ (rest := []) (Nat.le_of_ble_eq_true rfl) rfl (pc' := 33) rfl (fun x30 h30 => ?_)
    exact S_iret rfl dX5_tell_33
  · refine S_iload_n dX5_tell_8 rfl 2 rfl (pc' := 9) rfl ?_
    refine S_iload_n dX5_tell_9 rfl 1 rfl (pc' := 10) rfl ?_
    refine S_if_ne dX5_tell_10 18 rfl (pc' := 13) rfl (fun g10 => ?_) (fun g10 => ?_)
    · refine S_sipush dX5_tell_18 (v := 1000) rfl (pc' := 21) rfl ?_
      refine S_stai ml_X5_54 ms_X5_outside dX5_tell_21 [.int a2, .int 1000] rfl (fun v h2 q => c_X5_outside Z l _ _ _ q) ⟨Nat.le_of_ble_eq_true rfl, Nat.le_of_ble_eq_true rfl⟩ (rest := []) (Nat.le_of_ble_eq_true rfl) rfl (pc' := 24) rfl (fun x21 h21 => ?_)
      refine S_if_eq dX5_tell_24 34 rfl (pc' := 27) rfl (fun g24 => ?_) (fun g24 => ?_)
      · refine S_iload_n dX5_tell_34 rfl 1 rfl (pc' := 35) rfl ?_
        refine S_if_ne_J dX5_tell_35 57 rfl (pc' := 38) rfl g10 ?_
        refine S_aload_n dX5_tell_57 rfl 0 rfl (pc' := 58) rfl ?_
        refine S_getR fl_X5_12 rfl dX5_tell_58 (pc' := 61) rfl (fun x58 => ?_)
        refine S_getI fl_X5_170 rfl dX5_tell_61 (pc' := 64) rfl (fun x61 => ?_)
        refine S_istore_n dX5_tell_64 rfl (by decide) (lo' := [(3, .int x61), (0, .ref (zb Z + t)), (1, .int a1), (2, .int a2)]) rfl (pc' := 65) rfl ?_
        refine S_aload_n dX5_tell_65 rfl 1 rfl (pc' := 66) rfl ?_
        refine S_getR fl_X5_12 rfl dX5_tell_66 (pc' := 69) rfl (fun x66 => ?_)
        refine S_iload_n dX5_tell_69 rfl 3 rfl (pc' := 70) rfl ?_
        refine S_putI fl_X5_170 (by decide) rfl dX5_tell_70 (pc' := 73) rfl (fun h70 => ?_)
        refine S_iload_n dX5_tell_73 rfl 0 rfl (pc' := 74) rfl ?_
        exact S_iret rfl dX5_tell_74
      · refine S_aload_n dX5_tell_27 rfl 0 rfl (pc' := 28) rfl ?_
        refine S_bipush dX5_tell_28 (v := (-2)) rfl (pc' := 30) rfl ?_
        refine S_invi ml_X5_58 mi_X5_refuse (ci := 5) ⟨_, rfl, rfl⟩ (by decide) dX5_tell_30 [.int (-2)] rfl (fun v h2 q => c_X5_refuse Z l _ _ _ q) ⟨Nat.le_of_ble_eq_true rfl, Nat.le_of_ble_eq_true rfl⟩ (rest := []) (Nat.le_of_ble_eq_true rfl) rfl (pc' := 33) rfl (fun x30 h30 => ?_)
        exact S_iret rfl dX5_tell_33
    · refine S_bipush dX5_tell_13 (v := 10) rfl (pc' := 15) rfl ?_
      refine S_goto dX5_tell_15 21 rfl ?_
      refine S_stai ml_X5_54 ms_X5_outside dX5_tell_21 [.int a2, .int 10] rfl (fun v h2 q => c_X5_outside Z l _ _ _ q) ⟨Nat.le_of_ble_eq_true rfl, Nat.le_of_ble_eq_true rfl⟩ (rest := []) (Nat.le_of_ble_eq_true rfl) rfl (pc' := 24) rfl (fun x21 h21 => ?_)
      refine S_if_eq dX5_tell_24 34 rfl (pc' := 27) rfl (fun g24 => ?_) (fun g24 => ?_)
      · refine S_iload_n dX5_tell_34 rfl 1 rfl (pc' := 35) rfl ?_
        refine S_if_ne_N dX5_tell_35 57 rfl (pc' := 38) rfl g10 ?_
        refine S_aload_n dX5_tell_38 rfl 0 rfl (pc' := 39) rfl ?_
        refine S_getR fl_X5_12 rfl dX5_tell_39 (pc' := 42) rfl (fun x39 => ?_)
        refine S_getI fl_X5_167 rfl dX5_tell_42 (pc' := 45) rfl (fun x42 => ?_)
        refine S_istore_n dX5_tell_45 rfl (by decide) (lo' := [(3, .int x42), (0, .ref (zb Z + t)), (1, .int a1), (2, .int a2)]) rfl (pc' := 46) rfl ?_
        refine S_aload_n dX5_tell_46 rfl 1 rfl (pc' := 47) rfl ?_
        refine S_getR fl_X5_12 rfl dX5_tell_47 (pc' := 50) rfl (fun x47 => ?_)
        refine S_iload_n dX5_tell_50 rfl 3 rfl (pc' := 51) rfl ?_
        refine S_putI fl_X5_167 (by decide) rfl dX5_tell_51 (pc' := 54) rfl (fun h51 => ?_)
        refine S_goto dX5_tell_54 73 rfl ?_
        refine S_iload_n dX5_tell_73 rfl 0 rfl (pc' := 74) rfl ?_
        exact S_iret rfl dX5_tell_74
      · refine S_aload_n dX5_tell_27 rfl 0 rfl (pc' := 28) rfl ?_
        refine S_bipush dX5_tell_28 (v := (-2)) rfl (pc' := 30) rfl ?_
        refine S_invi ml_X5_58 mi_X5_refuse (ci := 5) ⟨_, rfl, rfl⟩ (by decide) dX5_tell_30 [.int (-2)] rfl (fun v h2 q => c_X5_refuse Z l _ _ _ q) ⟨Nat.le_of_ble_eq_true rfl, Nat.le_of_ble_eq_true rfl⟩ (rest := []) (Nat.le_of_ble_eq_true rfl) rfl (pc' := 33) rfl (fun x30 h30 => ?_)
        exact S_iret rfl dX5_tell_33
theorem dX5_feed_0 : decode cX5_feed 0 = .ok (.iload_n 1, 1) := by decide +kernel
theorem dX5_feed_1 : decode cX5_feed 1 = .ok (.sipush 256, 3) := by decide +kernel
theorem dX5_feed_4 : decode cX5_feed 4 = .ok (.invokestatic 54, 3) := by decide +kernel
theorem dX5_feed_7 : decode cX5_feed 7 = .ok (.ifCond .eq 10, 3) := by decide +kernel
theorem dX5_feed_10 : decode cX5_feed 10 = .ok (.aload_n 0, 1) := by decide +kernel
theorem dX5_feed_11 : decode cX5_feed 11 = .ok (.bipush (-2), 2) := by decide +kernel
theorem dX5_feed_13 : decode cX5_feed 13 = .ok (.invokevirtual 58, 3) := by decide +kernel
theorem dX5_feed_16 : decode cX5_feed 16 = .ok (.ireturn, 1) := by decide +kernel
theorem dX5_feed_17 : decode cX5_feed 17 = .ok (.aload_n 0, 1) := by decide +kernel
theorem dX5_feed_18 : decode cX5_feed 18 = .ok (.getfield 39, 3) := by decide +kernel
theorem dX5_feed_21 : decode cX5_feed 21 = .ok (.getfield 173, 3) := by decide +kernel
theorem dX5_feed_24 : decode cX5_feed 24 = .ok (.sipush 250, 3) := by decide +kernel
theorem dX5_feed_27 : decode cX5_feed 27 = .ok (.if_icmp .lt 10, 3) := by decide +kernel
theorem dX5_feed_30 : decode cX5_feed 30 = .ok (.aload_n 0, 1) := by decide +kernel
theorem dX5_feed_31 : decode cX5_feed 31 = .ok (.bipush (-6), 2) := by decide +kernel
theorem dX5_feed_33 : decode cX5_feed 33 = .ok (.invokevirtual 58, 3) := by decide +kernel
theorem dX5_feed_36 : decode cX5_feed 36 = .ok (.ireturn, 1) := by decide +kernel
theorem dX5_feed_37 : decode cX5_feed 37 = .ok (.aload_n 0, 1) := by decide +kernel
theorem dX5_feed_38 : decode cX5_feed 38 = .ok (.getfield 39, 3) := by decide +kernel
theorem dX5_feed_41 : decode cX5_feed 41 = .ok (.iload_n 1, 1) := by decide +kernel
theorem dX5_feed_42 : decode cX5_feed 42 = .ok (.invokevirtual 174, 3) := by decide +kernel
theorem dX5_feed_45 : decode cX5_feed 45 = .ok (.ireturn, 1) := by decide +kernel
set_option maxRecDepth 100000 in
set_option maxHeartbeats 4000000 in
theorem c_X5_feed (Z : ZZ) (l : Launch) (t : Nat) (a1 : Int32) (h : HP) {v : Int32} {h1 : HP} (ho : f_X5_feed t a1 h = some (v, h1)) : MetP Z l yX5_feed cX5_feed 2 (some .int) 2 43 [.ref (zb Z + t), .int a1] h (some (.int v)) h1 := by
  refine MetP_of ho (by decide +kernel) (Nat.le_of_ble_eq_true rfl) [(0, .ref (zb Z + t)), (1, .int a1)] rfl (own := RX5) rfl (nm := "feed") rfl ?_
  unfold f_X5_feed
  refine S_iload_n dX5_feed_0 rfl 1 rfl (pc' := 1) rfl ?_
  refine S_sipush dX5_feed_1 (v := 256) rfl (pc' := 4) rfl ?_
  refine S_stai ml_X5_54 ms_X5_outside dX5_feed_4 [.int a1, .int 256] rfl (fun v h2 q => c_X5_outside Z l _ _ _ q) ⟨Nat.le_of_ble_eq_true rfl, Nat.le_of_ble_eq_true rfl⟩ (rest := []) (Nat.le_of_ble_eq_true rfl) rfl (pc' := 7) rfl (fun x4 h4 => ?_)
  refine S_if_eq dX5_feed_7 17 rfl (pc' := 10) rfl (fun g7 => ?_) (fun g7 => ?_)
  · refine S_aload_n dX5_feed_17 rfl 0 rfl (pc' := 18) rfl ?_
    refine S_getR fl_X5_39 rfl dX5_feed_18 (pc' := 21) rfl (fun x18 => ?_)
    refine S_getI fl_X5_173 rfl dX5_feed_21 (pc' := 24) rfl (fun x21 => ?_)
    refine S_sipush dX5_feed_24 (v := 250) rfl (pc' := 27) rfl ?_
    refine S_icmp_lt dX5_feed_27 37 rfl (pc' := 30) rfl (fun g27 => ?_) (fun g27 => ?_)
    · refine S_aload_n dX5_feed_37 rfl 0 rfl (pc' := 38) rfl ?_
      refine S_getR fl_X5_39 rfl dX5_feed_38 (pc' := 41) rfl (fun x38 => ?_)
      refine S_iload_n dX5_feed_41 rfl 1 rfl (pc' := 42) rfl ?_
      refine S_invi ml_X5_174 mi_X2_append (ci := 2) ⟨_, rfl, rfl⟩ (by decide) dX5_feed_42 [.int a1] rfl (fun v h2 q => c_X2_append Z l _ _ _ q) ⟨Nat.le_of_ble_eq_true rfl, Nat.le_of_ble_eq_true rfl⟩ (rest := []) (Nat.le_of_ble_eq_true rfl) rfl (pc' := 45) rfl (fun x42 h42 => ?_)
      exact S_iret rfl dX5_feed_45
    · refine S_aload_n dX5_feed_30 rfl 0 rfl (pc' := 31) rfl ?_
      refine S_bipush dX5_feed_31 (v := (-6)) rfl (pc' := 33) rfl ?_
      refine S_invi ml_X5_58 mi_X5_refuse (ci := 5) ⟨_, rfl, rfl⟩ (by decide) dX5_feed_33 [.int (-6)] rfl (fun v h2 q => c_X5_refuse Z l _ _ _ q) ⟨Nat.le_of_ble_eq_true rfl, Nat.le_of_ble_eq_true rfl⟩ (rest := []) (Nat.le_of_ble_eq_true rfl) rfl (pc' := 36) rfl (fun x33 h33 => ?_)
      exact S_iret rfl dX5_feed_36
  · refine S_aload_n dX5_feed_10 rfl 0 rfl (pc' := 11) rfl ?_
    refine S_bipush dX5_feed_11 (v := (-2)) rfl (pc' := 13) rfl ?_
    refine S_invi ml_X5_58 mi_X5_refuse (ci := 5) ⟨_, rfl, rfl⟩ (by decide) dX5_feed_13 [.int (-2)] rfl (fun v h2 q => c_X5_refuse Z l _ _ _ q) ⟨Nat.le_of_ble_eq_true rfl, Nat.le_of_ble_eq_true rfl⟩ (rest := []) (Nat.le_of_ble_eq_true rfl) rfl (pc' := 16) rfl (fun x13 h13 => ?_)
    exact S_iret rfl dX5_feed_16
theorem dX5_wipe_0 : decode cX5_wipe 0 = .ok (.aload_n 0, 1) := by decide +kernel
theorem dX5_wipe_1 : decode cX5_wipe 1 = .ok (.getfield 39, 3) := by decide +kernel
theorem dX5_wipe_4 : decode cX5_wipe 4 = .ok (.getfield 173, 3) := by decide +kernel
theorem dX5_wipe_7 : decode cX5_wipe 7 = .ok (.istore_n 1, 1) := by decide +kernel
theorem dX5_wipe_8 : decode cX5_wipe 8 = .ok (.aload_n 0, 1) := by decide +kernel
theorem dX5_wipe_9 : decode cX5_wipe 9 = .ok (.getfield 39, 3) := by decide +kernel
theorem dX5_wipe_12 : decode cX5_wipe 12 = .ok (.iconst 0, 1) := by decide +kernel
theorem dX5_wipe_13 : decode cX5_wipe 13 = .ok (.putfield 173, 3) := by decide +kernel
theorem dX5_wipe_16 : decode cX5_wipe 16 = .ok (.iload_n 1, 1) := by decide +kernel
theorem dX5_wipe_17 : decode cX5_wipe 17 = .ok (.ireturn, 1) := by decide +kernel
set_option maxRecDepth 100000 in
set_option maxHeartbeats 4000000 in
theorem c_X5_wipe (Z : ZZ) (l : Launch) (t : Nat) (h : HP) {v : Int32} {h1 : HP} (ho : f_X5_wipe t h = some (v, h1)) : MetP Z l yX5_wipe cX5_wipe 2 (some .int) 0 0 [.ref (zb Z + t)] h (some (.int v)) h1 := by
  refine MetP_of ho (by decide +kernel) (Nat.le_of_ble_eq_true rfl) [(0, .ref (zb Z + t))] rfl (own := RX5) rfl (nm := "wipe") rfl ?_
  unfold f_X5_wipe
  refine S_aload_n dX5_wipe_0 rfl 0 rfl (pc' := 1) rfl ?_
  refine S_getR fl_X5_39 rfl dX5_wipe_1 (pc' := 4) rfl (fun x1 => ?_)
  refine S_getI fl_X5_173 rfl dX5_wipe_4 (pc' := 7) rfl (fun x4 => ?_)
  refine S_istore_n dX5_wipe_7 rfl (by decide) (lo' := [(1, .int x4), (0, .ref (zb Z + t))]) rfl (pc' := 8) rfl ?_
  refine S_aload_n dX5_wipe_8 rfl 1 rfl (pc' := 9) rfl ?_
  refine S_getR fl_X5_39 rfl dX5_wipe_9 (pc' := 12) rfl (fun x9 => ?_)
  refine S_iconst dX5_wipe_12 (v := 0) rfl (pc' := 13) rfl ?_
  refine S_putI fl_X5_173 (by decide) rfl dX5_wipe_13 (pc' := 16) rfl (fun h13 => ?_)
  refine S_iload_n dX5_wipe_16 rfl 0 rfl (pc' := 17) rfl ?_
  exact S_iret rfl dX5_wipe_17
theorem dX5_isle_0 : decode cX5_isle 0 = .ok (.aload_n 0, 1) := by decide +kernel
theorem dX5_isle_1 : decode cX5_isle 1 = .ok (.getfield 19, 3) := by decide +kernel
theorem dX5_isle_4 : decode cX5_isle 4 = .ok (.aload_n 0, 1) := by decide +kernel
theorem dX5_isle_5 : decode cX5_isle 5 = .ok (.getfield 12, 3) := by decide +kernel
theorem dX5_isle_8 : decode cX5_isle 8 = .ok (.invokevirtual 177, 3) := by decide +kernel
theorem dX5_isle_11 : decode cX5_isle 11 = .ok (.aload_n 0, 1) := by decide +kernel
theorem dX5_isle_12 : decode cX5_isle 12 = .ok (.getfield 39, 3) := by decide +kernel
theorem dX5_isle_15 : decode cX5_isle 15 = .ok (.aload_n 0, 1) := by decide +kernel
theorem dX5_isle_16 : decode cX5_isle 16 = .ok (.getfield 19, 3) := by decide +kernel
theorem dX5_isle_19 : decode cX5_isle 19 = .ok (.invokevirtual 181, 3) := by decide +kernel
theorem dX5_isle_22 : decode cX5_isle 22 = .ok (.istore_n 1, 1) := by decide +kernel
theorem dX5_isle_23 : decode cX5_isle 23 = .ok (.aload_n 0, 1) := by decide +kernel
theorem dX5_isle_24 : decode cX5_isle 24 = .ok (.getfield 39, 3) := by decide +kernel
theorem dX5_isle_27 : decode cX5_isle 27 = .ok (.iconst 0, 1) := by decide +kernel
theorem dX5_isle_28 : decode cX5_isle 28 = .ok (.putfield 173, 3) := by decide +kernel
theorem dX5_isle_31 : decode cX5_isle 31 = .ok (.iload_n 1, 1) := by decide +kernel
theorem dX5_isle_32 : decode cX5_isle 32 = .ok (.iconst (-1), 1) := by decide +kernel
theorem dX5_isle_33 : decode cX5_isle 33 = .ok (.if_icmp .ne 21, 3) := by decide +kernel
theorem dX5_isle_36 : decode cX5_isle 36 = .ok (.aload_n 0, 1) := by decide +kernel
theorem dX5_isle_37 : decode cX5_isle 37 = .ok (.bipush (-2), 2) := by decide +kernel
theorem dX5_isle_39 : decode cX5_isle 39 = .ok (.invokevirtual 58, 3) := by decide +kernel
theorem dX5_isle_42 : decode cX5_isle 42 = .ok (.pop, 1) := by decide +kernel
theorem dX5_isle_43 : decode cX5_isle 43 = .ok (.bipush (-20), 2) := by decide +kernel
theorem dX5_isle_45 : decode cX5_isle 45 = .ok (.aload_n 0, 1) := by decide +kernel
theorem dX5_isle_46 : decode cX5_isle 46 = .ok (.getfield 39, 3) := by decide +kernel
theorem dX5_isle_49 : decode cX5_isle 49 = .ok (.getfield 185, 3) := by decide +kernel
theorem dX5_isle_52 : decode cX5_isle 52 = .ok (.isub, 1) := by decide +kernel
theorem dX5_isle_53 : decode cX5_isle 53 = .ok (.ireturn, 1) := by decide +kernel
theorem dX5_isle_54 : decode cX5_isle 54 = .ok (.aload_n 0, 1) := by decide +kernel
theorem dX5_isle_55 : decode cX5_isle 55 = .ok (.getfield 12, 3) := by decide +kernel
theorem dX5_isle_58 : decode cX5_isle 58 = .ok (.aload_n 0, 1) := by decide +kernel
theorem dX5_isle_59 : decode cX5_isle 59 = .ok (.getfield 19, 3) := by decide +kernel
theorem dX5_isle_62 : decode cX5_isle 62 = .ok (.invokevirtual 177, 3) := by decide +kernel
theorem dX5_isle_65 : decode cX5_isle 65 = .ok (.iload_n 1, 1) := by decide +kernel
theorem dX5_isle_66 : decode cX5_isle 66 = .ok (.ireturn, 1) := by decide +kernel
set_option maxRecDepth 100000 in
set_option maxHeartbeats 4000000 in
theorem c_X5_isle (Z : ZZ) (l : Launch) (t : Nat) (h : HP) {v : Int32} {h1 : HP} (ho : f_X5_isle t h = some (v, h1)) : MetP Z l yX5_isle cX5_isle 2 (some .int) 9 230 [.ref (zb Z + t)] h (some (.int v)) h1 := by
  refine MetP_of ho (by decide +kernel) (Nat.le_of_ble_eq_true rfl) [(0, .ref (zb Z + t))] rfl (own := RX5) rfl (nm := "isle") rfl ?_
  unfold f_X5_isle
  refine S_aload_n dX5_isle_0 rfl 0 rfl (pc' := 1) rfl ?_
  refine S_getR fl_X5_19 rfl dX5_isle_1 (pc' := 4) rfl (fun x1 => ?_)
  refine S_aload_n dX5_isle_4 rfl 0 rfl (pc' := 5) rfl ?_
  refine S_getR fl_X5_12 rfl dX5_isle_5 (pc' := 8) rfl (fun x5 => ?_)
  refine S_invv ml_X5_177 mi_X0_become (ci := 0) ⟨_, rfl, rfl⟩ (by decide) dX5_isle_8 [.ref (zb Z + x5)] rfl (fun v h2 q => c_X0_become Z l _ _ _ q) ⟨Nat.le_of_ble_eq_true rfl, Nat.le_of_ble_eq_true rfl⟩ (rest := []) (Nat.le_of_ble_eq_true rfl) rfl (pc' := 11) rfl (fun _ h8 => ?_)
  refine S_aload_n dX5_isle_11 rfl 0 rfl (pc' := 12) rfl ?_
  refine S_getR fl_X5_39 rfl dX5_isle_12 (pc' := 15) rfl (fun x12 => ?_)
  refine S_aload_n dX5_isle_15 rfl 0 rfl (pc' := 16) rfl ?_
  refine S_getR fl_X5_19 rfl dX5_isle_16 (pc' := 19) rfl (fun x16 => ?_)
  refine S_invi ml_X5_181 mi_X2_read (ci := 2) ⟨_, rfl, rfl⟩ (by decide) dX5_isle_19 [.ref (zb Z + x16)] rfl (fun v h2 q => c_X2_read Z l _ _ _ q) ⟨Nat.le_of_ble_eq_true rfl, Nat.le_of_ble_eq_true rfl⟩ (rest := []) (Nat.le_of_ble_eq_true rfl) rfl (pc' := 22) rfl (fun x19 h19 => ?_)
  refine S_istore_n dX5_isle_22 rfl (by decide) (lo' := [(1, .int x19), (0, .ref (zb Z + t))]) rfl (pc' := 23) rfl ?_
  refine S_aload_n dX5_isle_23 rfl 1 rfl (pc' := 24) rfl ?_
  refine S_getR fl_X5_39 rfl dX5_isle_24 (pc' := 27) rfl (fun x24 => ?_)
  refine S_iconst dX5_isle_27 (v := 0) rfl (pc' := 28) rfl ?_
  refine S_putI fl_X5_173 (by decide) rfl dX5_isle_28 (pc' := 31) rfl (fun h28 => ?_)
  refine S_iload_n dX5_isle_31 rfl 0 rfl (pc' := 32) rfl ?_
  refine S_iconst dX5_isle_32 (v := (-1)) rfl (pc' := 33) rfl ?_
  refine S_icmp_ne dX5_isle_33 54 rfl (pc' := 36) rfl (fun g33 => ?_) (fun g33 => ?_)
  · refine S_aload_n dX5_isle_54 rfl 1 rfl (pc' := 55) rfl ?_
    refine S_getR fl_X5_12 rfl dX5_isle_55 (pc' := 58) rfl (fun x55 => ?_)
    refine S_aload_n dX5_isle_58 rfl 1 rfl (pc' := 59) rfl ?_
    refine S_getR fl_X5_19 rfl dX5_isle_59 (pc' := 62) rfl (fun x59 => ?_)
    refine S_invv ml_X5_177 mi_X0_become (ci := 0) ⟨_, rfl, rfl⟩ (by decide) dX5_isle_62 [.ref (zb Z + x59)] rfl (fun v h2 q => c_X0_become Z l _ _ _ q) ⟨Nat.le_of_ble_eq_true rfl, Nat.le_of_ble_eq_true rfl⟩ (rest := []) (Nat.le_of_ble_eq_true rfl) rfl (pc' := 65) rfl (fun _ h62 => ?_)
    refine S_iload_n dX5_isle_65 rfl 0 rfl (pc' := 66) rfl ?_
    exact S_iret rfl dX5_isle_66
  · refine S_aload_n dX5_isle_36 rfl 1 rfl (pc' := 37) rfl ?_
    refine S_bipush dX5_isle_37 (v := (-2)) rfl (pc' := 39) rfl ?_
    refine S_invi ml_X5_58 mi_X5_refuse (ci := 5) ⟨_, rfl, rfl⟩ (by decide) dX5_isle_39 [.int (-2)] rfl (fun v h2 q => c_X5_refuse Z l _ _ _ q) ⟨Nat.le_of_ble_eq_true rfl, Nat.le_of_ble_eq_true rfl⟩ (rest := []) (Nat.le_of_ble_eq_true rfl) rfl (pc' := 42) rfl (fun x39 h39 => ?_)
    refine S_pop dX5_isle_42 rfl (pc' := 43) rfl ?_
    refine S_bipush dX5_isle_43 (v := (-20)) rfl (pc' := 45) rfl ?_
    refine S_aload_n dX5_isle_45 rfl 1 rfl (pc' := 46) rfl ?_
    refine S_getR fl_X5_39 rfl dX5_isle_46 (pc' := 49) rfl (fun x46 => ?_)
    refine S_getI fl_X5_185 rfl dX5_isle_49 (pc' := 52) rfl (fun x49 => ?_)
    refine S_isub dX5_isle_52 (pc' := 53) rfl ?_
    exact S_iret rfl dX5_isle_53
theorem dX5_personOf_0 : decode cX5_personOf 0 = .ok (.aload_n 0, 1) := by decide +kernel
theorem dX5_personOf_1 : decode cX5_personOf 1 = .ok (.iload_n 1, 1) := by decide +kernel
theorem dX5_personOf_2 : decode cX5_personOf 2 = .ok (.invokevirtual 98, 3) := by decide +kernel
theorem dX5_personOf_5 : decode cX5_personOf 5 = .ok (.ifCond .eq 10, 3) := by decide +kernel
theorem dX5_personOf_8 : decode cX5_personOf 8 = .ok (.aload_n 0, 1) := by decide +kernel
theorem dX5_personOf_9 : decode cX5_personOf 9 = .ok (.bipush (-2), 2) := by decide +kernel
theorem dX5_personOf_11 : decode cX5_personOf 11 = .ok (.invokevirtual 58, 3) := by decide +kernel
theorem dX5_personOf_14 : decode cX5_personOf 14 = .ok (.ireturn, 1) := by decide +kernel
theorem dX5_personOf_15 : decode cX5_personOf 15 = .ok (.iload_n 2, 1) := by decide +kernel
theorem dX5_personOf_16 : decode cX5_personOf 16 = .ok (.tableswitch 115 0 6 #[44, 54, 64, 74, 84, 96, 106], 44) := by decide +kernel
theorem dX5_personOf_60 : decode cX5_personOf 60 = .ok (.aload_n 0, 1) := by decide +kernel
theorem dX5_personOf_61 : decode cX5_personOf 61 = .ok (.getfield 12, 3) := by decide +kernel
theorem dX5_personOf_64 : decode cX5_personOf 64 = .ok (.getfield 188, 3) := by decide +kernel
theorem dX5_personOf_67 : decode cX5_personOf 67 = .ok (.iload_n 1, 1) := by decide +kernel
theorem dX5_personOf_68 : decode cX5_personOf 68 = .ok (.iaload, 1) := by decide +kernel
theorem dX5_personOf_69 : decode cX5_personOf 69 = .ok (.ireturn, 1) := by decide +kernel
theorem dX5_personOf_70 : decode cX5_personOf 70 = .ok (.aload_n 0, 1) := by decide +kernel
theorem dX5_personOf_71 : decode cX5_personOf 71 = .ok (.getfield 12, 3) := by decide +kernel
theorem dX5_personOf_74 : decode cX5_personOf 74 = .ok (.getfield 191, 3) := by decide +kernel
theorem dX5_personOf_77 : decode cX5_personOf 77 = .ok (.iload_n 1, 1) := by decide +kernel
theorem dX5_personOf_78 : decode cX5_personOf 78 = .ok (.iaload, 1) := by decide +kernel
theorem dX5_personOf_79 : decode cX5_personOf 79 = .ok (.ireturn, 1) := by decide +kernel
theorem dX5_personOf_80 : decode cX5_personOf 80 = .ok (.aload_n 0, 1) := by decide +kernel
theorem dX5_personOf_81 : decode cX5_personOf 81 = .ok (.getfield 12, 3) := by decide +kernel
theorem dX5_personOf_84 : decode cX5_personOf 84 = .ok (.getfield 105, 3) := by decide +kernel
theorem dX5_personOf_87 : decode cX5_personOf 87 = .ok (.iload_n 1, 1) := by decide +kernel
theorem dX5_personOf_88 : decode cX5_personOf 88 = .ok (.iaload, 1) := by decide +kernel
theorem dX5_personOf_89 : decode cX5_personOf 89 = .ok (.ireturn, 1) := by decide +kernel
theorem dX5_personOf_90 : decode cX5_personOf 90 = .ok (.aload_n 0, 1) := by decide +kernel
theorem dX5_personOf_91 : decode cX5_personOf 91 = .ok (.getfield 12, 3) := by decide +kernel
theorem dX5_personOf_94 : decode cX5_personOf 94 = .ok (.getfield 125, 3) := by decide +kernel
theorem dX5_personOf_97 : decode cX5_personOf 97 = .ok (.iload_n 1, 1) := by decide +kernel
theorem dX5_personOf_98 : decode cX5_personOf 98 = .ok (.iaload, 1) := by decide +kernel
theorem dX5_personOf_99 : decode cX5_personOf 99 = .ok (.ireturn, 1) := by decide +kernel
theorem dX5_personOf_100 : decode cX5_personOf 100 = .ok (.aload_n 0, 1) := by decide +kernel
theorem dX5_personOf_101 : decode cX5_personOf 101 = .ok (.getfield 12, 3) := by decide +kernel
theorem dX5_personOf_104 : decode cX5_personOf 104 = .ok (.getfield 128, 3) := by decide +kernel
theorem dX5_personOf_107 : decode cX5_personOf 107 = .ok (.iload_n 1, 1) := by decide +kernel
theorem dX5_personOf_108 : decode cX5_personOf 108 = .ok (.ishr, 1) := by decide +kernel
theorem dX5_personOf_109 : decode cX5_personOf 109 = .ok (.iconst 1, 1) := by decide +kernel
theorem dX5_personOf_110 : decode cX5_personOf 110 = .ok (.iand, 1) := by decide +kernel
theorem dX5_personOf_111 : decode cX5_personOf 111 = .ok (.ireturn, 1) := by decide +kernel
theorem dX5_personOf_112 : decode cX5_personOf 112 = .ok (.aload_n 0, 1) := by decide +kernel
theorem dX5_personOf_113 : decode cX5_personOf 113 = .ok (.getfield 12, 3) := by decide +kernel
theorem dX5_personOf_116 : decode cX5_personOf 116 = .ok (.getfield 160, 3) := by decide +kernel
theorem dX5_personOf_119 : decode cX5_personOf 119 = .ok (.iload_n 1, 1) := by decide +kernel
theorem dX5_personOf_120 : decode cX5_personOf 120 = .ok (.iaload, 1) := by decide +kernel
theorem dX5_personOf_121 : decode cX5_personOf 121 = .ok (.ireturn, 1) := by decide +kernel
theorem dX5_personOf_122 : decode cX5_personOf 122 = .ok (.aload_n 0, 1) := by decide +kernel
theorem dX5_personOf_123 : decode cX5_personOf 123 = .ok (.getfield 12, 3) := by decide +kernel
theorem dX5_personOf_126 : decode cX5_personOf 126 = .ok (.iload_n 1, 1) := by decide +kernel
theorem dX5_personOf_127 : decode cX5_personOf 127 = .ok (.invokevirtual 194, 3) := by decide +kernel
theorem dX5_personOf_130 : decode cX5_personOf 130 = .ok (.ireturn, 1) := by decide +kernel
theorem dX5_personOf_131 : decode cX5_personOf 131 = .ok (.aload_n 0, 1) := by decide +kernel
theorem dX5_personOf_132 : decode cX5_personOf 132 = .ok (.bipush (-2), 2) := by decide +kernel
theorem dX5_personOf_134 : decode cX5_personOf 134 = .ok (.invokevirtual 58, 3) := by decide +kernel
theorem dX5_personOf_137 : decode cX5_personOf 137 = .ok (.ireturn, 1) := by decide +kernel
set_option maxRecDepth 100000 in
set_option maxHeartbeats 4000000 in
theorem c_X5_personOf (Z : ZZ) (l : Launch) (t : Nat) (a1 : Int32) (a2 : Int32) (h : HP) {v : Int32} {h1 : HP} (ho : f_X5_personOf t a1 a2 h = some (v, h1)) : MetP Z l yX5_personOf cX5_personOf 3 (some .int) 2 45 [.ref (zb Z + t), .int a1, .int a2] h (some (.int v)) h1 := by
  refine MetP_of ho (by decide +kernel) (Nat.le_of_ble_eq_true rfl) [(0, .ref (zb Z + t)), (1, .int a1), (2, .int a2)] rfl (own := RX5) rfl (nm := "personOf") rfl ?_
  unfold f_X5_personOf
  refine S_aload_n dX5_personOf_0 rfl 0 rfl (pc' := 1) rfl ?_
  refine S_iload_n dX5_personOf_1 rfl 1 rfl (pc' := 2) rfl ?_
  refine S_invi ml_X5_98 mi_X5_noPerson (ci := 5) ⟨_, rfl, rfl⟩ (by decide) dX5_personOf_2 [.int a1] rfl (fun v h2 q => c_X5_noPerson Z l _ _ _ q) ⟨Nat.le_of_ble_eq_true rfl, Nat.le_of_ble_eq_true rfl⟩ (rest := []) (Nat.le_of_ble_eq_true rfl) rfl (pc' := 5) rfl (fun x2 h2 => ?_)
  refine S_if_eq dX5_personOf_5 15 rfl (pc' := 8) rfl (fun g5 => ?_) (fun g5 => ?_)
  · refine S_iload_n dX5_personOf_15 rfl 2 rfl (pc' := 16) rfl ?_
    refine Sim.ite (fun g16_0 => ?_) (fun g16_0 => ?_)
    · refine S_tabIn dX5_personOf_16 g16_0 0 rfl (by decide) (off := 44) rfl 60 rfl ?_
      refine S_aload_n dX5_personOf_60 rfl 0 rfl (pc' := 61) rfl ?_
      refine S_getR fl_X5_12 rfl dX5_personOf_61 (pc' := 64) rfl (fun x61 => ?_)
      refine S_getR fl_X5_188 rfl dX5_personOf_64 (pc' := 67) rfl (fun x64 => ?_)
      refine S_iload_n dX5_personOf_67 rfl 1 rfl (pc' := 68) rfl ?_
      refine S_iaload dX5_personOf_68 (pc' := 69) rfl (fun x68 => ?_)
      exact S_iret rfl dX5_personOf_69
    refine Sim.ite (fun g16_1 => ?_) (fun g16_1 => ?_)
    · refine S_tabIn dX5_personOf_16 g16_1 1 rfl (by decide) (off := 54) rfl 70 rfl ?_
      refine S_aload_n dX5_personOf_70 rfl 0 rfl (pc' := 71) rfl ?_
      refine S_getR fl_X5_12 rfl dX5_personOf_71 (pc' := 74) rfl (fun x71 => ?_)
      refine S_getR fl_X5_191 rfl dX5_personOf_74 (pc' := 77) rfl (fun x74 => ?_)
      refine S_iload_n dX5_personOf_77 rfl 1 rfl (pc' := 78) rfl ?_
      refine S_iaload dX5_personOf_78 (pc' := 79) rfl (fun x78 => ?_)
      exact S_iret rfl dX5_personOf_79
    refine Sim.ite (fun g16_2 => ?_) (fun g16_2 => ?_)
    · refine S_tabIn dX5_personOf_16 g16_2 2 rfl (by decide) (off := 64) rfl 80 rfl ?_
      refine S_aload_n dX5_personOf_80 rfl 0 rfl (pc' := 81) rfl ?_
      refine S_getR fl_X5_12 rfl dX5_personOf_81 (pc' := 84) rfl (fun x81 => ?_)
      refine S_getR fl_X5_105 rfl dX5_personOf_84 (pc' := 87) rfl (fun x84 => ?_)
      refine S_iload_n dX5_personOf_87 rfl 1 rfl (pc' := 88) rfl ?_
      refine S_iaload dX5_personOf_88 (pc' := 89) rfl (fun x88 => ?_)
      exact S_iret rfl dX5_personOf_89
    refine Sim.ite (fun g16_3 => ?_) (fun g16_3 => ?_)
    · refine S_tabIn dX5_personOf_16 g16_3 3 rfl (by decide) (off := 74) rfl 90 rfl ?_
      refine S_aload_n dX5_personOf_90 rfl 0 rfl (pc' := 91) rfl ?_
      refine S_getR fl_X5_12 rfl dX5_personOf_91 (pc' := 94) rfl (fun x91 => ?_)
      refine S_getR fl_X5_125 rfl dX5_personOf_94 (pc' := 97) rfl (fun x94 => ?_)
      refine S_iload_n dX5_personOf_97 rfl 1 rfl (pc' := 98) rfl ?_
      refine S_iaload dX5_personOf_98 (pc' := 99) rfl (fun x98 => ?_)
      exact S_iret rfl dX5_personOf_99
    refine Sim.ite (fun g16_4 => ?_) (fun g16_4 => ?_)
    · refine S_tabIn dX5_personOf_16 g16_4 4 rfl (by decide) (off := 84) rfl 100 rfl ?_
      refine S_aload_n dX5_personOf_100 rfl 0 rfl (pc' := 101) rfl ?_
      refine S_getR fl_X5_12 rfl dX5_personOf_101 (pc' := 104) rfl (fun x101 => ?_)
      refine S_getI fl_X5_128 rfl dX5_personOf_104 (pc' := 107) rfl (fun x104 => ?_)
      refine S_iload_n dX5_personOf_107 rfl 1 rfl (pc' := 108) rfl ?_
      refine S_ishr dX5_personOf_108 (pc' := 109) rfl ?_
      refine S_iconst dX5_personOf_109 (v := 1) rfl (pc' := 110) rfl ?_
      refine S_iand dX5_personOf_110 (pc' := 111) rfl ?_
      exact S_iret rfl dX5_personOf_111
    refine Sim.ite (fun g16_5 => ?_) (fun g16_5 => ?_)
    · refine S_tabIn dX5_personOf_16 g16_5 5 rfl (by decide) (off := 96) rfl 112 rfl ?_
      refine S_aload_n dX5_personOf_112 rfl 0 rfl (pc' := 113) rfl ?_
      refine S_getR fl_X5_12 rfl dX5_personOf_113 (pc' := 116) rfl (fun x113 => ?_)
      refine S_getR fl_X5_160 rfl dX5_personOf_116 (pc' := 119) rfl (fun x116 => ?_)
      refine S_iload_n dX5_personOf_119 rfl 1 rfl (pc' := 120) rfl ?_
      refine S_iaload dX5_personOf_120 (pc' := 121) rfl (fun x120 => ?_)
      exact S_iret rfl dX5_personOf_121
    refine Sim.ite (fun g16_6 => ?_) (fun g16_6 => ?_)
    · refine S_tabIn dX5_personOf_16 g16_6 6 rfl (by decide) (off := 106) rfl 122 rfl ?_
      refine S_aload_n dX5_personOf_122 rfl 0 rfl (pc' := 123) rfl ?_
      refine S_getR fl_X5_12 rfl dX5_personOf_123 (pc' := 126) rfl (fun x123 => ?_)
      refine S_iload_n dX5_personOf_126 rfl 1 rfl (pc' := 127) rfl ?_
      refine S_invi ml_X5_194 mi_X0_repertoire (ci := 0) ⟨_, rfl, rfl⟩ (by decide) dX5_personOf_127 [.int a1] rfl (fun v h2 q => c_X0_repertoire Z l _ _ _ q) ⟨Nat.le_of_ble_eq_true rfl, Nat.le_of_ble_eq_true rfl⟩ (rest := []) (Nat.le_of_ble_eq_true rfl) rfl (pc' := 130) rfl (fun x127 h127 => ?_)
      exact S_iret rfl dX5_personOf_130
    refine S_tabOut dX5_personOf_16 (by
        have q0 := i32_ne g16_0
        have q1 := i32_ne g16_1
        have q2 := i32_ne g16_2
        have q3 := i32_ne g16_3
        have q4 := i32_ne g16_4
        have q5 := i32_ne g16_5
        have q6 := i32_ne g16_6
        simp only [show Int32.toInt 0 = 0 from rfl, show Int32.toInt 1 = 1 from rfl, show Int32.toInt 2 = 2 from rfl, show Int32.toInt 3 = 3 from rfl, show Int32.toInt 4 = 4 from rfl, show Int32.toInt 5 = 5 from rfl, show Int32.toInt 6 = 6 from rfl] at q0 q1 q2 q3 q4 q5 q6
        omega) 131 rfl ?_
    refine S_aload_n dX5_personOf_131 rfl 0 rfl (pc' := 132) rfl ?_
    refine S_bipush dX5_personOf_132 (v := (-2)) rfl (pc' := 134) rfl ?_
    refine S_invi ml_X5_58 mi_X5_refuse (ci := 5) ⟨_, rfl, rfl⟩ (by decide) dX5_personOf_134 [.int (-2)] rfl (fun v h2 q => c_X5_refuse Z l _ _ _ q) ⟨Nat.le_of_ble_eq_true rfl, Nat.le_of_ble_eq_true rfl⟩ (rest := []) (Nat.le_of_ble_eq_true rfl) rfl (pc' := 137) rfl (fun x134 h134 => ?_)
    exact S_iret rfl dX5_personOf_137
  · refine S_aload_n dX5_personOf_8 rfl 0 rfl (pc' := 9) rfl ?_
    refine S_bipush dX5_personOf_9 (v := (-2)) rfl (pc' := 11) rfl ?_
    refine S_invi ml_X5_58 mi_X5_refuse (ci := 5) ⟨_, rfl, rfl⟩ (by decide) dX5_personOf_11 [.int (-2)] rfl (fun v h2 q => c_X5_refuse Z l _ _ _ q) ⟨Nat.le_of_ble_eq_true rfl, Nat.le_of_ble_eq_true rfl⟩ (rest := []) (Nat.le_of_ble_eq_true rfl) rfl (pc' := 14) rfl (fun x11 h11 => ?_)
    exact S_iret rfl dX5_personOf_14
theorem dX5_songOf_0 : decode cX5_songOf 0 = .ok (.aload_n 0, 1) := by decide +kernel
theorem dX5_songOf_1 : decode cX5_songOf 1 = .ok (.iload_n 1, 1) := by decide +kernel
theorem dX5_songOf_2 : decode cX5_songOf 2 = .ok (.invokevirtual 135, 3) := by decide +kernel
theorem dX5_songOf_5 : decode cX5_songOf 5 = .ok (.ifCond .eq 10, 3) := by decide +kernel
theorem dX5_songOf_8 : decode cX5_songOf 8 = .ok (.aload_n 0, 1) := by decide +kernel
theorem dX5_songOf_9 : decode cX5_songOf 9 = .ok (.bipush (-2), 2) := by decide +kernel
theorem dX5_songOf_11 : decode cX5_songOf 11 = .ok (.invokevirtual 58, 3) := by decide +kernel
theorem dX5_songOf_14 : decode cX5_songOf 14 = .ok (.ireturn, 1) := by decide +kernel
theorem dX5_songOf_15 : decode cX5_songOf 15 = .ok (.iload_n 2, 1) := by decide +kernel
theorem dX5_songOf_16 : decode cX5_songOf 16 = .ok (.tableswitch 88 0 4 #[36, 46, 56, 66, 75], 36) := by decide +kernel
theorem dX5_songOf_52 : decode cX5_songOf 52 = .ok (.aload_n 0, 1) := by decide +kernel
theorem dX5_songOf_53 : decode cX5_songOf 53 = .ok (.getfield 12, 3) := by decide +kernel
theorem dX5_songOf_56 : decode cX5_songOf 56 = .ok (.getfield 141, 3) := by decide +kernel
theorem dX5_songOf_59 : decode cX5_songOf 59 = .ok (.iload_n 1, 1) := by decide +kernel
theorem dX5_songOf_60 : decode cX5_songOf 60 = .ok (.iaload, 1) := by decide +kernel
theorem dX5_songOf_61 : decode cX5_songOf 61 = .ok (.ireturn, 1) := by decide +kernel
theorem dX5_songOf_62 : decode cX5_songOf 62 = .ok (.aload_n 0, 1) := by decide +kernel
theorem dX5_songOf_63 : decode cX5_songOf 63 = .ok (.getfield 12, 3) := by decide +kernel
theorem dX5_songOf_66 : decode cX5_songOf 66 = .ok (.getfield 144, 3) := by decide +kernel
theorem dX5_songOf_69 : decode cX5_songOf 69 = .ok (.iload_n 1, 1) := by decide +kernel
theorem dX5_songOf_70 : decode cX5_songOf 70 = .ok (.iaload, 1) := by decide +kernel
theorem dX5_songOf_71 : decode cX5_songOf 71 = .ok (.ireturn, 1) := by decide +kernel
theorem dX5_songOf_72 : decode cX5_songOf 72 = .ok (.aload_n 0, 1) := by decide +kernel
theorem dX5_songOf_73 : decode cX5_songOf 73 = .ok (.getfield 12, 3) := by decide +kernel
theorem dX5_songOf_76 : decode cX5_songOf 76 = .ok (.getfield 147, 3) := by decide +kernel
theorem dX5_songOf_79 : decode cX5_songOf 79 = .ok (.iload_n 1, 1) := by decide +kernel
theorem dX5_songOf_80 : decode cX5_songOf 80 = .ok (.iaload, 1) := by decide +kernel
theorem dX5_songOf_81 : decode cX5_songOf 81 = .ok (.ireturn, 1) := by decide +kernel
theorem dX5_songOf_82 : decode cX5_songOf 82 = .ok (.aload_n 0, 1) := by decide +kernel
theorem dX5_songOf_83 : decode cX5_songOf 83 = .ok (.getfield 12, 3) := by decide +kernel
theorem dX5_songOf_86 : decode cX5_songOf 86 = .ok (.iload_n 1, 1) := by decide +kernel
theorem dX5_songOf_87 : decode cX5_songOf 87 = .ok (.invokevirtual 197, 3) := by decide +kernel
theorem dX5_songOf_90 : decode cX5_songOf 90 = .ok (.ireturn, 1) := by decide +kernel
theorem dX5_songOf_91 : decode cX5_songOf 91 = .ok (.aload_n 0, 1) := by decide +kernel
theorem dX5_songOf_92 : decode cX5_songOf 92 = .ok (.getfield 32, 3) := by decide +kernel
theorem dX5_songOf_95 : decode cX5_songOf 95 = .ok (.aload_n 0, 1) := by decide +kernel
theorem dX5_songOf_96 : decode cX5_songOf 96 = .ok (.getfield 12, 3) := by decide +kernel
theorem dX5_songOf_99 : decode cX5_songOf 99 = .ok (.iload_n 1, 1) := by decide +kernel
theorem dX5_songOf_100 : decode cX5_songOf 100 = .ok (.invokevirtual 200, 3) := by decide +kernel
theorem dX5_songOf_103 : decode cX5_songOf 103 = .ok (.ireturn, 1) := by decide +kernel
theorem dX5_songOf_104 : decode cX5_songOf 104 = .ok (.aload_n 0, 1) := by decide +kernel
theorem dX5_songOf_105 : decode cX5_songOf 105 = .ok (.bipush (-2), 2) := by decide +kernel
theorem dX5_songOf_107 : decode cX5_songOf 107 = .ok (.invokevirtual 58, 3) := by decide +kernel
theorem dX5_songOf_110 : decode cX5_songOf 110 = .ok (.ireturn, 1) := by decide +kernel
set_option maxRecDepth 100000 in
set_option maxHeartbeats 4000000 in
theorem c_X5_songOf (Z : ZZ) (l : Launch) (t : Nat) (a1 : Int32) (a2 : Int32) (h : HP) {v : Int32} {h1 : HP} (ho : f_X5_songOf t a1 a2 h = some (v, h1)) : MetP Z l yX5_songOf cX5_songOf 3 (some .int) 2 45 [.ref (zb Z + t), .int a1, .int a2] h (some (.int v)) h1 := by
  refine MetP_of ho (by decide +kernel) (Nat.le_of_ble_eq_true rfl) [(0, .ref (zb Z + t)), (1, .int a1), (2, .int a2)] rfl (own := RX5) rfl (nm := "songOf") rfl ?_
  unfold f_X5_songOf
  refine S_aload_n dX5_songOf_0 rfl 0 rfl (pc' := 1) rfl ?_
  refine S_iload_n dX5_songOf_1 rfl 1 rfl (pc' := 2) rfl ?_
  refine S_invi ml_X5_135 mi_X5_noSong (ci := 5) ⟨_, rfl, rfl⟩ (by decide) dX5_songOf_2 [.int a1] rfl (fun v h2 q => c_X5_noSong Z l _ _ _ q) ⟨Nat.le_of_ble_eq_true rfl, Nat.le_of_ble_eq_true rfl⟩ (rest := []) (Nat.le_of_ble_eq_true rfl) rfl (pc' := 5) rfl (fun x2 h2 => ?_)
  refine S_if_eq dX5_songOf_5 15 rfl (pc' := 8) rfl (fun g5 => ?_) (fun g5 => ?_)
  · refine S_iload_n dX5_songOf_15 rfl 2 rfl (pc' := 16) rfl ?_
    refine Sim.ite (fun g16_0 => ?_) (fun g16_0 => ?_)
    · refine S_tabIn dX5_songOf_16 g16_0 0 rfl (by decide) (off := 36) rfl 52 rfl ?_
      refine S_aload_n dX5_songOf_52 rfl 0 rfl (pc' := 53) rfl ?_
      refine S_getR fl_X5_12 rfl dX5_songOf_53 (pc' := 56) rfl (fun x53 => ?_)
      refine S_getR fl_X5_141 rfl dX5_songOf_56 (pc' := 59) rfl (fun x56 => ?_)
      refine S_iload_n dX5_songOf_59 rfl 1 rfl (pc' := 60) rfl ?_
      refine S_iaload dX5_songOf_60 (pc' := 61) rfl (fun x60 => ?_)
      exact S_iret rfl dX5_songOf_61
    refine Sim.ite (fun g16_1 => ?_) (fun g16_1 => ?_)
    · refine S_tabIn dX5_songOf_16 g16_1 1 rfl (by decide) (off := 46) rfl 62 rfl ?_
      refine S_aload_n dX5_songOf_62 rfl 0 rfl (pc' := 63) rfl ?_
      refine S_getR fl_X5_12 rfl dX5_songOf_63 (pc' := 66) rfl (fun x63 => ?_)
      refine S_getR fl_X5_144 rfl dX5_songOf_66 (pc' := 69) rfl (fun x66 => ?_)
      refine S_iload_n dX5_songOf_69 rfl 1 rfl (pc' := 70) rfl ?_
      refine S_iaload dX5_songOf_70 (pc' := 71) rfl (fun x70 => ?_)
      exact S_iret rfl dX5_songOf_71
    refine Sim.ite (fun g16_2 => ?_) (fun g16_2 => ?_)
    · refine S_tabIn dX5_songOf_16 g16_2 2 rfl (by decide) (off := 56) rfl 72 rfl ?_
      refine S_aload_n dX5_songOf_72 rfl 0 rfl (pc' := 73) rfl ?_
      refine S_getR fl_X5_12 rfl dX5_songOf_73 (pc' := 76) rfl (fun x73 => ?_)
      refine S_getR fl_X5_147 rfl dX5_songOf_76 (pc' := 79) rfl (fun x76 => ?_)
      refine S_iload_n dX5_songOf_79 rfl 1 rfl (pc' := 80) rfl ?_
      refine S_iaload dX5_songOf_80 (pc' := 81) rfl (fun x80 => ?_)
      exact S_iret rfl dX5_songOf_81
    refine Sim.ite (fun g16_3 => ?_) (fun g16_3 => ?_)
    · refine S_tabIn dX5_songOf_16 g16_3 3 rfl (by decide) (off := 66) rfl 82 rfl ?_
      refine S_aload_n dX5_songOf_82 rfl 0 rfl (pc' := 83) rfl ?_
      refine S_getR fl_X5_12 rfl dX5_songOf_83 (pc' := 86) rfl (fun x83 => ?_)
      refine S_iload_n dX5_songOf_86 rfl 1 rfl (pc' := 87) rfl ?_
      refine S_invi ml_X5_197 mi_X0_havers (ci := 0) ⟨_, rfl, rfl⟩ (by decide) dX5_songOf_87 [.int a1] rfl (fun v h2 q => c_X0_havers Z l _ _ _ q) ⟨Nat.le_of_ble_eq_true rfl, Nat.le_of_ble_eq_true rfl⟩ (rest := []) (Nat.le_of_ble_eq_true rfl) rfl (pc' := 90) rfl (fun x87 h87 => ?_)
      exact S_iret rfl dX5_songOf_90
    refine Sim.ite (fun g16_4 => ?_) (fun g16_4 => ?_)
    · refine S_tabIn dX5_songOf_16 g16_4 4 rfl (by decide) (off := 75) rfl 91 rfl ?_
      refine S_aload_n dX5_songOf_91 rfl 0 rfl (pc' := 92) rfl ?_
      refine S_getR fl_X5_32 rfl dX5_songOf_92 (pc' := 95) rfl (fun x92 => ?_)
      refine S_aload_n dX5_songOf_95 rfl 0 rfl (pc' := 96) rfl ?_
      refine S_getR fl_X5_12 rfl dX5_songOf_96 (pc' := 99) rfl (fun x96 => ?_)
      refine S_iload_n dX5_songOf_99 rfl 1 rfl (pc' := 100) rfl ?_
      refine S_invi ml_X5_200 mi_X4_asDigits (ci := 4) ⟨_, rfl, rfl⟩ (by decide) dX5_songOf_100 [.ref (zb Z + x96), .int a1] rfl (fun v h2 q => c_X4_asDigits Z l _ _ _ _ q) ⟨Nat.le_of_ble_eq_true rfl, Nat.le_of_ble_eq_true rfl⟩ (rest := []) (Nat.le_of_ble_eq_true rfl) rfl (pc' := 103) rfl (fun x100 h100 => ?_)
      exact S_iret rfl dX5_songOf_103
    refine S_tabOut dX5_songOf_16 (by
        have q0 := i32_ne g16_0
        have q1 := i32_ne g16_1
        have q2 := i32_ne g16_2
        have q3 := i32_ne g16_3
        have q4 := i32_ne g16_4
        simp only [show Int32.toInt 0 = 0 from rfl, show Int32.toInt 1 = 1 from rfl, show Int32.toInt 2 = 2 from rfl, show Int32.toInt 3 = 3 from rfl, show Int32.toInt 4 = 4 from rfl] at q0 q1 q2 q3 q4
        omega) 104 rfl ?_
    refine S_aload_n dX5_songOf_104 rfl 0 rfl (pc' := 105) rfl ?_
    refine S_bipush dX5_songOf_105 (v := (-2)) rfl (pc' := 107) rfl ?_
    refine S_invi ml_X5_58 mi_X5_refuse (ci := 5) ⟨_, rfl, rfl⟩ (by decide) dX5_songOf_107 [.int (-2)] rfl (fun v h2 q => c_X5_refuse Z l _ _ _ q) ⟨Nat.le_of_ble_eq_true rfl, Nat.le_of_ble_eq_true rfl⟩ (rest := []) (Nat.le_of_ble_eq_true rfl) rfl (pc' := 110) rfl (fun x107 h107 => ?_)
    exact S_iret rfl dX5_songOf_110
  · refine S_aload_n dX5_songOf_8 rfl 0 rfl (pc' := 9) rfl ?_
    refine S_bipush dX5_songOf_9 (v := (-2)) rfl (pc' := 11) rfl ?_
    refine S_invi ml_X5_58 mi_X5_refuse (ci := 5) ⟨_, rfl, rfl⟩ (by decide) dX5_songOf_11 [.int (-2)] rfl (fun v h2 q => c_X5_refuse Z l _ _ _ q) ⟨Nat.le_of_ble_eq_true rfl, Nat.le_of_ble_eq_true rfl⟩ (rest := []) (Nat.le_of_ble_eq_true rfl) rfl (pc' := 14) rfl (fun x11 h11 => ?_)
    exact S_iret rfl dX5_songOf_14
theorem dX5_years_0 : decode cX5_years 0 = .ok (.aload_n 0, 1) := by decide +kernel
theorem dX5_years_1 : decode cX5_years 1 = .ok (.iload_n 1, 1) := by decide +kernel
theorem dX5_years_2 : decode cX5_years 2 = .ok (.invokevirtual 98, 3) := by decide +kernel
theorem dX5_years_5 : decode cX5_years 5 = .ok (.ifCond .ne 11, 3) := by decide +kernel
theorem dX5_years_8 : decode cX5_years 8 = .ok (.aload_n 0, 1) := by decide +kernel
theorem dX5_years_9 : decode cX5_years 9 = .ok (.iload_n 2, 1) := by decide +kernel
theorem dX5_years_10 : decode cX5_years 10 = .ok (.invokevirtual 135, 3) := by decide +kernel
theorem dX5_years_13 : decode cX5_years 13 = .ok (.ifCond .eq 10, 3) := by decide +kernel
theorem dX5_years_16 : decode cX5_years 16 = .ok (.aload_n 0, 1) := by decide +kernel
theorem dX5_years_17 : decode cX5_years 17 = .ok (.bipush (-2), 2) := by decide +kernel
theorem dX5_years_19 : decode cX5_years 19 = .ok (.invokevirtual 58, 3) := by decide +kernel
theorem dX5_years_22 : decode cX5_years 22 = .ok (.ireturn, 1) := by decide +kernel
theorem dX5_years_23 : decode cX5_years 23 = .ok (.aload_n 0, 1) := by decide +kernel
theorem dX5_years_24 : decode cX5_years 24 = .ok (.getfield 12, 3) := by decide +kernel
theorem dX5_years_27 : decode cX5_years 27 = .ok (.iload_n 1, 1) := by decide +kernel
theorem dX5_years_28 : decode cX5_years 28 = .ok (.iload_n 2, 1) := by decide +kernel
theorem dX5_years_29 : decode cX5_years 29 = .ok (.invokevirtual 153, 3) := by decide +kernel
theorem dX5_years_32 : decode cX5_years 32 = .ok (.istore_n 3, 1) := by decide +kernel
theorem dX5_years_33 : decode cX5_years 33 = .ok (.iload_n 3, 1) := by decide +kernel
theorem dX5_years_34 : decode cX5_years 34 = .ok (.iconst (-1), 1) := by decide +kernel
theorem dX5_years_35 : decode cX5_years 35 = .ok (.if_icmp .ne 8, 3) := by decide +kernel
theorem dX5_years_38 : decode cX5_years 38 = .ok (.bipush 100, 2) := by decide +kernel
theorem dX5_years_40 : decode cX5_years 40 = .ok (.goto 4, 3) := by decide +kernel
theorem dX5_years_43 : decode cX5_years 43 = .ok (.iload_n 3, 1) := by decide +kernel
theorem dX5_years_44 : decode cX5_years 44 = .ok (.ireturn, 1) := by decide +kernel
set_option maxRecDepth 100000 in
set_option maxHeartbeats 4000000 in
theorem c_X5_years (Z : ZZ) (l : Launch) (t : Nat) (a1 : Int32) (a2 : Int32) (h : HP) {v : Int32} {h1 : HP} (ho : f_X5_years t a1 a2 h = some (v, h1)) : MetP Z l yX5_years cX5_years 4 (some .int) 2 43 [.ref (zb Z + t), .int a1, .int a2] h (some (.int v)) h1 := by
  refine MetP_of ho (by decide +kernel) (Nat.le_of_ble_eq_true rfl) [(0, .ref (zb Z + t)), (1, .int a1), (2, .int a2)] rfl (own := RX5) rfl (nm := "years") rfl ?_
  unfold f_X5_years
  refine S_aload_n dX5_years_0 rfl 0 rfl (pc' := 1) rfl ?_
  refine S_iload_n dX5_years_1 rfl 1 rfl (pc' := 2) rfl ?_
  refine S_invi ml_X5_98 mi_X5_noPerson (ci := 5) ⟨_, rfl, rfl⟩ (by decide) dX5_years_2 [.int a1] rfl (fun v h2 q => c_X5_noPerson Z l _ _ _ q) ⟨Nat.le_of_ble_eq_true rfl, Nat.le_of_ble_eq_true rfl⟩ (rest := []) (Nat.le_of_ble_eq_true rfl) rfl (pc' := 5) rfl (fun x2 h2 => ?_)
  refine S_if_ne dX5_years_5 16 rfl (pc' := 8) rfl (fun g5 => ?_) (fun g5 => ?_)
  · refine S_aload_n dX5_years_16 rfl 0 rfl (pc' := 17) rfl ?_
    refine S_bipush dX5_years_17 (v := (-2)) rfl (pc' := 19) rfl ?_
    refine S_invi ml_X5_58 mi_X5_refuse (ci := 5) ⟨_, rfl, rfl⟩ (by decide) dX5_years_19 [.int (-2)] rfl (fun v h2 q => c_X5_refuse Z l _ _ _ q) ⟨Nat.le_of_ble_eq_true rfl, Nat.le_of_ble_eq_true rfl⟩ (rest := []) (Nat.le_of_ble_eq_true rfl) rfl (pc' := 22) rfl (fun x19 h19 => ?_)
    exact S_iret rfl dX5_years_22
  · refine S_aload_n dX5_years_8 rfl 0 rfl (pc' := 9) rfl ?_
    refine S_iload_n dX5_years_9 rfl 2 rfl (pc' := 10) rfl ?_
    refine S_invi ml_X5_135 mi_X5_noSong (ci := 5) ⟨_, rfl, rfl⟩ (by decide) dX5_years_10 [.int a2] rfl (fun v h2 q => c_X5_noSong Z l _ _ _ q) ⟨Nat.le_of_ble_eq_true rfl, Nat.le_of_ble_eq_true rfl⟩ (rest := []) (Nat.le_of_ble_eq_true rfl) rfl (pc' := 13) rfl (fun x10 h10 => ?_)
    refine S_if_eq dX5_years_13 23 rfl (pc' := 16) rfl (fun g13 => ?_) (fun g13 => ?_)
    · refine S_aload_n dX5_years_23 rfl 0 rfl (pc' := 24) rfl ?_
      refine S_getR fl_X5_12 rfl dX5_years_24 (pc' := 27) rfl (fun x24 => ?_)
      refine S_iload_n dX5_years_27 rfl 1 rfl (pc' := 28) rfl ?_
      refine S_iload_n dX5_years_28 rfl 2 rfl (pc' := 29) rfl ?_
      refine S_invi ml_X5_153 mi_X0_heldFor (ci := 0) ⟨_, rfl, rfl⟩ (by decide) dX5_years_29 [.int a1, .int a2] rfl (fun v h2 q => c_X0_heldFor Z l _ _ _ _ q) ⟨Nat.le_of_ble_eq_true rfl, Nat.le_of_ble_eq_true rfl⟩ (rest := []) (Nat.le_of_ble_eq_true rfl) rfl (pc' := 32) rfl (fun x29 h29 => ?_)
      refine S_istore_n dX5_years_32 rfl (by decide) (lo' := [(3, .int x29), (0, .ref (zb Z + t)), (1, .int a1), (2, .int a2)]) rfl (pc' := 33) rfl ?_
      refine S_iload_n dX5_years_33 rfl 0 rfl (pc' := 34) rfl ?_
      refine S_iconst dX5_years_34 (v := (-1)) rfl (pc' := 35) rfl ?_
      refine S_icmp_ne dX5_years_35 43 rfl (pc' := 38) rfl (fun g35 => ?_) (fun g35 => ?_)
      · refine S_iload_n dX5_years_43 rfl 0 rfl (pc' := 44) rfl ?_
        exact S_iret rfl dX5_years_44
      · refine S_bipush dX5_years_38 (v := 100) rfl (pc' := 40) rfl ?_
        refine S_goto dX5_years_40 44 rfl ?_
        exact S_iret rfl dX5_years_44
    · refine S_aload_n dX5_years_16 rfl 0 rfl (pc' := 17) rfl ?_
      refine S_bipush dX5_years_17 (v := (-2)) rfl (pc' := 19) rfl ?_
      refine S_invi ml_X5_58 mi_X5_refuse (ci := 5) ⟨_, rfl, rfl⟩ (by decide) dX5_years_19 [.int (-2)] rfl (fun v h2 q => c_X5_refuse Z l _ _ _ q) ⟨Nat.le_of_ble_eq_true rfl, Nat.le_of_ble_eq_true rfl⟩ (rest := []) (Nat.le_of_ble_eq_true rfl) rfl (pc' := 22) rfl (fun x19 h19 => ?_)
      exact S_iret rfl dX5_years_22
theorem dX5_hold_0 : decode cX5_hold 0 = .ok (.aload_n 0, 1) := by decide +kernel
theorem dX5_hold_1 : decode cX5_hold 1 = .ok (.iload_n 1, 1) := by decide +kernel
theorem dX5_hold_2 : decode cX5_hold 2 = .ok (.invokevirtual 98, 3) := by decide +kernel
theorem dX5_hold_5 : decode cX5_hold 5 = .ok (.ifCond .ne 11, 3) := by decide +kernel
theorem dX5_hold_8 : decode cX5_hold 8 = .ok (.aload_n 0, 1) := by decide +kernel
theorem dX5_hold_9 : decode cX5_hold 9 = .ok (.iload_n 2, 1) := by decide +kernel
theorem dX5_hold_10 : decode cX5_hold 10 = .ok (.invokevirtual 135, 3) := by decide +kernel
theorem dX5_hold_13 : decode cX5_hold 13 = .ok (.ifCond .eq 10, 3) := by decide +kernel
theorem dX5_hold_16 : decode cX5_hold 16 = .ok (.aload_n 0, 1) := by decide +kernel
theorem dX5_hold_17 : decode cX5_hold 17 = .ok (.bipush (-2), 2) := by decide +kernel
theorem dX5_hold_19 : decode cX5_hold 19 = .ok (.invokevirtual 58, 3) := by decide +kernel
theorem dX5_hold_22 : decode cX5_hold 22 = .ok (.ireturn, 1) := by decide +kernel
theorem dX5_hold_23 : decode cX5_hold 23 = .ok (.aload_n 0, 1) := by decide +kernel
theorem dX5_hold_24 : decode cX5_hold 24 = .ok (.getfield 12, 3) := by decide +kernel
theorem dX5_hold_27 : decode cX5_hold 27 = .ok (.iload_n 1, 1) := by decide +kernel
theorem dX5_hold_28 : decode cX5_hold 28 = .ok (.aload_n 0, 1) := by decide +kernel
theorem dX5_hold_29 : decode cX5_hold 29 = .ok (.getfield 12, 3) := by decide +kernel
theorem dX5_hold_32 : decode cX5_hold 32 = .ok (.getfield 141, 3) := by decide +kernel
theorem dX5_hold_35 : decode cX5_hold 35 = .ok (.iload_n 2, 1) := by decide +kernel
theorem dX5_hold_36 : decode cX5_hold 36 = .ok (.iaload, 1) := by decide +kernel
theorem dX5_hold_37 : decode cX5_hold 37 = .ok (.invokevirtual 108, 3) := by decide +kernel
theorem dX5_hold_40 : decode cX5_hold 40 = .ok (.ireturn, 1) := by decide +kernel
set_option maxRecDepth 100000 in
set_option maxHeartbeats 4000000 in
theorem c_X5_hold (Z : ZZ) (l : Launch) (t : Nat) (a1 : Int32) (a2 : Int32) (h : HP) {v : Int32} {h1 : HP} (ho : f_X5_hold t a1 a2 h = some (v, h1)) : MetP Z l yX5_hold cX5_hold 3 (some .int) 2 43 [.ref (zb Z + t), .int a1, .int a2] h (some (.int v)) h1 := by
  refine MetP_of ho (by decide +kernel) (Nat.le_of_ble_eq_true rfl) [(0, .ref (zb Z + t)), (1, .int a1), (2, .int a2)] rfl (own := RX5) rfl (nm := "hold") rfl ?_
  unfold f_X5_hold
  refine S_aload_n dX5_hold_0 rfl 0 rfl (pc' := 1) rfl ?_
  refine S_iload_n dX5_hold_1 rfl 1 rfl (pc' := 2) rfl ?_
  refine S_invi ml_X5_98 mi_X5_noPerson (ci := 5) ⟨_, rfl, rfl⟩ (by decide) dX5_hold_2 [.int a1] rfl (fun v h2 q => c_X5_noPerson Z l _ _ _ q) ⟨Nat.le_of_ble_eq_true rfl, Nat.le_of_ble_eq_true rfl⟩ (rest := []) (Nat.le_of_ble_eq_true rfl) rfl (pc' := 5) rfl (fun x2 h2 => ?_)
  refine S_if_ne dX5_hold_5 16 rfl (pc' := 8) rfl (fun g5 => ?_) (fun g5 => ?_)
  · refine S_aload_n dX5_hold_16 rfl 0 rfl (pc' := 17) rfl ?_
    refine S_bipush dX5_hold_17 (v := (-2)) rfl (pc' := 19) rfl ?_
    refine S_invi ml_X5_58 mi_X5_refuse (ci := 5) ⟨_, rfl, rfl⟩ (by decide) dX5_hold_19 [.int (-2)] rfl (fun v h2 q => c_X5_refuse Z l _ _ _ q) ⟨Nat.le_of_ble_eq_true rfl, Nat.le_of_ble_eq_true rfl⟩ (rest := []) (Nat.le_of_ble_eq_true rfl) rfl (pc' := 22) rfl (fun x19 h19 => ?_)
    exact S_iret rfl dX5_hold_22
  · refine S_aload_n dX5_hold_8 rfl 0 rfl (pc' := 9) rfl ?_
    refine S_iload_n dX5_hold_9 rfl 2 rfl (pc' := 10) rfl ?_
    refine S_invi ml_X5_135 mi_X5_noSong (ci := 5) ⟨_, rfl, rfl⟩ (by decide) dX5_hold_10 [.int a2] rfl (fun v h2 q => c_X5_noSong Z l _ _ _ q) ⟨Nat.le_of_ble_eq_true rfl, Nat.le_of_ble_eq_true rfl⟩ (rest := []) (Nat.le_of_ble_eq_true rfl) rfl (pc' := 13) rfl (fun x10 h10 => ?_)
    refine S_if_eq dX5_hold_13 23 rfl (pc' := 16) rfl (fun g13 => ?_) (fun g13 => ?_)
    · refine S_aload_n dX5_hold_23 rfl 0 rfl (pc' := 24) rfl ?_
      refine S_getR fl_X5_12 rfl dX5_hold_24 (pc' := 27) rfl (fun x24 => ?_)
      refine S_iload_n dX5_hold_27 rfl 1 rfl (pc' := 28) rfl ?_
      refine S_aload_n dX5_hold_28 rfl 0 rfl (pc' := 29) rfl ?_
      refine S_getR fl_X5_12 rfl dX5_hold_29 (pc' := 32) rfl (fun x29 => ?_)
      refine S_getR fl_X5_141 rfl dX5_hold_32 (pc' := 35) rfl (fun x32 => ?_)
      refine S_iload_n dX5_hold_35 rfl 2 rfl (pc' := 36) rfl ?_
      refine S_iaload dX5_hold_36 (pc' := 37) rfl (fun x36 => ?_)
      refine S_invi ml_X5_108 mi_X0_holdOn (ci := 0) ⟨_, rfl, rfl⟩ (by decide) dX5_hold_37 [.int a1, .int x36] rfl (fun v h2 q => c_X0_holdOn Z l _ _ _ _ q) ⟨Nat.le_of_ble_eq_true rfl, Nat.le_of_ble_eq_true rfl⟩ (rest := []) (Nat.le_of_ble_eq_true rfl) rfl (pc' := 40) rfl (fun x37 h37 => ?_)
      exact S_iret rfl dX5_hold_40
    · refine S_aload_n dX5_hold_16 rfl 0 rfl (pc' := 17) rfl ?_
      refine S_bipush dX5_hold_17 (v := (-2)) rfl (pc' := 19) rfl ?_
      refine S_invi ml_X5_58 mi_X5_refuse (ci := 5) ⟨_, rfl, rfl⟩ (by decide) dX5_hold_19 [.int (-2)] rfl (fun v h2 q => c_X5_refuse Z l _ _ _ q) ⟨Nat.le_of_ble_eq_true rfl, Nat.le_of_ble_eq_true rfl⟩ (rest := []) (Nat.le_of_ble_eq_true rfl) rfl (pc' := 22) rfl (fun x19 h19 => ?_)
      exact S_iret rfl dX5_hold_22
theorem dX5_finder_0 : decode cX5_finder 0 = .ok (.aload_n 0, 1) := by decide +kernel
theorem dX5_finder_1 : decode cX5_finder 1 = .ok (.getfield 12, 3) := by decide +kernel
theorem dX5_finder_4 : decode cX5_finder 4 = .ok (.invokevirtual 204, 3) := by decide +kernel
theorem dX5_finder_7 : decode cX5_finder 7 = .ok (.ireturn, 1) := by decide +kernel
set_option maxRecDepth 100000 in
set_option maxHeartbeats 4000000 in
theorem c_X5_finder (Z : ZZ) (l : Launch) (t : Nat) (h : HP) {v : Int32} {h1 : HP} (ho : f_X5_finder t h = some (v, h1)) : MetP Z l yX5_finder cX5_finder 1 (some .int) 1 22 [.ref (zb Z + t)] h (some (.int v)) h1 := by
  refine MetP_of ho (by decide +kernel) (Nat.le_of_ble_eq_true rfl) [(0, .ref (zb Z + t))] rfl (own := RX5) rfl (nm := "finder") rfl ?_
  unfold f_X5_finder
  refine S_aload_n dX5_finder_0 rfl 0 rfl (pc' := 1) rfl ?_
  refine S_getR fl_X5_12 rfl dX5_finder_1 (pc' := 4) rfl (fun x1 => ?_)
  refine S_invi ml_X5_204 mi_X0_bestMemory (ci := 0) ⟨_, rfl, rfl⟩ (by decide) dX5_finder_4 [] rfl (fun v h2 q => c_X0_bestMemory Z l _ _ q) ⟨Nat.le_of_ble_eq_true rfl, Nat.le_of_ble_eq_true rfl⟩ (rest := []) (Nat.le_of_ble_eq_true rfl) rfl (pc' := 7) rfl (fun x4 h4 => ?_)
  exact S_iret rfl dX5_finder_7
theorem dX5_songs_0 : decode cX5_songs 0 = .ok (.iload_n 1, 1) := by decide +kernel
theorem dX5_songs_1 : decode cX5_songs 1 = .ok (.iconst 4, 1) := by decide +kernel
theorem dX5_songs_2 : decode cX5_songs 2 = .ok (.invokestatic 54, 3) := by decide +kernel
theorem dX5_songs_5 : decode cX5_songs 5 = .ok (.ifCond .eq 10, 3) := by decide +kernel
theorem dX5_songs_8 : decode cX5_songs 8 = .ok (.aload_n 0, 1) := by decide +kernel
theorem dX5_songs_9 : decode cX5_songs 9 = .ok (.bipush (-2), 2) := by decide +kernel
theorem dX5_songs_11 : decode cX5_songs 11 = .ok (.invokevirtual 58, 3) := by decide +kernel
theorem dX5_songs_14 : decode cX5_songs 14 = .ok (.ireturn, 1) := by decide +kernel
theorem dX5_songs_15 : decode cX5_songs 15 = .ok (.iload_n 1, 1) := by decide +kernel
theorem dX5_songs_16 : decode cX5_songs 16 = .ok (.ifCond .ne 13, 3) := by decide +kernel
theorem dX5_songs_19 : decode cX5_songs 19 = .ok (.aload_n 0, 1) := by decide +kernel
theorem dX5_songs_20 : decode cX5_songs 20 = .ok (.getfield 12, 3) := by decide +kernel
theorem dX5_songs_23 : decode cX5_songs 23 = .ok (.invokevirtual 207, 3) := by decide +kernel
theorem dX5_songs_26 : decode cX5_songs 26 = .ok (.goto 13, 3) := by decide +kernel
theorem dX5_songs_29 : decode cX5_songs 29 = .ok (.aload_n 0, 1) := by decide +kernel
theorem dX5_songs_30 : decode cX5_songs 30 = .ok (.getfield 12, 3) := by decide +kernel
theorem dX5_songs_33 : decode cX5_songs 33 = .ok (.iload_n 1, 1) := by decide +kernel
theorem dX5_songs_34 : decode cX5_songs 34 = .ok (.iconst 1, 1) := by decide +kernel
theorem dX5_songs_35 : decode cX5_songs 35 = .ok (.isub, 1) := by decide +kernel
theorem dX5_songs_36 : decode cX5_songs 36 = .ok (.invokevirtual 210, 3) := by decide +kernel
theorem dX5_songs_39 : decode cX5_songs 39 = .ok (.ireturn, 1) := by decide +kernel
set_option maxRecDepth 100000 in
set_option maxHeartbeats 4000000 in
theorem c_X5_songs (Z : ZZ) (l : Launch) (t : Nat) (a1 : Int32) (h : HP) {v : Int32} {h1 : HP} (ho : f_X5_songs t a1 h = some (v, h1)) : MetP Z l yX5_songs cX5_songs 2 (some .int) 3 67 [.ref (zb Z + t), .int a1] h (some (.int v)) h1 := by
  refine MetP_of ho (by decide +kernel) (Nat.le_of_ble_eq_true rfl) [(0, .ref (zb Z + t)), (1, .int a1)] rfl (own := RX5) rfl (nm := "songs") rfl ?_
  unfold f_X5_songs
  refine S_iload_n dX5_songs_0 rfl 1 rfl (pc' := 1) rfl ?_
  refine S_iconst dX5_songs_1 (v := 4) rfl (pc' := 2) rfl ?_
  refine S_stai ml_X5_54 ms_X5_outside dX5_songs_2 [.int a1, .int 4] rfl (fun v h2 q => c_X5_outside Z l _ _ _ q) ⟨Nat.le_of_ble_eq_true rfl, Nat.le_of_ble_eq_true rfl⟩ (rest := []) (Nat.le_of_ble_eq_true rfl) rfl (pc' := 5) rfl (fun x2 h2 => ?_)
  refine S_if_eq dX5_songs_5 15 rfl (pc' := 8) rfl (fun g5 => ?_) (fun g5 => ?_)
  · refine S_iload_n dX5_songs_15 rfl 1 rfl (pc' := 16) rfl ?_
    refine S_if_ne dX5_songs_16 29 rfl (pc' := 19) rfl (fun g16 => ?_) (fun g16 => ?_)
    · refine S_aload_n dX5_songs_29 rfl 0 rfl (pc' := 30) rfl ?_
      refine S_getR fl_X5_12 rfl dX5_songs_30 (pc' := 33) rfl (fun x30 => ?_)
      refine S_iload_n dX5_songs_33 rfl 1 rfl (pc' := 34) rfl ?_
      refine S_iconst dX5_songs_34 (v := 1) rfl (pc' := 35) rfl ?_
      refine S_isub dX5_songs_35 (pc' := 36) rfl ?_
      refine S_invi ml_X5_210 mi_X0_songsOfState (ci := 0) ⟨_, rfl, rfl⟩ (by decide) dX5_songs_36 [.int (a1 - 1)] rfl (fun v h2 q => c_X0_songsOfState Z l _ _ _ q) ⟨Nat.le_of_ble_eq_true rfl, Nat.le_of_ble_eq_true rfl⟩ (rest := []) (Nat.le_of_ble_eq_true rfl) rfl (pc' := 39) rfl (fun x36 h36 => ?_)
      exact S_iret rfl dX5_songs_39
    · refine S_aload_n dX5_songs_19 rfl 0 rfl (pc' := 20) rfl ?_
      refine S_getR fl_X5_12 rfl dX5_songs_20 (pc' := 23) rfl (fun x20 => ?_)
      refine S_invi ml_X5_207 mi_X0_knownSongs (ci := 0) ⟨_, rfl, rfl⟩ (by decide) dX5_songs_23 [] rfl (fun v h2 q => c_X0_knownSongs Z l _ _ q) ⟨Nat.le_of_ble_eq_true rfl, Nat.le_of_ble_eq_true rfl⟩ (rest := []) (Nat.le_of_ble_eq_true rfl) rfl (pc' := 26) rfl (fun x23 h23 => ?_)
      refine S_goto dX5_songs_26 39 rfl ?_
      exact S_iret rfl dX5_songs_39
  · refine S_aload_n dX5_songs_8 rfl 0 rfl (pc' := 9) rfl ?_
    refine S_bipush dX5_songs_9 (v := (-2)) rfl (pc' := 11) rfl ?_
    refine S_invi ml_X5_58 mi_X5_refuse (ci := 5) ⟨_, rfl, rfl⟩ (by decide) dX5_songs_11 [.int (-2)] rfl (fun v h2 q => c_X5_refuse Z l _ _ _ q) ⟨Nat.le_of_ble_eq_true rfl, Nat.le_of_ble_eq_true rfl⟩ (rest := []) (Nat.le_of_ble_eq_true rfl) rfl (pc' := 14) rfl (fun x11 h11 => ?_)
    exact S_iret rfl dX5_songs_14
theorem dX5_people_0 : decode cX5_people 0 = .ok (.iload_n 1, 1) := by decide +kernel
theorem dX5_people_1 : decode cX5_people 1 = .ok (.iconst 2, 1) := by decide +kernel
theorem dX5_people_2 : decode cX5_people 2 = .ok (.invokestatic 54, 3) := by decide +kernel
theorem dX5_people_5 : decode cX5_people 5 = .ok (.ifCond .eq 10, 3) := by decide +kernel
theorem dX5_people_8 : decode cX5_people 8 = .ok (.aload_n 0, 1) := by decide +kernel
theorem dX5_people_9 : decode cX5_people 9 = .ok (.bipush (-2), 2) := by decide +kernel
theorem dX5_people_11 : decode cX5_people 11 = .ok (.invokevirtual 58, 3) := by decide +kernel
theorem dX5_people_14 : decode cX5_people 14 = .ok (.ireturn, 1) := by decide +kernel
theorem dX5_people_15 : decode cX5_people 15 = .ok (.iload_n 1, 1) := by decide +kernel
theorem dX5_people_16 : decode cX5_people 16 = .ok (.ifCond .ne 13, 3) := by decide +kernel
theorem dX5_people_19 : decode cX5_people 19 = .ok (.aload_n 0, 1) := by decide +kernel
theorem dX5_people_20 : decode cX5_people 20 = .ok (.getfield 12, 3) := by decide +kernel
theorem dX5_people_23 : decode cX5_people 23 = .ok (.invokevirtual 213, 3) := by decide +kernel
theorem dX5_people_26 : decode cX5_people 26 = .ok (.goto 17, 3) := by decide +kernel
theorem dX5_people_29 : decode cX5_people 29 = .ok (.aload_n 0, 1) := by decide +kernel
theorem dX5_people_30 : decode cX5_people 30 = .ok (.getfield 12, 3) := by decide +kernel
theorem dX5_people_33 : decode cX5_people 33 = .ok (.aload_n 0, 1) := by decide +kernel
theorem dX5_people_34 : decode cX5_people 34 = .ok (.getfield 12, 3) := by decide +kernel
theorem dX5_people_37 : decode cX5_people 37 = .ok (.invokevirtual 207, 3) := by decide +kernel
theorem dX5_people_40 : decode cX5_people 40 = .ok (.invokevirtual 216, 3) := by decide +kernel
theorem dX5_people_43 : decode cX5_people 43 = .ok (.ireturn, 1) := by decide +kernel
set_option maxRecDepth 100000 in
set_option maxHeartbeats 4000000 in
theorem c_X5_people (Z : ZZ) (l : Launch) (t : Nat) (a1 : Int32) (h : HP) {v : Int32} {h1 : HP} (ho : f_X5_people t a1 h = some (v, h1)) : MetP Z l yX5_people cX5_people 2 (some .int) 3 68 [.ref (zb Z + t), .int a1] h (some (.int v)) h1 := by
  refine MetP_of ho (by decide +kernel) (Nat.le_of_ble_eq_true rfl) [(0, .ref (zb Z + t)), (1, .int a1)] rfl (own := RX5) rfl (nm := "people") rfl ?_
  unfold f_X5_people
  refine S_iload_n dX5_people_0 rfl 1 rfl (pc' := 1) rfl ?_
  refine S_iconst dX5_people_1 (v := 2) rfl (pc' := 2) rfl ?_
  refine S_stai ml_X5_54 ms_X5_outside dX5_people_2 [.int a1, .int 2] rfl (fun v h2 q => c_X5_outside Z l _ _ _ q) ⟨Nat.le_of_ble_eq_true rfl, Nat.le_of_ble_eq_true rfl⟩ (rest := []) (Nat.le_of_ble_eq_true rfl) rfl (pc' := 5) rfl (fun x2 h2 => ?_)
  refine S_if_eq dX5_people_5 15 rfl (pc' := 8) rfl (fun g5 => ?_) (fun g5 => ?_)
  · refine S_iload_n dX5_people_15 rfl 1 rfl (pc' := 16) rfl ?_
    refine S_if_ne dX5_people_16 29 rfl (pc' := 19) rfl (fun g16 => ?_) (fun g16 => ?_)
    · refine S_aload_n dX5_people_29 rfl 0 rfl (pc' := 30) rfl ?_
      refine S_getR fl_X5_12 rfl dX5_people_30 (pc' := 33) rfl (fun x30 => ?_)
      refine S_aload_n dX5_people_33 rfl 0 rfl (pc' := 34) rfl ?_
      refine S_getR fl_X5_12 rfl dX5_people_34 (pc' := 37) rfl (fun x34 => ?_)
      refine S_invi ml_X5_207 mi_X0_knownSongs (ci := 0) ⟨_, rfl, rfl⟩ (by decide) dX5_people_37 [] rfl (fun v h2 q => c_X0_knownSongs Z l _ _ q) ⟨Nat.le_of_ble_eq_true rfl, Nat.le_of_ble_eq_true rfl⟩ (rest := [.ref (zb Z + x30)]) (Nat.le_of_ble_eq_true rfl) rfl (pc' := 40) rfl (fun x37 h37 => ?_)
      refine S_invi ml_X5_216 mi_X0_peopleWithAll (ci := 0) ⟨_, rfl, rfl⟩ (by decide) dX5_people_40 [.int x37] rfl (fun v h2 q => c_X0_peopleWithAll Z l _ _ _ q) ⟨Nat.le_of_ble_eq_true rfl, Nat.le_of_ble_eq_true rfl⟩ (rest := []) (Nat.le_of_ble_eq_true rfl) rfl (pc' := 43) rfl (fun x40 h40 => ?_)
      exact S_iret rfl dX5_people_43
    · refine S_aload_n dX5_people_19 rfl 0 rfl (pc' := 20) rfl ?_
      refine S_getR fl_X5_12 rfl dX5_people_20 (pc' := 23) rfl (fun x20 => ?_)
      refine S_invi ml_X5_213 mi_X0_peopleWithNone (ci := 0) ⟨_, rfl, rfl⟩ (by decide) dX5_people_23 [] rfl (fun v h2 q => c_X0_peopleWithNone Z l _ _ q) ⟨Nat.le_of_ble_eq_true rfl, Nat.le_of_ble_eq_true rfl⟩ (rest := []) (Nat.le_of_ble_eq_true rfl) rfl (pc' := 26) rfl (fun x23 h23 => ?_)
      refine S_goto dX5_people_26 43 rfl ?_
      exact S_iret rfl dX5_people_43
  · refine S_aload_n dX5_people_8 rfl 0 rfl (pc' := 9) rfl ?_
    refine S_bipush dX5_people_9 (v := (-2)) rfl (pc' := 11) rfl ?_
    refine S_invi ml_X5_58 mi_X5_refuse (ci := 5) ⟨_, rfl, rfl⟩ (by decide) dX5_people_11 [.int (-2)] rfl (fun v h2 q => c_X5_refuse Z l _ _ _ q) ⟨Nat.le_of_ble_eq_true rfl, Nat.le_of_ble_eq_true rfl⟩ (rest := []) (Nat.le_of_ble_eq_true rfl) rfl (pc' := 14) rfl (fun x11 h11 => ?_)
    exact S_iret rfl dX5_people_14
theorem dX5_both_0 : decode cX5_both 0 = .ok (.aload_n 0, 1) := by decide +kernel
theorem dX5_both_1 : decode cX5_both 1 = .ok (.iload_n 1, 1) := by decide +kernel
theorem dX5_both_2 : decode cX5_both 2 = .ok (.invokevirtual 98, 3) := by decide +kernel
theorem dX5_both_5 : decode cX5_both 5 = .ok (.ifCond .ne 16, 3) := by decide +kernel
theorem dX5_both_8 : decode cX5_both 8 = .ok (.aload_n 0, 1) := by decide +kernel
theorem dX5_both_9 : decode cX5_both 9 = .ok (.iload_n 2, 1) := by decide +kernel
theorem dX5_both_10 : decode cX5_both 10 = .ok (.invokevirtual 98, 3) := by decide +kernel
theorem dX5_both_13 : decode cX5_both 13 = .ok (.ifCond .ne 8, 3) := by decide +kernel
theorem dX5_both_16 : decode cX5_both 16 = .ok (.iload_n 1, 1) := by decide +kernel
theorem dX5_both_17 : decode cX5_both 17 = .ok (.iload_n 2, 1) := by decide +kernel
theorem dX5_both_18 : decode cX5_both 18 = .ok (.if_icmp .ne 10, 3) := by decide +kernel
theorem dX5_both_21 : decode cX5_both 21 = .ok (.aload_n 0, 1) := by decide +kernel
theorem dX5_both_22 : decode cX5_both 22 = .ok (.bipush (-2), 2) := by decide +kernel
theorem dX5_both_24 : decode cX5_both 24 = .ok (.invokevirtual 58, 3) := by decide +kernel
theorem dX5_both_27 : decode cX5_both 27 = .ok (.ireturn, 1) := by decide +kernel
theorem dX5_both_28 : decode cX5_both 28 = .ok (.aload_n 0, 1) := by decide +kernel
theorem dX5_both_29 : decode cX5_both 29 = .ok (.getfield 12, 3) := by decide +kernel
theorem dX5_both_32 : decode cX5_both 32 = .ok (.iload_n 1, 1) := by decide +kernel
theorem dX5_both_33 : decode cX5_both 33 = .ok (.invokevirtual 194, 3) := by decide +kernel
theorem dX5_both_36 : decode cX5_both 36 = .ok (.aload_n 0, 1) := by decide +kernel
theorem dX5_both_37 : decode cX5_both 37 = .ok (.getfield 12, 3) := by decide +kernel
theorem dX5_both_40 : decode cX5_both 40 = .ok (.iload_n 2, 1) := by decide +kernel
theorem dX5_both_41 : decode cX5_both 41 = .ok (.invokevirtual 194, 3) := by decide +kernel
theorem dX5_both_44 : decode cX5_both 44 = .ok (.iand, 1) := by decide +kernel
theorem dX5_both_45 : decode cX5_both 45 = .ok (.ireturn, 1) := by decide +kernel
set_option maxRecDepth 100000 in
set_option maxHeartbeats 4000000 in
theorem c_X5_both (Z : ZZ) (l : Launch) (t : Nat) (a1 : Int32) (a2 : Int32) (h : HP) {v : Int32} {h1 : HP} (ho : f_X5_both t a1 a2 h = some (v, h1)) : MetP Z l yX5_both cX5_both 3 (some .int) 2 45 [.ref (zb Z + t), .int a1, .int a2] h (some (.int v)) h1 := by
  refine MetP_of ho (by decide +kernel) (Nat.le_of_ble_eq_true rfl) [(0, .ref (zb Z + t)), (1, .int a1), (2, .int a2)] rfl (own := RX5) rfl (nm := "both") rfl ?_
  unfold f_X5_both
  refine S_aload_n dX5_both_0 rfl 0 rfl (pc' := 1) rfl ?_
  refine S_iload_n dX5_both_1 rfl 1 rfl (pc' := 2) rfl ?_
  refine S_invi ml_X5_98 mi_X5_noPerson (ci := 5) ⟨_, rfl, rfl⟩ (by decide) dX5_both_2 [.int a1] rfl (fun v h2 q => c_X5_noPerson Z l _ _ _ q) ⟨Nat.le_of_ble_eq_true rfl, Nat.le_of_ble_eq_true rfl⟩ (rest := []) (Nat.le_of_ble_eq_true rfl) rfl (pc' := 5) rfl (fun x2 h2 => ?_)
  refine S_if_ne dX5_both_5 21 rfl (pc' := 8) rfl (fun g5 => ?_) (fun g5 => ?_)
  · refine S_aload_n dX5_both_21 rfl 0 rfl (pc' := 22) rfl ?_
    refine S_bipush dX5_both_22 (v := (-2)) rfl (pc' := 24) rfl ?_
    refine S_invi ml_X5_58 mi_X5_refuse (ci := 5) ⟨_, rfl, rfl⟩ (by decide) dX5_both_24 [.int (-2)] rfl (fun v h2 q => c_X5_refuse Z l _ _ _ q) ⟨Nat.le_of_ble_eq_true rfl, Nat.le_of_ble_eq_true rfl⟩ (rest := []) (Nat.le_of_ble_eq_true rfl) rfl (pc' := 27) rfl (fun x24 h24 => ?_)
    exact S_iret rfl dX5_both_27
  · refine S_aload_n dX5_both_8 rfl 0 rfl (pc' := 9) rfl ?_
    refine S_iload_n dX5_both_9 rfl 2 rfl (pc' := 10) rfl ?_
    refine S_invi ml_X5_98 mi_X5_noPerson (ci := 5) ⟨_, rfl, rfl⟩ (by decide) dX5_both_10 [.int a2] rfl (fun v h2 q => c_X5_noPerson Z l _ _ _ q) ⟨Nat.le_of_ble_eq_true rfl, Nat.le_of_ble_eq_true rfl⟩ (rest := []) (Nat.le_of_ble_eq_true rfl) rfl (pc' := 13) rfl (fun x10 h10 => ?_)
    refine S_if_ne dX5_both_13 21 rfl (pc' := 16) rfl (fun g13 => ?_) (fun g13 => ?_)
    · refine S_aload_n dX5_both_21 rfl 0 rfl (pc' := 22) rfl ?_
      refine S_bipush dX5_both_22 (v := (-2)) rfl (pc' := 24) rfl ?_
      refine S_invi ml_X5_58 mi_X5_refuse (ci := 5) ⟨_, rfl, rfl⟩ (by decide) dX5_both_24 [.int (-2)] rfl (fun v h2 q => c_X5_refuse Z l _ _ _ q) ⟨Nat.le_of_ble_eq_true rfl, Nat.le_of_ble_eq_true rfl⟩ (rest := []) (Nat.le_of_ble_eq_true rfl) rfl (pc' := 27) rfl (fun x24 h24 => ?_)
      exact S_iret rfl dX5_both_27
    · refine S_iload_n dX5_both_16 rfl 1 rfl (pc' := 17) rfl ?_
      refine S_iload_n dX5_both_17 rfl 2 rfl (pc' := 18) rfl ?_
      refine S_icmp_ne dX5_both_18 28 rfl (pc' := 21) rfl (fun g18 => ?_) (fun g18 => ?_)
      · refine S_aload_n dX5_both_28 rfl 0 rfl (pc' := 29) rfl ?_
        refine S_getR fl_X5_12 rfl dX5_both_29 (pc' := 32) rfl (fun x29 => ?_)
        refine S_iload_n dX5_both_32 rfl 1 rfl (pc' := 33) rfl ?_
        refine S_invi ml_X5_194 mi_X0_repertoire (ci := 0) ⟨_, rfl, rfl⟩ (by decide) dX5_both_33 [.int a1] rfl (fun v h2 q => c_X0_repertoire Z l _ _ _ q) ⟨Nat.le_of_ble_eq_true rfl, Nat.le_of_ble_eq_true rfl⟩ (rest := []) (Nat.le_of_ble_eq_true rfl) rfl (pc' := 36) rfl (fun x33 h33 => ?_)
        refine S_aload_n dX5_both_36 rfl 0 rfl (pc' := 37) rfl ?_
        refine S_getR fl_X5_12 rfl dX5_both_37 (pc' := 40) rfl (fun x37 => ?_)
        refine S_iload_n dX5_both_40 rfl 2 rfl (pc' := 41) rfl ?_
        refine S_invi ml_X5_194 mi_X0_repertoire (ci := 0) ⟨_, rfl, rfl⟩ (by decide) dX5_both_41 [.int a2] rfl (fun v h2 q => c_X0_repertoire Z l _ _ _ q) ⟨Nat.le_of_ble_eq_true rfl, Nat.le_of_ble_eq_true rfl⟩ (rest := [.int x33]) (Nat.le_of_ble_eq_true rfl) rfl (pc' := 44) rfl (fun x41 h41 => ?_)
        refine S_iand dX5_both_44 (pc' := 45) rfl ?_
        exact S_iret rfl dX5_both_45
      · refine S_aload_n dX5_both_21 rfl 0 rfl (pc' := 22) rfl ?_
        refine S_bipush dX5_both_22 (v := (-2)) rfl (pc' := 24) rfl ?_
        refine S_invi ml_X5_58 mi_X5_refuse (ci := 5) ⟨_, rfl, rfl⟩ (by decide) dX5_both_24 [.int (-2)] rfl (fun v h2 q => c_X5_refuse Z l _ _ _ q) ⟨Nat.le_of_ble_eq_true rfl, Nat.le_of_ble_eq_true rfl⟩ (rest := []) (Nat.le_of_ble_eq_true rfl) rfl (pc' := 27) rfl (fun x24 h24 => ?_)
        exact S_iret rfl dX5_both_27
theorem dX5_most_0 : decode cX5_most 0 = .ok (.iload_n 1, 1) := by decide +kernel
theorem dX5_most_1 : decode cX5_most 1 = .ok (.iconst 2, 1) := by decide +kernel
theorem dX5_most_2 : decode cX5_most 2 = .ok (.invokestatic 54, 3) := by decide +kernel
theorem dX5_most_5 : decode cX5_most 5 = .ok (.ifCond .eq 10, 3) := by decide +kernel
theorem dX5_most_8 : decode cX5_most 8 = .ok (.aload_n 0, 1) := by decide +kernel
theorem dX5_most_9 : decode cX5_most 9 = .ok (.bipush (-2), 2) := by decide +kernel
theorem dX5_most_11 : decode cX5_most 11 = .ok (.invokevirtual 58, 3) := by decide +kernel
theorem dX5_most_14 : decode cX5_most 14 = .ok (.ireturn, 1) := by decide +kernel
theorem dX5_most_15 : decode cX5_most 15 = .ok (.iload_n 1, 1) := by decide +kernel
theorem dX5_most_16 : decode cX5_most 16 = .ok (.ifCond .ne 13, 3) := by decide +kernel
theorem dX5_most_19 : decode cX5_most 19 = .ok (.aload_n 0, 1) := by decide +kernel
theorem dX5_most_20 : decode cX5_most 20 = .ok (.getfield 12, 3) := by decide +kernel
theorem dX5_most_23 : decode cX5_most 23 = .ok (.invokevirtual 219, 3) := by decide +kernel
theorem dX5_most_26 : decode cX5_most 26 = .ok (.goto 10, 3) := by decide +kernel
theorem dX5_most_29 : decode cX5_most 29 = .ok (.aload_n 0, 1) := by decide +kernel
theorem dX5_most_30 : decode cX5_most 30 = .ok (.getfield 12, 3) := by decide +kernel
theorem dX5_most_33 : decode cX5_most 33 = .ok (.invokevirtual 222, 3) := by decide +kernel
theorem dX5_most_36 : decode cX5_most 36 = .ok (.ireturn, 1) := by decide +kernel
set_option maxRecDepth 100000 in
set_option maxHeartbeats 4000000 in
theorem c_X5_most (Z : ZZ) (l : Launch) (t : Nat) (a1 : Int32) (h : HP) {v : Int32} {h1 : HP} (ho : f_X5_most t a1 h = some (v, h1)) : MetP Z l yX5_most cX5_most 2 (some .int) 3 69 [.ref (zb Z + t), .int a1] h (some (.int v)) h1 := by
  refine MetP_of ho (by decide +kernel) (Nat.le_of_ble_eq_true rfl) [(0, .ref (zb Z + t)), (1, .int a1)] rfl (own := RX5) rfl (nm := "most") rfl ?_
  unfold f_X5_most
  refine S_iload_n dX5_most_0 rfl 1 rfl (pc' := 1) rfl ?_
  refine S_iconst dX5_most_1 (v := 2) rfl (pc' := 2) rfl ?_
  refine S_stai ml_X5_54 ms_X5_outside dX5_most_2 [.int a1, .int 2] rfl (fun v h2 q => c_X5_outside Z l _ _ _ q) ⟨Nat.le_of_ble_eq_true rfl, Nat.le_of_ble_eq_true rfl⟩ (rest := []) (Nat.le_of_ble_eq_true rfl) rfl (pc' := 5) rfl (fun x2 h2 => ?_)
  refine S_if_eq dX5_most_5 15 rfl (pc' := 8) rfl (fun g5 => ?_) (fun g5 => ?_)
  · refine S_iload_n dX5_most_15 rfl 1 rfl (pc' := 16) rfl ?_
    refine S_if_ne dX5_most_16 29 rfl (pc' := 19) rfl (fun g16 => ?_) (fun g16 => ?_)
    · refine S_aload_n dX5_most_29 rfl 0 rfl (pc' := 30) rfl ?_
      refine S_getR fl_X5_12 rfl dX5_most_30 (pc' := 33) rfl (fun x30 => ?_)
      refine S_invi ml_X5_222 mi_X0_leastHeld (ci := 0) ⟨_, rfl, rfl⟩ (by decide) dX5_most_33 [] rfl (fun v h2 q => c_X0_leastHeld Z l _ _ q) ⟨Nat.le_of_ble_eq_true rfl, Nat.le_of_ble_eq_true rfl⟩ (rest := []) (Nat.le_of_ble_eq_true rfl) rfl (pc' := 36) rfl (fun x33 h33 => ?_)
      exact S_iret rfl dX5_most_36
    · refine S_aload_n dX5_most_19 rfl 0 rfl (pc' := 20) rfl ?_
      refine S_getR fl_X5_12 rfl dX5_most_20 (pc' := 23) rfl (fun x20 => ?_)
      refine S_invi ml_X5_219 mi_X0_mostHeld (ci := 0) ⟨_, rfl, rfl⟩ (by decide) dX5_most_23 [] rfl (fun v h2 q => c_X0_mostHeld Z l _ _ q) ⟨Nat.le_of_ble_eq_true rfl, Nat.le_of_ble_eq_true rfl⟩ (rest := []) (Nat.le_of_ble_eq_true rfl) rfl (pc' := 26) rfl (fun x23 h23 => ?_)
      refine S_goto dX5_most_26 36 rfl ?_
      exact S_iret rfl dX5_most_36
  · refine S_aload_n dX5_most_8 rfl 0 rfl (pc' := 9) rfl ?_
    refine S_bipush dX5_most_9 (v := (-2)) rfl (pc' := 11) rfl ?_
    refine S_invi ml_X5_58 mi_X5_refuse (ci := 5) ⟨_, rfl, rfl⟩ (by decide) dX5_most_11 [.int (-2)] rfl (fun v h2 q => c_X5_refuse Z l _ _ _ q) ⟨Nat.le_of_ble_eq_true rfl, Nat.le_of_ble_eq_true rfl⟩ (rest := []) (Nat.le_of_ble_eq_true rfl) rfl (pc' := 14) rfl (fun x11 h11 => ?_)
    exact S_iret rfl dX5_most_14
theorem dX5_table_0 : decode cX5_table 0 = .ok (.aload_n 0, 1) := by decide +kernel
theorem dX5_table_1 : decode cX5_table 1 = .ok (.iload_n 1, 1) := by decide +kernel
theorem dX5_table_2 : decode cX5_table 2 = .ok (.invokevirtual 98, 3) := by decide +kernel
theorem dX5_table_5 : decode cX5_table 5 = .ok (.ifCond .eq 12, 3) := by decide +kernel
theorem dX5_table_8 : decode cX5_table 8 = .ok (.aload_n 0, 1) := by decide +kernel
theorem dX5_table_9 : decode cX5_table 9 = .ok (.bipush (-2), 2) := by decide +kernel
theorem dX5_table_11 : decode cX5_table 11 = .ok (.invokevirtual 58, 3) := by decide +kernel
theorem dX5_table_14 : decode cX5_table 14 = .ok (.goto 11, 3) := by decide +kernel
theorem dX5_table_17 : decode cX5_table 17 = .ok (.aload_n 0, 1) := by decide +kernel
theorem dX5_table_18 : decode cX5_table 18 = .ok (.getfield 12, 3) := by decide +kernel
theorem dX5_table_21 : decode cX5_table 21 = .ok (.iload_n 1, 1) := by decide +kernel
theorem dX5_table_22 : decode cX5_table 22 = .ok (.invokevirtual 225, 3) := by decide +kernel
theorem dX5_table_25 : decode cX5_table 25 = .ok (.ireturn, 1) := by decide +kernel
set_option maxRecDepth 100000 in
set_option maxHeartbeats 4000000 in
theorem c_X5_table (Z : ZZ) (l : Launch) (t : Nat) (a1 : Int32) (h : HP) {v : Int32} {h1 : HP} (ho : f_X5_table t a1 h = some (v, h1)) : MetP Z l yX5_table cX5_table 2 (some .int) 2 43 [.ref (zb Z + t), .int a1] h (some (.int v)) h1 := by
  refine MetP_of ho (by decide +kernel) (Nat.le_of_ble_eq_true rfl) [(0, .ref (zb Z + t)), (1, .int a1)] rfl (own := RX5) rfl (nm := "table") rfl ?_
  unfold f_X5_table
  refine S_aload_n dX5_table_0 rfl 0 rfl (pc' := 1) rfl ?_
  refine S_iload_n dX5_table_1 rfl 1 rfl (pc' := 2) rfl ?_
  refine S_invi ml_X5_98 mi_X5_noPerson (ci := 5) ⟨_, rfl, rfl⟩ (by decide) dX5_table_2 [.int a1] rfl (fun v h2 q => c_X5_noPerson Z l _ _ _ q) ⟨Nat.le_of_ble_eq_true rfl, Nat.le_of_ble_eq_true rfl⟩ (rest := []) (Nat.le_of_ble_eq_true rfl) rfl (pc' := 5) rfl (fun x2 h2 => ?_)
  refine S_if_eq dX5_table_5 17 rfl (pc' := 8) rfl (fun g5 => ?_) (fun g5 => ?_)
  · refine S_aload_n dX5_table_17 rfl 0 rfl (pc' := 18) rfl ?_
    refine S_getR fl_X5_12 rfl dX5_table_18 (pc' := 21) rfl (fun x18 => ?_)
    refine S_iload_n dX5_table_21 rfl 1 rfl (pc' := 22) rfl ?_
    refine S_invi ml_X5_225 mi_X0_tableOf (ci := 0) ⟨_, rfl, rfl⟩ (by decide) dX5_table_22 [.int a1] rfl (fun v h2 q => c_X0_tableOf Z l _ _ _ q) ⟨Nat.le_of_ble_eq_true rfl, Nat.le_of_ble_eq_true rfl⟩ (rest := []) (Nat.le_of_ble_eq_true rfl) rfl (pc' := 25) rfl (fun x22 h22 => ?_)
    exact S_iret rfl dX5_table_25
  · refine S_aload_n dX5_table_8 rfl 0 rfl (pc' := 9) rfl ?_
    refine S_bipush dX5_table_9 (v := (-2)) rfl (pc' := 11) rfl ?_
    refine S_invi ml_X5_58 mi_X5_refuse (ci := 5) ⟨_, rfl, rfl⟩ (by decide) dX5_table_11 [.int (-2)] rfl (fun v h2 q => c_X5_refuse Z l _ _ _ q) ⟨Nat.le_of_ble_eq_true rfl, Nat.le_of_ble_eq_true rfl⟩ (rest := []) (Nat.le_of_ble_eq_true rfl) rfl (pc' := 14) rfl (fun x11 h11 => ?_)
    refine S_goto dX5_table_14 25 rfl ?_
    exact S_iret rfl dX5_table_25
theorem dX5_weakest_0 : decode cX5_weakest 0 = .ok (.aload_n 0, 1) := by decide +kernel
theorem dX5_weakest_1 : decode cX5_weakest 1 = .ok (.iload_n 1, 1) := by decide +kernel
theorem dX5_weakest_2 : decode cX5_weakest 2 = .ok (.invokevirtual 135, 3) := by decide +kernel
theorem dX5_weakest_5 : decode cX5_weakest 5 = .ok (.ifCond .eq 12, 3) := by decide +kernel
theorem dX5_weakest_8 : decode cX5_weakest 8 = .ok (.aload_n 0, 1) := by decide +kernel
theorem dX5_weakest_9 : decode cX5_weakest 9 = .ok (.bipush (-2), 2) := by decide +kernel
theorem dX5_weakest_11 : decode cX5_weakest 11 = .ok (.invokevirtual 58, 3) := by decide +kernel
theorem dX5_weakest_14 : decode cX5_weakest 14 = .ok (.goto 11, 3) := by decide +kernel
theorem dX5_weakest_17 : decode cX5_weakest 17 = .ok (.aload_n 0, 1) := by decide +kernel
theorem dX5_weakest_18 : decode cX5_weakest 18 = .ok (.getfield 12, 3) := by decide +kernel
theorem dX5_weakest_21 : decode cX5_weakest 21 = .ok (.iload_n 1, 1) := by decide +kernel
theorem dX5_weakest_22 : decode cX5_weakest 22 = .ok (.invokevirtual 228, 3) := by decide +kernel
theorem dX5_weakest_25 : decode cX5_weakest 25 = .ok (.ireturn, 1) := by decide +kernel
set_option maxRecDepth 100000 in
set_option maxHeartbeats 4000000 in
theorem c_X5_weakest (Z : ZZ) (l : Launch) (t : Nat) (a1 : Int32) (h : HP) {v : Int32} {h1 : HP} (ho : f_X5_weakest t a1 h = some (v, h1)) : MetP Z l yX5_weakest cX5_weakest 2 (some .int) 2 51 [.ref (zb Z + t), .int a1] h (some (.int v)) h1 := by
  refine MetP_of ho (by decide +kernel) (Nat.le_of_ble_eq_true rfl) [(0, .ref (zb Z + t)), (1, .int a1)] rfl (own := RX5) rfl (nm := "weakest") rfl ?_
  unfold f_X5_weakest
  refine S_aload_n dX5_weakest_0 rfl 0 rfl (pc' := 1) rfl ?_
  refine S_iload_n dX5_weakest_1 rfl 1 rfl (pc' := 2) rfl ?_
  refine S_invi ml_X5_135 mi_X5_noSong (ci := 5) ⟨_, rfl, rfl⟩ (by decide) dX5_weakest_2 [.int a1] rfl (fun v h2 q => c_X5_noSong Z l _ _ _ q) ⟨Nat.le_of_ble_eq_true rfl, Nat.le_of_ble_eq_true rfl⟩ (rest := []) (Nat.le_of_ble_eq_true rfl) rfl (pc' := 5) rfl (fun x2 h2 => ?_)
  refine S_if_eq dX5_weakest_5 17 rfl (pc' := 8) rfl (fun g5 => ?_) (fun g5 => ?_)
  · refine S_aload_n dX5_weakest_17 rfl 0 rfl (pc' := 18) rfl ?_
    refine S_getR fl_X5_12 rfl dX5_weakest_18 (pc' := 21) rfl (fun x18 => ?_)
    refine S_iload_n dX5_weakest_21 rfl 1 rfl (pc' := 22) rfl ?_
    refine S_invi ml_X5_228 mi_X0_weakestOn (ci := 0) ⟨_, rfl, rfl⟩ (by decide) dX5_weakest_22 [.int a1] rfl (fun v h2 q => c_X0_weakestOn Z l _ _ _ q) ⟨Nat.le_of_ble_eq_true rfl, Nat.le_of_ble_eq_true rfl⟩ (rest := []) (Nat.le_of_ble_eq_true rfl) rfl (pc' := 25) rfl (fun x22 h22 => ?_)
    exact S_iret rfl dX5_weakest_25
  · refine S_aload_n dX5_weakest_8 rfl 0 rfl (pc' := 9) rfl ?_
    refine S_bipush dX5_weakest_9 (v := (-2)) rfl (pc' := 11) rfl ?_
    refine S_invi ml_X5_58 mi_X5_refuse (ci := 5) ⟨_, rfl, rfl⟩ (by decide) dX5_weakest_11 [.int (-2)] rfl (fun v h2 q => c_X5_refuse Z l _ _ _ q) ⟨Nat.le_of_ble_eq_true rfl, Nat.le_of_ble_eq_true rfl⟩ (rest := []) (Nat.le_of_ble_eq_true rfl) rfl (pc' := 14) rfl (fun x11 h11 => ?_)
    refine S_goto dX5_weakest_14 25 rfl ?_
    exact S_iret rfl dX5_weakest_25
theorem dX5_ofKind_0 : decode cX5_ofKind 0 = .ok (.iload_n 1, 1) := by decide +kernel
theorem dX5_ofKind_1 : decode cX5_ofKind 1 = .ok (.bipush 6, 2) := by decide +kernel
theorem dX5_ofKind_3 : decode cX5_ofKind 3 = .ok (.invokestatic 54, 3) := by decide +kernel
theorem dX5_ofKind_6 : decode cX5_ofKind 6 = .ok (.ifCond .eq 12, 3) := by decide +kernel
theorem dX5_ofKind_9 : decode cX5_ofKind 9 = .ok (.aload_n 0, 1) := by decide +kernel
theorem dX5_ofKind_10 : decode cX5_ofKind 10 = .ok (.bipush (-2), 2) := by decide +kernel
theorem dX5_ofKind_12 : decode cX5_ofKind 12 = .ok (.invokevirtual 58, 3) := by decide +kernel
theorem dX5_ofKind_15 : decode cX5_ofKind 15 = .ok (.goto 11, 3) := by decide +kernel
theorem dX5_ofKind_18 : decode cX5_ofKind 18 = .ok (.aload_n 0, 1) := by decide +kernel
theorem dX5_ofKind_19 : decode cX5_ofKind 19 = .ok (.getfield 12, 3) := by decide +kernel
theorem dX5_ofKind_22 : decode cX5_ofKind 22 = .ok (.iload_n 1, 1) := by decide +kernel
theorem dX5_ofKind_23 : decode cX5_ofKind 23 = .ok (.invokevirtual 231, 3) := by decide +kernel
theorem dX5_ofKind_26 : decode cX5_ofKind 26 = .ok (.ireturn, 1) := by decide +kernel
set_option maxRecDepth 100000 in
set_option maxHeartbeats 4000000 in
theorem c_X5_ofKind (Z : ZZ) (l : Launch) (t : Nat) (a1 : Int32) (h : HP) {v : Int32} {h1 : HP} (ho : f_X5_ofKind t a1 h = some (v, h1)) : MetP Z l yX5_ofKind cX5_ofKind 2 (some .int) 2 43 [.ref (zb Z + t), .int a1] h (some (.int v)) h1 := by
  refine MetP_of ho (by decide +kernel) (Nat.le_of_ble_eq_true rfl) [(0, .ref (zb Z + t)), (1, .int a1)] rfl (own := RX5) rfl (nm := "ofKind") rfl ?_
  unfold f_X5_ofKind
  refine S_iload_n dX5_ofKind_0 rfl 1 rfl (pc' := 1) rfl ?_
  refine S_bipush dX5_ofKind_1 (v := 6) rfl (pc' := 3) rfl ?_
  refine S_stai ml_X5_54 ms_X5_outside dX5_ofKind_3 [.int a1, .int 6] rfl (fun v h2 q => c_X5_outside Z l _ _ _ q) ⟨Nat.le_of_ble_eq_true rfl, Nat.le_of_ble_eq_true rfl⟩ (rest := []) (Nat.le_of_ble_eq_true rfl) rfl (pc' := 6) rfl (fun x3 h3 => ?_)
  refine S_if_eq dX5_ofKind_6 18 rfl (pc' := 9) rfl (fun g6 => ?_) (fun g6 => ?_)
  · refine S_aload_n dX5_ofKind_18 rfl 0 rfl (pc' := 19) rfl ?_
    refine S_getR fl_X5_12 rfl dX5_ofKind_19 (pc' := 22) rfl (fun x19 => ?_)
    refine S_iload_n dX5_ofKind_22 rfl 1 rfl (pc' := 23) rfl ?_
    refine S_invi ml_X5_231 mi_X0_countKind (ci := 0) ⟨_, rfl, rfl⟩ (by decide) dX5_ofKind_23 [.int a1] rfl (fun v h2 q => c_X0_countKind Z l _ _ _ q) ⟨Nat.le_of_ble_eq_true rfl, Nat.le_of_ble_eq_true rfl⟩ (rest := []) (Nat.le_of_ble_eq_true rfl) rfl (pc' := 26) rfl (fun x23 h23 => ?_)
    exact S_iret rfl dX5_ofKind_26
  · refine S_aload_n dX5_ofKind_9 rfl 0 rfl (pc' := 10) rfl ?_
    refine S_bipush dX5_ofKind_10 (v := (-2)) rfl (pc' := 12) rfl ?_
    refine S_invi ml_X5_58 mi_X5_refuse (ci := 5) ⟨_, rfl, rfl⟩ (by decide) dX5_ofKind_12 [.int (-2)] rfl (fun v h2 q => c_X5_refuse Z l _ _ _ q) ⟨Nat.le_of_ble_eq_true rfl, Nat.le_of_ble_eq_true rfl⟩ (rest := []) (Nat.le_of_ble_eq_true rfl) rfl (pc' := 15) rfl (fun x12 h12 => ?_)
    refine S_goto dX5_ofKind_15 26 rfl ?_
    exact S_iret rfl dX5_ofKind_26
theorem dX5_behind_0 : decode cX5_behind 0 = .ok (.aload_n 0, 1) := by decide +kernel
theorem dX5_behind_1 : decode cX5_behind 1 = .ok (.iload_n 1, 1) := by decide +kernel
theorem dX5_behind_2 : decode cX5_behind 2 = .ok (.invokevirtual 135, 3) := by decide +kernel
theorem dX5_behind_5 : decode cX5_behind 5 = .ok (.ifCond .ne 20, 3) := by decide +kernel
theorem dX5_behind_8 : decode cX5_behind 8 = .ok (.iload_n 2, 1) := by decide +kernel
theorem dX5_behind_9 : decode cX5_behind 9 = .ok (.bipush 61, 2) := by decide +kernel
theorem dX5_behind_11 : decode cX5_behind 11 = .ok (.invokestatic 54, 3) := by decide +kernel
theorem dX5_behind_14 : decode cX5_behind 14 = .ok (.ifCond .ne 11, 3) := by decide +kernel
theorem dX5_behind_17 : decode cX5_behind 17 = .ok (.iload_n 3, 1) := by decide +kernel
theorem dX5_behind_18 : decode cX5_behind 18 = .ok (.iconst 3, 1) := by decide +kernel
theorem dX5_behind_19 : decode cX5_behind 19 = .ok (.invokestatic 54, 3) := by decide +kernel
theorem dX5_behind_22 : decode cX5_behind 22 = .ok (.ifCond .eq 10, 3) := by decide +kernel
theorem dX5_behind_25 : decode cX5_behind 25 = .ok (.aload_n 0, 1) := by decide +kernel
theorem dX5_behind_26 : decode cX5_behind 26 = .ok (.bipush (-2), 2) := by decide +kernel
theorem dX5_behind_28 : decode cX5_behind 28 = .ok (.invokevirtual 58, 3) := by decide +kernel
theorem dX5_behind_31 : decode cX5_behind 31 = .ok (.ireturn, 1) := by decide +kernel
theorem dX5_behind_32 : decode cX5_behind 32 = .ok (.aload_n 0, 1) := by decide +kernel
theorem dX5_behind_33 : decode cX5_behind 33 = .ok (.getfield 25, 3) := by decide +kernel
theorem dX5_behind_36 : decode cX5_behind 36 = .ok (.aload_n 0, 1) := by decide +kernel
theorem dX5_behind_37 : decode cX5_behind 37 = .ok (.getfield 12, 3) := by decide +kernel
theorem dX5_behind_40 : decode cX5_behind 40 = .ok (.iload_n 2, 1) := by decide +kernel
theorem dX5_behind_41 : decode cX5_behind 41 = .ok (.invokevirtual 234, 3) := by decide +kernel
theorem dX5_behind_44 : decode cX5_behind 44 = .ok (.astore 4, 2) := by decide +kernel
theorem dX5_behind_46 : decode cX5_behind 46 = .ok (.iload_n 3, 1) := by decide +kernel
theorem dX5_behind_47 : decode cX5_behind 47 = .ok (.ifCond .ne 12, 3) := by decide +kernel
theorem dX5_behind_50 : decode cX5_behind 50 = .ok (.aload 4, 2) := by decide +kernel
theorem dX5_behind_52 : decode cX5_behind 52 = .ok (.iload_n 1, 1) := by decide +kernel
theorem dX5_behind_53 : decode cX5_behind 53 = .ok (.invokevirtual 197, 3) := by decide +kernel
theorem dX5_behind_56 : decode cX5_behind 56 = .ok (.goto 23, 3) := by decide +kernel
theorem dX5_behind_59 : decode cX5_behind 59 = .ok (.iload_n 3, 1) := by decide +kernel
theorem dX5_behind_60 : decode cX5_behind 60 = .ok (.iconst 1, 1) := by decide +kernel
theorem dX5_behind_61 : decode cX5_behind 61 = .ok (.if_icmp .ne 13, 3) := by decide +kernel
theorem dX5_behind_64 : decode cX5_behind 64 = .ok (.aload 4, 2) := by decide +kernel
theorem dX5_behind_66 : decode cX5_behind 66 = .ok (.getfield 147, 3) := by decide +kernel
theorem dX5_behind_69 : decode cX5_behind 69 = .ok (.iload_n 1, 1) := by decide +kernel
theorem dX5_behind_70 : decode cX5_behind 70 = .ok (.iaload, 1) := by decide +kernel
theorem dX5_behind_71 : decode cX5_behind 71 = .ok (.goto 8, 3) := by decide +kernel
theorem dX5_behind_74 : decode cX5_behind 74 = .ok (.aload 4, 2) := by decide +kernel
theorem dX5_behind_76 : decode cX5_behind 76 = .ok (.invokevirtual 207, 3) := by decide +kernel
theorem dX5_behind_79 : decode cX5_behind 79 = .ok (.ireturn, 1) := by decide +kernel
set_option maxRecDepth 100000 in
set_option maxHeartbeats 4000000 in
theorem c_X5_behind (Z : ZZ) (l : Launch) (t : Nat) (a1 : Int32) (a2 : Int32) (a3 : Int32) (h : HP) {v : Int32} {h1 : HP} (ho : f_X5_behind t a1 a2 a3 h = some (v, h1)) : MetP Z l yX5_behind cX5_behind 5 (some .int) 6 136 [.ref (zb Z + t), .int a1, .int a2, .int a3] h (some (.int v)) h1 := by
  refine MetP_of ho (by decide +kernel) (Nat.le_of_ble_eq_true rfl) [(0, .ref (zb Z + t)), (1, .int a1), (2, .int a2), (3, .int a3)] rfl (own := RX5) rfl (nm := "behind") rfl ?_
  unfold f_X5_behind
  refine S_aload_n dX5_behind_0 rfl 0 rfl (pc' := 1) rfl ?_
  refine S_iload_n dX5_behind_1 rfl 1 rfl (pc' := 2) rfl ?_
  refine S_invi ml_X5_135 mi_X5_noSong (ci := 5) ⟨_, rfl, rfl⟩ (by decide) dX5_behind_2 [.int a1] rfl (fun v h2 q => c_X5_noSong Z l _ _ _ q) ⟨Nat.le_of_ble_eq_true rfl, Nat.le_of_ble_eq_true rfl⟩ (rest := []) (Nat.le_of_ble_eq_true rfl) rfl (pc' := 5) rfl (fun x2 h2 => ?_)
  refine S_if_ne dX5_behind_5 25 rfl (pc' := 8) rfl (fun g5 => ?_) (fun g5 => ?_)
  · refine S_aload_n dX5_behind_25 rfl 0 rfl (pc' := 26) rfl ?_
    refine S_bipush dX5_behind_26 (v := (-2)) rfl (pc' := 28) rfl ?_
    refine S_invi ml_X5_58 mi_X5_refuse (ci := 5) ⟨_, rfl, rfl⟩ (by decide) dX5_behind_28 [.int (-2)] rfl (fun v h2 q => c_X5_refuse Z l _ _ _ q) ⟨Nat.le_of_ble_eq_true rfl, Nat.le_of_ble_eq_true rfl⟩ (rest := []) (Nat.le_of_ble_eq_true rfl) rfl (pc' := 31) rfl (fun x28 h28 => ?_)
    exact S_iret rfl dX5_behind_31
  · refine S_iload_n dX5_behind_8 rfl 2 rfl (pc' := 9) rfl ?_
    refine S_bipush dX5_behind_9 (v := 61) rfl (pc' := 11) rfl ?_
    refine S_stai ml_X5_54 ms_X5_outside dX5_behind_11 [.int a2, .int 61] rfl (fun v h2 q => c_X5_outside Z l _ _ _ q) ⟨Nat.le_of_ble_eq_true rfl, Nat.le_of_ble_eq_true rfl⟩ (rest := []) (Nat.le_of_ble_eq_true rfl) rfl (pc' := 14) rfl (fun x11 h11 => ?_)
    refine S_if_ne dX5_behind_14 25 rfl (pc' := 17) rfl (fun g14 => ?_) (fun g14 => ?_)
    · refine S_aload_n dX5_behind_25 rfl 0 rfl (pc' := 26) rfl ?_
      refine S_bipush dX5_behind_26 (v := (-2)) rfl (pc' := 28) rfl ?_
      refine S_invi ml_X5_58 mi_X5_refuse (ci := 5) ⟨_, rfl, rfl⟩ (by decide) dX5_behind_28 [.int (-2)] rfl (fun v h2 q => c_X5_refuse Z l _ _ _ q) ⟨Nat.le_of_ble_eq_true rfl, Nat.le_of_ble_eq_true rfl⟩ (rest := []) (Nat.le_of_ble_eq_true rfl) rfl (pc' := 31) rfl (fun x28 h28 => ?_)
      exact S_iret rfl dX5_behind_31
    · refine S_iload_n dX5_behind_17 rfl 3 rfl (pc' := 18) rfl ?_
      refine S_iconst dX5_behind_18 (v := 3) rfl (pc' := 19) rfl ?_
      refine S_stai ml_X5_54 ms_X5_outside dX5_behind_19 [.int a3, .int 3] rfl (fun v h2 q => c_X5_outside Z l _ _ _ q) ⟨Nat.le_of_ble_eq_true rfl, Nat.le_of_ble_eq_true rfl⟩ (rest := []) (Nat.le_of_ble_eq_true rfl) rfl (pc' := 22) rfl (fun x19 h19 => ?_)
      refine S_if_eq dX5_behind_22 32 rfl (pc' := 25) rfl (fun g22 => ?_) (fun g22 => ?_)
      · refine S_aload_n dX5_behind_32 rfl 0 rfl (pc' := 33) rfl ?_
        refine S_getR fl_X5_25 rfl dX5_behind_33 (pc' := 36) rfl (fun x33 => ?_)
        refine S_aload_n dX5_behind_36 rfl 0 rfl (pc' := 37) rfl ?_
        refine S_getR fl_X5_12 rfl dX5_behind_37 (pc' := 40) rfl (fun x37 => ?_)
        refine S_iload_n dX5_behind_40 rfl 2 rfl (pc' := 41) rfl ?_
        refine S_invr ml_X5_234 mi_X1_after (ci := 1) ⟨_, rfl, rfl⟩ (by decide) dX5_behind_41 [.ref (zb Z + x37), .int a2] rfl (fun v h2 q => c_X1_after Z l _ _ _ _ q) ⟨Nat.le_of_ble_eq_true rfl, Nat.le_of_ble_eq_true rfl⟩ (rest := []) (Nat.le_of_ble_eq_true rfl) rfl (pc' := 44) rfl (fun x41 h41 => ?_)
        refine S_astore dX5_behind_44 (by decide) (lo' := [(4, .ref (zb Z + x41)), (0, .ref (zb Z + t)), (1, .int a1), (2, .int a2), (3, .int a3)]) rfl (pc' := 46) rfl ?_
        refine S_iload_n dX5_behind_46 rfl 4 rfl (pc' := 47) rfl ?_
        refine S_if_ne dX5_behind_47 59 rfl (pc' := 50) rfl (fun g47 => ?_) (fun g47 => ?_)
        · refine S_iload_n dX5_behind_59 rfl 4 rfl (pc' := 60) rfl ?_
          refine S_iconst dX5_behind_60 (v := 1) rfl (pc' := 61) rfl ?_
          refine S_icmp_ne dX5_behind_61 74 rfl (pc' := 64) rfl (fun g61 => ?_) (fun g61 => ?_)
          · refine S_aload dX5_behind_74 0 rfl (pc' := 76) rfl ?_
            refine S_invi ml_X5_207 mi_X0_knownSongs (ci := 0) ⟨_, rfl, rfl⟩ (by decide) dX5_behind_76 [] rfl (fun v h2 q => c_X0_knownSongs Z l _ _ q) ⟨Nat.le_of_ble_eq_true rfl, Nat.le_of_ble_eq_true rfl⟩ (rest := []) (Nat.le_of_ble_eq_true rfl) rfl (pc' := 79) rfl (fun x76 h76 => ?_)
            exact S_iret rfl dX5_behind_79
          · refine S_aload dX5_behind_64 0 rfl (pc' := 66) rfl ?_
            refine S_getR fl_X5_147 rfl dX5_behind_66 (pc' := 69) rfl (fun x66 => ?_)
            refine S_iload_n dX5_behind_69 rfl 2 rfl (pc' := 70) rfl ?_
            refine S_iaload dX5_behind_70 (pc' := 71) rfl (fun x70 => ?_)
            refine S_goto dX5_behind_71 79 rfl ?_
            exact S_iret rfl dX5_behind_79
        · refine S_aload dX5_behind_50 0 rfl (pc' := 52) rfl ?_
          refine S_iload_n dX5_behind_52 rfl 2 rfl (pc' := 53) rfl ?_
          refine S_invi ml_X5_197 mi_X0_havers (ci := 0) ⟨_, rfl, rfl⟩ (by decide) dX5_behind_53 [.int a1] rfl (fun v h2 q => c_X0_havers Z l _ _ _ q) ⟨Nat.le_of_ble_eq_true rfl, Nat.le_of_ble_eq_true rfl⟩ (rest := []) (Nat.le_of_ble_eq_true rfl) rfl (pc' := 56) rfl (fun x53 h53 => ?_)
          refine S_goto dX5_behind_56 79 rfl ?_
          exact S_iret rfl dX5_behind_79
      · refine S_aload_n dX5_behind_25 rfl 0 rfl (pc' := 26) rfl ?_
        refine S_bipush dX5_behind_26 (v := (-2)) rfl (pc' := 28) rfl ?_
        refine S_invi ml_X5_58 mi_X5_refuse (ci := 5) ⟨_, rfl, rfl⟩ (by decide) dX5_behind_28 [.int (-2)] rfl (fun v h2 q => c_X5_refuse Z l _ _ _ q) ⟨Nat.le_of_ble_eq_true rfl, Nat.le_of_ble_eq_true rfl⟩ (rest := []) (Nat.le_of_ble_eq_true rfl) rfl (pc' := 31) rfl (fun x28 h28 => ?_)
        exact S_iret rfl dX5_behind_31
theorem dX5_noneIfNever_0 : decode cX5_noneIfNever 0 = .ok (.iload_n 0, 1) := by decide +kernel
theorem dX5_noneIfNever_1 : decode cX5_noneIfNever 1 = .ok (.bipush 61, 2) := by decide +kernel
theorem dX5_noneIfNever_3 : decode cX5_noneIfNever 3 = .ok (.if_icmp .ne 7, 3) := by decide +kernel
theorem dX5_noneIfNever_6 : decode cX5_noneIfNever 6 = .ok (.iconst (-1), 1) := by decide +kernel
theorem dX5_noneIfNever_7 : decode cX5_noneIfNever 7 = .ok (.goto 4, 3) := by decide +kernel
theorem dX5_noneIfNever_10 : decode cX5_noneIfNever 10 = .ok (.iload_n 0, 1) := by decide +kernel
theorem dX5_noneIfNever_11 : decode cX5_noneIfNever 11 = .ok (.ireturn, 1) := by decide +kernel
set_option maxRecDepth 100000 in
set_option maxHeartbeats 4000000 in
theorem c_X5_noneIfNever (Z : ZZ) (l : Launch) (a0 : Int32) (h : HP) {v : Int32} {h1 : HP} (ho : f_X5_noneIfNever a0 h = some (v, h1)) : MetP Z l yX5_noneIfNever cX5_noneIfNever 1 (some .int) 0 0 [.int a0] h (some (.int v)) h1 := by
  refine MetP_of ho (by decide +kernel) (Nat.le_of_ble_eq_true rfl) [(0, .int a0)] rfl (own := RX5) rfl (nm := "noneIfNever") rfl ?_
  unfold f_X5_noneIfNever
  refine S_iload_n dX5_noneIfNever_0 rfl 0 rfl (pc' := 1) rfl ?_
  refine S_bipush dX5_noneIfNever_1 (v := 61) rfl (pc' := 3) rfl ?_
  refine S_icmp_ne dX5_noneIfNever_3 10 rfl (pc' := 6) rfl (fun g3 => ?_) (fun g3 => ?_)
  · refine S_iload_n dX5_noneIfNever_10 rfl 0 rfl (pc' := 11) rfl ?_
    exact S_iret rfl dX5_noneIfNever_11
  · refine S_iconst dX5_noneIfNever_6 (v := (-1)) rfl (pc' := 7) rfl ?_
    refine S_goto dX5_noneIfNever_7 11 rfl ?_
    exact S_iret rfl dX5_noneIfNever_11
theorem dX5_lostIn_0 : decode cX5_lostIn 0 = .ok (.aload_n 0, 1) := by decide +kernel
theorem dX5_lostIn_1 : decode cX5_lostIn 1 = .ok (.iload_n 1, 1) := by decide +kernel
theorem dX5_lostIn_2 : decode cX5_lostIn 2 = .ok (.invokevirtual 135, 3) := by decide +kernel
theorem dX5_lostIn_5 : decode cX5_lostIn 5 = .ok (.ifCond .eq 12, 3) := by decide +kernel
theorem dX5_lostIn_8 : decode cX5_lostIn 8 = .ok (.aload_n 0, 1) := by decide +kernel
theorem dX5_lostIn_9 : decode cX5_lostIn 9 = .ok (.bipush (-2), 2) := by decide +kernel
theorem dX5_lostIn_11 : decode cX5_lostIn 11 = .ok (.invokevirtual 58, 3) := by decide +kernel
theorem dX5_lostIn_14 : decode cX5_lostIn 14 = .ok (.goto 18, 3) := by decide +kernel
theorem dX5_lostIn_17 : decode cX5_lostIn 17 = .ok (.aload_n 0, 1) := by decide +kernel
theorem dX5_lostIn_18 : decode cX5_lostIn 18 = .ok (.getfield 25, 3) := by decide +kernel
theorem dX5_lostIn_21 : decode cX5_lostIn 21 = .ok (.aload_n 0, 1) := by decide +kernel
theorem dX5_lostIn_22 : decode cX5_lostIn 22 = .ok (.getfield 12, 3) := by decide +kernel
theorem dX5_lostIn_25 : decode cX5_lostIn 25 = .ok (.iload_n 1, 1) := by decide +kernel
theorem dX5_lostIn_26 : decode cX5_lostIn 26 = .ok (.invokevirtual 238, 3) := by decide +kernel
theorem dX5_lostIn_29 : decode cX5_lostIn 29 = .ok (.invokestatic 241, 3) := by decide +kernel
theorem dX5_lostIn_32 : decode cX5_lostIn 32 = .ok (.ireturn, 1) := by decide +kernel
set_option maxRecDepth 100000 in
set_option maxHeartbeats 4000000 in
theorem c_X5_lostIn (Z : ZZ) (l : Launch) (t : Nat) (a1 : Int32) (h : HP) {v : Int32} {h1 : HP} (ho : f_X5_lostIn t a1 h = some (v, h1)) : MetP Z l yX5_lostIn cX5_lostIn 2 (some .int) 7 157 [.ref (zb Z + t), .int a1] h (some (.int v)) h1 := by
  refine MetP_of ho (by decide +kernel) (Nat.le_of_ble_eq_true rfl) [(0, .ref (zb Z + t)), (1, .int a1)] rfl (own := RX5) rfl (nm := "lostIn") rfl ?_
  unfold f_X5_lostIn
  refine S_aload_n dX5_lostIn_0 rfl 0 rfl (pc' := 1) rfl ?_
  refine S_iload_n dX5_lostIn_1 rfl 1 rfl (pc' := 2) rfl ?_
  refine S_invi ml_X5_135 mi_X5_noSong (ci := 5) ⟨_, rfl, rfl⟩ (by decide) dX5_lostIn_2 [.int a1] rfl (fun v h2 q => c_X5_noSong Z l _ _ _ q) ⟨Nat.le_of_ble_eq_true rfl, Nat.le_of_ble_eq_true rfl⟩ (rest := []) (Nat.le_of_ble_eq_true rfl) rfl (pc' := 5) rfl (fun x2 h2 => ?_)
  refine S_if_eq dX5_lostIn_5 17 rfl (pc' := 8) rfl (fun g5 => ?_) (fun g5 => ?_)
  · refine S_aload_n dX5_lostIn_17 rfl 0 rfl (pc' := 18) rfl ?_
    refine S_getR fl_X5_25 rfl dX5_lostIn_18 (pc' := 21) rfl (fun x18 => ?_)
    refine S_aload_n dX5_lostIn_21 rfl 0 rfl (pc' := 22) rfl ?_
    refine S_getR fl_X5_12 rfl dX5_lostIn_22 (pc' := 25) rfl (fun x22 => ?_)
    refine S_iload_n dX5_lostIn_25 rfl 1 rfl (pc' := 26) rfl ?_
    refine S_invi ml_X5_238 mi_X1_lossIn (ci := 1) ⟨_, rfl, rfl⟩ (by decide) dX5_lostIn_26 [.ref (zb Z + x22), .int a1] rfl (fun v h2 q => c_X1_lossIn Z l _ _ _ _ q) ⟨Nat.le_of_ble_eq_true rfl, Nat.le_of_ble_eq_true rfl⟩ (rest := []) (Nat.le_of_ble_eq_true rfl) rfl (pc' := 29) rfl (fun x26 h26 => ?_)
    refine S_stai ml_X5_241 ms_X5_noneIfNever dX5_lostIn_29 [.int x26] rfl (fun v h2 q => c_X5_noneIfNever Z l _ _ q) ⟨Nat.le_of_ble_eq_true rfl, Nat.le_of_ble_eq_true rfl⟩ (rest := []) (Nat.le_of_ble_eq_true rfl) rfl (pc' := 32) rfl (fun x29 h29 => ?_)
    exact S_iret rfl dX5_lostIn_32
  · refine S_aload_n dX5_lostIn_8 rfl 0 rfl (pc' := 9) rfl ?_
    refine S_bipush dX5_lostIn_9 (v := (-2)) rfl (pc' := 11) rfl ?_
    refine S_invi ml_X5_58 mi_X5_refuse (ci := 5) ⟨_, rfl, rfl⟩ (by decide) dX5_lostIn_11 [.int (-2)] rfl (fun v h2 q => c_X5_refuse Z l _ _ _ q) ⟨Nat.le_of_ble_eq_true rfl, Nat.le_of_ble_eq_true rfl⟩ (rest := []) (Nat.le_of_ble_eq_true rfl) rfl (pc' := 14) rfl (fun x11 h11 => ?_)
    refine S_goto dX5_lostIn_14 32 rfl ?_
    exact S_iret rfl dX5_lostIn_32
theorem dX5_sungIn_0 : decode cX5_sungIn 0 = .ok (.aload_n 0, 1) := by decide +kernel
theorem dX5_sungIn_1 : decode cX5_sungIn 1 = .ok (.iload_n 1, 1) := by decide +kernel
theorem dX5_sungIn_2 : decode cX5_sungIn 2 = .ok (.invokevirtual 135, 3) := by decide +kernel
theorem dX5_sungIn_5 : decode cX5_sungIn 5 = .ok (.ifCond .eq 12, 3) := by decide +kernel
theorem dX5_sungIn_8 : decode cX5_sungIn 8 = .ok (.aload_n 0, 1) := by decide +kernel
theorem dX5_sungIn_9 : decode cX5_sungIn 9 = .ok (.bipush (-2), 2) := by decide +kernel
theorem dX5_sungIn_11 : decode cX5_sungIn 11 = .ok (.invokevirtual 58, 3) := by decide +kernel
theorem dX5_sungIn_14 : decode cX5_sungIn 14 = .ok (.goto 18, 3) := by decide +kernel
theorem dX5_sungIn_17 : decode cX5_sungIn 17 = .ok (.aload_n 0, 1) := by decide +kernel
theorem dX5_sungIn_18 : decode cX5_sungIn 18 = .ok (.getfield 25, 3) := by decide +kernel
theorem dX5_sungIn_21 : decode cX5_sungIn 21 = .ok (.aload_n 0, 1) := by decide +kernel
theorem dX5_sungIn_22 : decode cX5_sungIn 22 = .ok (.getfield 12, 3) := by decide +kernel
theorem dX5_sungIn_25 : decode cX5_sungIn 25 = .ok (.iload_n 1, 1) := by decide +kernel
theorem dX5_sungIn_26 : decode cX5_sungIn 26 = .ok (.invokevirtual 244, 3) := by decide +kernel
theorem dX5_sungIn_29 : decode cX5_sungIn 29 = .ok (.invokestatic 241, 3) := by decide +kernel
theorem dX5_sungIn_32 : decode cX5_sungIn 32 = .ok (.ireturn, 1) := by decide +kernel
set_option maxRecDepth 100000 in
set_option maxHeartbeats 4000000 in
theorem c_X5_sungIn (Z : ZZ) (l : Launch) (t : Nat) (a1 : Int32) (h : HP) {v : Int32} {h1 : HP} (ho : f_X5_sungIn t a1 h = some (v, h1)) : MetP Z l yX5_sungIn cX5_sungIn 2 (some .int) 6 135 [.ref (zb Z + t), .int a1] h (some (.int v)) h1 := by
  refine MetP_of ho (by decide +kernel) (Nat.le_of_ble_eq_true rfl) [(0, .ref (zb Z + t)), (1, .int a1)] rfl (own := RX5) rfl (nm := "sungIn") rfl ?_
  unfold f_X5_sungIn
  refine S_aload_n dX5_sungIn_0 rfl 0 rfl (pc' := 1) rfl ?_
  refine S_iload_n dX5_sungIn_1 rfl 1 rfl (pc' := 2) rfl ?_
  refine S_invi ml_X5_135 mi_X5_noSong (ci := 5) ⟨_, rfl, rfl⟩ (by decide) dX5_sungIn_2 [.int a1] rfl (fun v h2 q => c_X5_noSong Z l _ _ _ q) ⟨Nat.le_of_ble_eq_true rfl, Nat.le_of_ble_eq_true rfl⟩ (rest := []) (Nat.le_of_ble_eq_true rfl) rfl (pc' := 5) rfl (fun x2 h2 => ?_)
  refine S_if_eq dX5_sungIn_5 17 rfl (pc' := 8) rfl (fun g5 => ?_) (fun g5 => ?_)
  · refine S_aload_n dX5_sungIn_17 rfl 0 rfl (pc' := 18) rfl ?_
    refine S_getR fl_X5_25 rfl dX5_sungIn_18 (pc' := 21) rfl (fun x18 => ?_)
    refine S_aload_n dX5_sungIn_21 rfl 0 rfl (pc' := 22) rfl ?_
    refine S_getR fl_X5_12 rfl dX5_sungIn_22 (pc' := 25) rfl (fun x22 => ?_)
    refine S_iload_n dX5_sungIn_25 rfl 1 rfl (pc' := 26) rfl ?_
    refine S_invi ml_X5_244 mi_X1_findIn (ci := 1) ⟨_, rfl, rfl⟩ (by decide) dX5_sungIn_26 [.ref (zb Z + x22), .int a1] rfl (fun v h2 q => c_X1_findIn Z l _ _ _ _ q) ⟨Nat.le_of_ble_eq_true rfl, Nat.le_of_ble_eq_true rfl⟩ (rest := []) (Nat.le_of_ble_eq_true rfl) rfl (pc' := 29) rfl (fun x26 h26 => ?_)
    refine S_stai ml_X5_241 ms_X5_noneIfNever dX5_sungIn_29 [.int x26] rfl (fun v h2 q => c_X5_noneIfNever Z l _ _ q) ⟨Nat.le_of_ble_eq_true rfl, Nat.le_of_ble_eq_true rfl⟩ (rest := []) (Nat.le_of_ble_eq_true rfl) rfl (pc' := 32) rfl (fun x29 h29 => ?_)
    exact S_iret rfl dX5_sungIn_32
  · refine S_aload_n dX5_sungIn_8 rfl 0 rfl (pc' := 9) rfl ?_
    refine S_bipush dX5_sungIn_9 (v := (-2)) rfl (pc' := 11) rfl ?_
    refine S_invi ml_X5_58 mi_X5_refuse (ci := 5) ⟨_, rfl, rfl⟩ (by decide) dX5_sungIn_11 [.int (-2)] rfl (fun v h2 q => c_X5_refuse Z l _ _ _ q) ⟨Nat.le_of_ble_eq_true rfl, Nat.le_of_ble_eq_true rfl⟩ (rest := []) (Nat.le_of_ble_eq_true rfl) rfl (pc' := 14) rfl (fun x11 h11 => ?_)
    refine S_goto dX5_sungIn_14 32 rfl ?_
    exact S_iret rfl dX5_sungIn_32
theorem dX5_last_0 : decode cX5_last 0 = .ok (.aload_n 0, 1) := by decide +kernel
theorem dX5_last_1 : decode cX5_last 1 = .ok (.iload_n 1, 1) := by decide +kernel
theorem dX5_last_2 : decode cX5_last 2 = .ok (.invokevirtual 135, 3) := by decide +kernel
theorem dX5_last_5 : decode cX5_last 5 = .ok (.ifCond .eq 12, 3) := by decide +kernel
theorem dX5_last_8 : decode cX5_last 8 = .ok (.aload_n 0, 1) := by decide +kernel
theorem dX5_last_9 : decode cX5_last 9 = .ok (.bipush (-2), 2) := by decide +kernel
theorem dX5_last_11 : decode cX5_last 11 = .ok (.invokevirtual 58, 3) := by decide +kernel
theorem dX5_last_14 : decode cX5_last 14 = .ok (.goto 15, 3) := by decide +kernel
theorem dX5_last_17 : decode cX5_last 17 = .ok (.aload_n 0, 1) := by decide +kernel
theorem dX5_last_18 : decode cX5_last 18 = .ok (.getfield 25, 3) := by decide +kernel
theorem dX5_last_21 : decode cX5_last 21 = .ok (.aload_n 0, 1) := by decide +kernel
theorem dX5_last_22 : decode cX5_last 22 = .ok (.getfield 12, 3) := by decide +kernel
theorem dX5_last_25 : decode cX5_last 25 = .ok (.iload_n 1, 1) := by decide +kernel
theorem dX5_last_26 : decode cX5_last 26 = .ok (.invokevirtual 247, 3) := by decide +kernel
theorem dX5_last_29 : decode cX5_last 29 = .ok (.ireturn, 1) := by decide +kernel
set_option maxRecDepth 100000 in
set_option maxHeartbeats 4000000 in
theorem c_X5_last (Z : ZZ) (l : Launch) (t : Nat) (a1 : Int32) (h : HP) {v : Int32} {h1 : HP} (ho : f_X5_last t a1 h = some (v, h1)) : MetP Z l yX5_last cX5_last 2 (some .int) 6 136 [.ref (zb Z + t), .int a1] h (some (.int v)) h1 := by
  refine MetP_of ho (by decide +kernel) (Nat.le_of_ble_eq_true rfl) [(0, .ref (zb Z + t)), (1, .int a1)] rfl (own := RX5) rfl (nm := "last") rfl ?_
  unfold f_X5_last
  refine S_aload_n dX5_last_0 rfl 0 rfl (pc' := 1) rfl ?_
  refine S_iload_n dX5_last_1 rfl 1 rfl (pc' := 2) rfl ?_
  refine S_invi ml_X5_135 mi_X5_noSong (ci := 5) ⟨_, rfl, rfl⟩ (by decide) dX5_last_2 [.int a1] rfl (fun v h2 q => c_X5_noSong Z l _ _ _ q) ⟨Nat.le_of_ble_eq_true rfl, Nat.le_of_ble_eq_true rfl⟩ (rest := []) (Nat.le_of_ble_eq_true rfl) rfl (pc' := 5) rfl (fun x2 h2 => ?_)
  refine S_if_eq dX5_last_5 17 rfl (pc' := 8) rfl (fun g5 => ?_) (fun g5 => ?_)
  · refine S_aload_n dX5_last_17 rfl 0 rfl (pc' := 18) rfl ?_
    refine S_getR fl_X5_25 rfl dX5_last_18 (pc' := 21) rfl (fun x18 => ?_)
    refine S_aload_n dX5_last_21 rfl 0 rfl (pc' := 22) rfl ?_
    refine S_getR fl_X5_12 rfl dX5_last_22 (pc' := 25) rfl (fun x22 => ?_)
    refine S_iload_n dX5_last_25 rfl 1 rfl (pc' := 26) rfl ?_
    refine S_invi ml_X5_247 mi_X1_lastHavers (ci := 1) ⟨_, rfl, rfl⟩ (by decide) dX5_last_26 [.ref (zb Z + x22), .int a1] rfl (fun v h2 q => c_X1_lastHavers Z l _ _ _ _ q) ⟨Nat.le_of_ble_eq_true rfl, Nat.le_of_ble_eq_true rfl⟩ (rest := []) (Nat.le_of_ble_eq_true rfl) rfl (pc' := 29) rfl (fun x26 h26 => ?_)
    exact S_iret rfl dX5_last_29
  · refine S_aload_n dX5_last_8 rfl 0 rfl (pc' := 9) rfl ?_
    refine S_bipush dX5_last_9 (v := (-2)) rfl (pc' := 11) rfl ?_
    refine S_invi ml_X5_58 mi_X5_refuse (ci := 5) ⟨_, rfl, rfl⟩ (by decide) dX5_last_11 [.int (-2)] rfl (fun v h2 q => c_X5_refuse Z l _ _ _ q) ⟨Nat.le_of_ble_eq_true rfl, Nat.le_of_ble_eq_true rfl⟩ (rest := []) (Nat.le_of_ble_eq_true rfl) rfl (pc' := 14) rfl (fun x11 h11 => ?_)
    refine S_goto dX5_last_14 29 rfl ?_
    exact S_iret rfl dX5_last_29
theorem dX5_keep_0 : decode cX5_keep 0 = .ok (.aload_n 0, 1) := by decide +kernel
theorem dX5_keep_1 : decode cX5_keep 1 = .ok (.iload_n 1, 1) := by decide +kernel
theorem dX5_keep_2 : decode cX5_keep 2 = .ok (.invokevirtual 135, 3) := by decide +kernel
theorem dX5_keep_5 : decode cX5_keep 5 = .ok (.ifCond .eq 12, 3) := by decide +kernel
theorem dX5_keep_8 : decode cX5_keep 8 = .ok (.aload_n 0, 1) := by decide +kernel
theorem dX5_keep_9 : decode cX5_keep 9 = .ok (.bipush (-2), 2) := by decide +kernel
theorem dX5_keep_11 : decode cX5_keep 11 = .ok (.invokevirtual 58, 3) := by decide +kernel
theorem dX5_keep_14 : decode cX5_keep 14 = .ok (.goto 15, 3) := by decide +kernel
theorem dX5_keep_17 : decode cX5_keep 17 = .ok (.aload_n 0, 1) := by decide +kernel
theorem dX5_keep_18 : decode cX5_keep 18 = .ok (.getfield 25, 3) := by decide +kernel
theorem dX5_keep_21 : decode cX5_keep 21 = .ok (.aload_n 0, 1) := by decide +kernel
theorem dX5_keep_22 : decode cX5_keep 22 = .ok (.getfield 12, 3) := by decide +kernel
theorem dX5_keep_25 : decode cX5_keep 25 = .ok (.iload_n 1, 1) := by decide +kernel
theorem dX5_keep_26 : decode cX5_keep 26 = .ok (.invokevirtual 250, 3) := by decide +kernel
theorem dX5_keep_29 : decode cX5_keep 29 = .ok (.ireturn, 1) := by decide +kernel
set_option maxRecDepth 100000 in
set_option maxHeartbeats 4000000 in
theorem c_X5_keep (Z : ZZ) (l : Launch) (t : Nat) (a1 : Int32) (h : HP) {v : Int32} {h1 : HP} (ho : f_X5_keep t a1 h = some (v, h1)) : MetP Z l yX5_keep cX5_keep 2 (some .int) 7 161 [.ref (zb Z + t), .int a1] h (some (.int v)) h1 := by
  refine MetP_of ho (by decide +kernel) (Nat.le_of_ble_eq_true rfl) [(0, .ref (zb Z + t)), (1, .int a1)] rfl (own := RX5) rfl (nm := "keep") rfl ?_
  unfold f_X5_keep
  refine S_aload_n dX5_keep_0 rfl 0 rfl (pc' := 1) rfl ?_
  refine S_iload_n dX5_keep_1 rfl 1 rfl (pc' := 2) rfl ?_
  refine S_invi ml_X5_135 mi_X5_noSong (ci := 5) ⟨_, rfl, rfl⟩ (by decide) dX5_keep_2 [.int a1] rfl (fun v h2 q => c_X5_noSong Z l _ _ _ q) ⟨Nat.le_of_ble_eq_true rfl, Nat.le_of_ble_eq_true rfl⟩ (rest := []) (Nat.le_of_ble_eq_true rfl) rfl (pc' := 5) rfl (fun x2 h2 => ?_)
  refine S_if_eq dX5_keep_5 17 rfl (pc' := 8) rfl (fun g5 => ?_) (fun g5 => ?_)
  · refine S_aload_n dX5_keep_17 rfl 0 rfl (pc' := 18) rfl ?_
    refine S_getR fl_X5_25 rfl dX5_keep_18 (pc' := 21) rfl (fun x18 => ?_)
    refine S_aload_n dX5_keep_21 rfl 0 rfl (pc' := 22) rfl ?_
    refine S_getR fl_X5_12 rfl dX5_keep_22 (pc' := 25) rfl (fun x22 => ?_)
    refine S_iload_n dX5_keep_25 rfl 1 rfl (pc' := 26) rfl ?_
    refine S_invi ml_X5_250 mi_X1_neededAtTable (ci := 1) ⟨_, rfl, rfl⟩ (by decide) dX5_keep_26 [.ref (zb Z + x22), .int a1] rfl (fun v h2 q => c_X1_neededAtTable Z l _ _ _ _ q) ⟨Nat.le_of_ble_eq_true rfl, Nat.le_of_ble_eq_true rfl⟩ (rest := []) (Nat.le_of_ble_eq_true rfl) rfl (pc' := 29) rfl (fun x26 h26 => ?_)
    exact S_iret rfl dX5_keep_29
  · refine S_aload_n dX5_keep_8 rfl 0 rfl (pc' := 9) rfl ?_
    refine S_bipush dX5_keep_9 (v := (-2)) rfl (pc' := 11) rfl ?_
    refine S_invi ml_X5_58 mi_X5_refuse (ci := 5) ⟨_, rfl, rfl⟩ (by decide) dX5_keep_11 [.int (-2)] rfl (fun v h2 q => c_X5_refuse Z l _ _ _ q) ⟨Nat.le_of_ble_eq_true rfl, Nat.le_of_ble_eq_true rfl⟩ (rest := []) (Nat.le_of_ble_eq_true rfl) rfl (pc' := 14) rfl (fun x11 h11 => ?_)
    refine S_goto dX5_keep_14 29 rfl ?_
    exact S_iret rfl dX5_keep_29
theorem dX5_workFor_0 : decode cX5_workFor 0 = .ok (.aload_n 0, 1) := by decide +kernel
theorem dX5_workFor_1 : decode cX5_workFor 1 = .ok (.iload_n 1, 1) := by decide +kernel
theorem dX5_workFor_2 : decode cX5_workFor 2 = .ok (.invokevirtual 135, 3) := by decide +kernel
theorem dX5_workFor_5 : decode cX5_workFor 5 = .ok (.ifCond .ne 12, 3) := by decide +kernel
theorem dX5_workFor_8 : decode cX5_workFor 8 = .ok (.iload_n 2, 1) := by decide +kernel
theorem dX5_workFor_9 : decode cX5_workFor 9 = .ok (.bipush 61, 2) := by decide +kernel
theorem dX5_workFor_11 : decode cX5_workFor 11 = .ok (.invokestatic 54, 3) := by decide +kernel
theorem dX5_workFor_14 : decode cX5_workFor 14 = .ok (.ifCond .eq 10, 3) := by decide +kernel
theorem dX5_workFor_17 : decode cX5_workFor 17 = .ok (.aload_n 0, 1) := by decide +kernel
theorem dX5_workFor_18 : decode cX5_workFor 18 = .ok (.bipush (-2), 2) := by decide +kernel
theorem dX5_workFor_20 : decode cX5_workFor 20 = .ok (.invokevirtual 58, 3) := by decide +kernel
theorem dX5_workFor_23 : decode cX5_workFor 23 = .ok (.ireturn, 1) := by decide +kernel
theorem dX5_workFor_24 : decode cX5_workFor 24 = .ok (.aload_n 0, 1) := by decide +kernel
theorem dX5_workFor_25 : decode cX5_workFor 25 = .ok (.getfield 25, 3) := by decide +kernel
theorem dX5_workFor_28 : decode cX5_workFor 28 = .ok (.aload_n 0, 1) := by decide +kernel
theorem dX5_workFor_29 : decode cX5_workFor 29 = .ok (.getfield 12, 3) := by decide +kernel
theorem dX5_workFor_32 : decode cX5_workFor 32 = .ok (.iload_n 1, 1) := by decide +kernel
theorem dX5_workFor_33 : decode cX5_workFor 33 = .ok (.iload_n 2, 1) := by decide +kernel
theorem dX5_workFor_34 : decode cX5_workFor 34 = .ok (.invokevirtual 253, 3) := by decide +kernel
theorem dX5_workFor_37 : decode cX5_workFor 37 = .ok (.ireturn, 1) := by decide +kernel
set_option maxRecDepth 100000 in
set_option maxHeartbeats 4000000 in
theorem c_X5_workFor (Z : ZZ) (l : Launch) (t : Nat) (a1 : Int32) (a2 : Int32) (h : HP) {v : Int32} {h1 : HP} (ho : f_X5_workFor t a1 a2 h = some (v, h1)) : MetP Z l yX5_workFor cX5_workFor 3 (some .int) 7 159 [.ref (zb Z + t), .int a1, .int a2] h (some (.int v)) h1 := by
  refine MetP_of ho (by decide +kernel) (Nat.le_of_ble_eq_true rfl) [(0, .ref (zb Z + t)), (1, .int a1), (2, .int a2)] rfl (own := RX5) rfl (nm := "workFor") rfl ?_
  unfold f_X5_workFor
  refine S_aload_n dX5_workFor_0 rfl 0 rfl (pc' := 1) rfl ?_
  refine S_iload_n dX5_workFor_1 rfl 1 rfl (pc' := 2) rfl ?_
  refine S_invi ml_X5_135 mi_X5_noSong (ci := 5) ⟨_, rfl, rfl⟩ (by decide) dX5_workFor_2 [.int a1] rfl (fun v h2 q => c_X5_noSong Z l _ _ _ q) ⟨Nat.le_of_ble_eq_true rfl, Nat.le_of_ble_eq_true rfl⟩ (rest := []) (Nat.le_of_ble_eq_true rfl) rfl (pc' := 5) rfl (fun x2 h2 => ?_)
  refine S_if_ne dX5_workFor_5 17 rfl (pc' := 8) rfl (fun g5 => ?_) (fun g5 => ?_)
  · refine S_aload_n dX5_workFor_17 rfl 0 rfl (pc' := 18) rfl ?_
    refine S_bipush dX5_workFor_18 (v := (-2)) rfl (pc' := 20) rfl ?_
    refine S_invi ml_X5_58 mi_X5_refuse (ci := 5) ⟨_, rfl, rfl⟩ (by decide) dX5_workFor_20 [.int (-2)] rfl (fun v h2 q => c_X5_refuse Z l _ _ _ q) ⟨Nat.le_of_ble_eq_true rfl, Nat.le_of_ble_eq_true rfl⟩ (rest := []) (Nat.le_of_ble_eq_true rfl) rfl (pc' := 23) rfl (fun x20 h20 => ?_)
    exact S_iret rfl dX5_workFor_23
  · refine S_iload_n dX5_workFor_8 rfl 2 rfl (pc' := 9) rfl ?_
    refine S_bipush dX5_workFor_9 (v := 61) rfl (pc' := 11) rfl ?_
    refine S_stai ml_X5_54 ms_X5_outside dX5_workFor_11 [.int a2, .int 61] rfl (fun v h2 q => c_X5_outside Z l _ _ _ q) ⟨Nat.le_of_ble_eq_true rfl, Nat.le_of_ble_eq_true rfl⟩ (rest := []) (Nat.le_of_ble_eq_true rfl) rfl (pc' := 14) rfl (fun x11 h11 => ?_)
    refine S_if_eq dX5_workFor_14 24 rfl (pc' := 17) rfl (fun g14 => ?_) (fun g14 => ?_)
    · refine S_aload_n dX5_workFor_24 rfl 0 rfl (pc' := 25) rfl ?_
      refine S_getR fl_X5_25 rfl dX5_workFor_25 (pc' := 28) rfl (fun x25 => ?_)
      refine S_aload_n dX5_workFor_28 rfl 0 rfl (pc' := 29) rfl ?_
      refine S_getR fl_X5_12 rfl dX5_workFor_29 (pc' := 32) rfl (fun x29 => ?_)
      refine S_iload_n dX5_workFor_32 rfl 1 rfl (pc' := 33) rfl ?_
      refine S_iload_n dX5_workFor_33 rfl 2 rfl (pc' := 34) rfl ?_
      refine S_invi ml_X5_253 mi_X1_leastWork (ci := 1) ⟨_, rfl, rfl⟩ (by decide) dX5_workFor_34 [.ref (zb Z + x29), .int a1, .int a2] rfl (fun v h2 q => c_X1_leastWork Z l _ _ _ _ _ q) ⟨Nat.le_of_ble_eq_true rfl, Nat.le_of_ble_eq_true rfl⟩ (rest := []) (Nat.le_of_ble_eq_true rfl) rfl (pc' := 37) rfl (fun x34 h34 => ?_)
      exact S_iret rfl dX5_workFor_37
    · refine S_aload_n dX5_workFor_17 rfl 0 rfl (pc' := 18) rfl ?_
      refine S_bipush dX5_workFor_18 (v := (-2)) rfl (pc' := 20) rfl ?_
      refine S_invi ml_X5_58 mi_X5_refuse (ci := 5) ⟨_, rfl, rfl⟩ (by decide) dX5_workFor_20 [.int (-2)] rfl (fun v h2 q => c_X5_refuse Z l _ _ _ q) ⟨Nat.le_of_ble_eq_true rfl, Nat.le_of_ble_eq_true rfl⟩ (rest := []) (Nat.le_of_ble_eq_true rfl) rfl (pc' := 23) rfl (fun x20 h20 => ?_)
      exact S_iret rfl dX5_workFor_23
theorem dX5_teach_0 : decode cX5_teach 0 = .ok (.aload_n 0, 1) := by decide +kernel
theorem dX5_teach_1 : decode cX5_teach 1 = .ok (.iload_n 1, 1) := by decide +kernel
theorem dX5_teach_2 : decode cX5_teach 2 = .ok (.invokevirtual 135, 3) := by decide +kernel
theorem dX5_teach_5 : decode cX5_teach 5 = .ok (.ifCond .ne 12, 3) := by decide +kernel
theorem dX5_teach_8 : decode cX5_teach 8 = .ok (.iload_n 2, 1) := by decide +kernel
theorem dX5_teach_9 : decode cX5_teach 9 = .ok (.bipush 9, 2) := by decide +kernel
theorem dX5_teach_11 : decode cX5_teach 11 = .ok (.invokestatic 54, 3) := by decide +kernel
theorem dX5_teach_14 : decode cX5_teach 14 = .ok (.ifCond .eq 10, 3) := by decide +kernel
theorem dX5_teach_17 : decode cX5_teach 17 = .ok (.aload_n 0, 1) := by decide +kernel
theorem dX5_teach_18 : decode cX5_teach 18 = .ok (.bipush (-2), 2) := by decide +kernel
theorem dX5_teach_20 : decode cX5_teach 20 = .ok (.invokevirtual 58, 3) := by decide +kernel
theorem dX5_teach_23 : decode cX5_teach 23 = .ok (.ireturn, 1) := by decide +kernel
theorem dX5_teach_24 : decode cX5_teach 24 = .ok (.aload_n 0, 1) := by decide +kernel
theorem dX5_teach_25 : decode cX5_teach 25 = .ok (.getfield 25, 3) := by decide +kernel
theorem dX5_teach_28 : decode cX5_teach 28 = .ok (.aload_n 0, 1) := by decide +kernel
theorem dX5_teach_29 : decode cX5_teach 29 = .ok (.getfield 12, 3) := by decide +kernel
theorem dX5_teach_32 : decode cX5_teach 32 = .ok (.iload_n 1, 1) := by decide +kernel
theorem dX5_teach_33 : decode cX5_teach 33 = .ok (.iload_n 2, 1) := by decide +kernel
theorem dX5_teach_34 : decode cX5_teach 34 = .ok (.invokevirtual 257, 3) := by decide +kernel
theorem dX5_teach_37 : decode cX5_teach 37 = .ok (.ireturn, 1) := by decide +kernel
set_option maxRecDepth 100000 in
set_option maxHeartbeats 4000000 in
theorem c_X5_teach (Z : ZZ) (l : Launch) (t : Nat) (a1 : Int32) (a2 : Int32) (h : HP) {v : Int32} {h1 : HP} (ho : f_X5_teach t a1 a2 h = some (v, h1)) : MetP Z l yX5_teach cX5_teach 3 (some .int) 7 163 [.ref (zb Z + t), .int a1, .int a2] h (some (.int v)) h1 := by
  refine MetP_of ho (by decide +kernel) (Nat.le_of_ble_eq_true rfl) [(0, .ref (zb Z + t)), (1, .int a1), (2, .int a2)] rfl (own := RX5) rfl (nm := "teach") rfl ?_
  unfold f_X5_teach
  refine S_aload_n dX5_teach_0 rfl 0 rfl (pc' := 1) rfl ?_
  refine S_iload_n dX5_teach_1 rfl 1 rfl (pc' := 2) rfl ?_
  refine S_invi ml_X5_135 mi_X5_noSong (ci := 5) ⟨_, rfl, rfl⟩ (by decide) dX5_teach_2 [.int a1] rfl (fun v h2 q => c_X5_noSong Z l _ _ _ q) ⟨Nat.le_of_ble_eq_true rfl, Nat.le_of_ble_eq_true rfl⟩ (rest := []) (Nat.le_of_ble_eq_true rfl) rfl (pc' := 5) rfl (fun x2 h2 => ?_)
  refine S_if_ne dX5_teach_5 17 rfl (pc' := 8) rfl (fun g5 => ?_) (fun g5 => ?_)
  · refine S_aload_n dX5_teach_17 rfl 0 rfl (pc' := 18) rfl ?_
    refine S_bipush dX5_teach_18 (v := (-2)) rfl (pc' := 20) rfl ?_
    refine S_invi ml_X5_58 mi_X5_refuse (ci := 5) ⟨_, rfl, rfl⟩ (by decide) dX5_teach_20 [.int (-2)] rfl (fun v h2 q => c_X5_refuse Z l _ _ _ q) ⟨Nat.le_of_ble_eq_true rfl, Nat.le_of_ble_eq_true rfl⟩ (rest := []) (Nat.le_of_ble_eq_true rfl) rfl (pc' := 23) rfl (fun x20 h20 => ?_)
    exact S_iret rfl dX5_teach_23
  · refine S_iload_n dX5_teach_8 rfl 2 rfl (pc' := 9) rfl ?_
    refine S_bipush dX5_teach_9 (v := 9) rfl (pc' := 11) rfl ?_
    refine S_stai ml_X5_54 ms_X5_outside dX5_teach_11 [.int a2, .int 9] rfl (fun v h2 q => c_X5_outside Z l _ _ _ q) ⟨Nat.le_of_ble_eq_true rfl, Nat.le_of_ble_eq_true rfl⟩ (rest := []) (Nat.le_of_ble_eq_true rfl) rfl (pc' := 14) rfl (fun x11 h11 => ?_)
    refine S_if_eq dX5_teach_14 24 rfl (pc' := 17) rfl (fun g14 => ?_) (fun g14 => ?_)
    · refine S_aload_n dX5_teach_24 rfl 0 rfl (pc' := 25) rfl ?_
      refine S_getR fl_X5_25 rfl dX5_teach_25 (pc' := 28) rfl (fun x25 => ?_)
      refine S_aload_n dX5_teach_28 rfl 0 rfl (pc' := 29) rfl ?_
      refine S_getR fl_X5_12 rfl dX5_teach_29 (pc' := 32) rfl (fun x29 => ?_)
      refine S_iload_n dX5_teach_32 rfl 1 rfl (pc' := 33) rfl ?_
      refine S_iload_n dX5_teach_33 rfl 2 rfl (pc' := 34) rfl ?_
      refine S_invi ml_X5_257 mi_X1_worstPupils (ci := 1) ⟨_, rfl, rfl⟩ (by decide) dX5_teach_34 [.ref (zb Z + x29), .int a1, .int a2] rfl (fun v h2 q => c_X1_worstPupils Z l _ _ _ _ _ q) ⟨Nat.le_of_ble_eq_true rfl, Nat.le_of_ble_eq_true rfl⟩ (rest := []) (Nat.le_of_ble_eq_true rfl) rfl (pc' := 37) rfl (fun x34 h34 => ?_)
      exact S_iret rfl dX5_teach_37
    · refine S_aload_n dX5_teach_17 rfl 0 rfl (pc' := 18) rfl ?_
      refine S_bipush dX5_teach_18 (v := (-2)) rfl (pc' := 20) rfl ?_
      refine S_invi ml_X5_58 mi_X5_refuse (ci := 5) ⟨_, rfl, rfl⟩ (by decide) dX5_teach_20 [.int (-2)] rfl (fun v h2 q => c_X5_refuse Z l _ _ _ q) ⟨Nat.le_of_ble_eq_true rfl, Nat.le_of_ble_eq_true rfl⟩ (rest := []) (Nat.le_of_ble_eq_true rfl) rfl (pc' := 23) rfl (fun x20 h20 => ?_)
      exact S_iret rfl dX5_teach_23
theorem dX5_hummer_0 : decode cX5_hummer 0 = .ok (.aload_n 0, 1) := by decide +kernel
theorem dX5_hummer_1 : decode cX5_hummer 1 = .ok (.iload_n 1, 1) := by decide +kernel
theorem dX5_hummer_2 : decode cX5_hummer 2 = .ok (.invokevirtual 135, 3) := by decide +kernel
theorem dX5_hummer_5 : decode cX5_hummer 5 = .ok (.ifCond .eq 12, 3) := by decide +kernel
theorem dX5_hummer_8 : decode cX5_hummer 8 = .ok (.aload_n 0, 1) := by decide +kernel
theorem dX5_hummer_9 : decode cX5_hummer 9 = .ok (.bipush (-2), 2) := by decide +kernel
theorem dX5_hummer_11 : decode cX5_hummer 11 = .ok (.invokevirtual 58, 3) := by decide +kernel
theorem dX5_hummer_14 : decode cX5_hummer 14 = .ok (.goto 15, 3) := by decide +kernel
theorem dX5_hummer_17 : decode cX5_hummer 17 = .ok (.aload_n 0, 1) := by decide +kernel
theorem dX5_hummer_18 : decode cX5_hummer 18 = .ok (.getfield 25, 3) := by decide +kernel
theorem dX5_hummer_21 : decode cX5_hummer 21 = .ok (.aload_n 0, 1) := by decide +kernel
theorem dX5_hummer_22 : decode cX5_hummer 22 = .ok (.getfield 12, 3) := by decide +kernel
theorem dX5_hummer_25 : decode cX5_hummer 25 = .ok (.iload_n 1, 1) := by decide +kernel
theorem dX5_hummer_26 : decode cX5_hummer 26 = .ok (.invokevirtual 260, 3) := by decide +kernel
theorem dX5_hummer_29 : decode cX5_hummer 29 = .ok (.ireturn, 1) := by decide +kernel
set_option maxRecDepth 100000 in
set_option maxHeartbeats 4000000 in
theorem c_X5_hummer (Z : ZZ) (l : Launch) (t : Nat) (a1 : Int32) (h : HP) {v : Int32} {h1 : HP} (ho : f_X5_hummer t a1 h = some (v, h1)) : MetP Z l yX5_hummer cX5_hummer 2 (some .int) 7 161 [.ref (zb Z + t), .int a1] h (some (.int v)) h1 := by
  refine MetP_of ho (by decide +kernel) (Nat.le_of_ble_eq_true rfl) [(0, .ref (zb Z + t)), (1, .int a1)] rfl (own := RX5) rfl (nm := "hummer") rfl ?_
  unfold f_X5_hummer
  refine S_aload_n dX5_hummer_0 rfl 0 rfl (pc' := 1) rfl ?_
  refine S_iload_n dX5_hummer_1 rfl 1 rfl (pc' := 2) rfl ?_
  refine S_invi ml_X5_135 mi_X5_noSong (ci := 5) ⟨_, rfl, rfl⟩ (by decide) dX5_hummer_2 [.int a1] rfl (fun v h2 q => c_X5_noSong Z l _ _ _ q) ⟨Nat.le_of_ble_eq_true rfl, Nat.le_of_ble_eq_true rfl⟩ (rest := []) (Nat.le_of_ble_eq_true rfl) rfl (pc' := 5) rfl (fun x2 h2 => ?_)
  refine S_if_eq dX5_hummer_5 17 rfl (pc' := 8) rfl (fun g5 => ?_) (fun g5 => ?_)
  · refine S_aload_n dX5_hummer_17 rfl 0 rfl (pc' := 18) rfl ?_
    refine S_getR fl_X5_25 rfl dX5_hummer_18 (pc' := 21) rfl (fun x18 => ?_)
    refine S_aload_n dX5_hummer_21 rfl 0 rfl (pc' := 22) rfl ?_
    refine S_getR fl_X5_12 rfl dX5_hummer_22 (pc' := 25) rfl (fun x22 => ?_)
    refine S_iload_n dX5_hummer_25 rfl 1 rfl (pc' := 26) rfl ?_
    refine S_invi ml_X5_260 mi_X1_bestHummer (ci := 1) ⟨_, rfl, rfl⟩ (by decide) dX5_hummer_26 [.ref (zb Z + x22), .int a1] rfl (fun v h2 q => c_X1_bestHummer Z l _ _ _ _ q) ⟨Nat.le_of_ble_eq_true rfl, Nat.le_of_ble_eq_true rfl⟩ (rest := []) (Nat.le_of_ble_eq_true rfl) rfl (pc' := 29) rfl (fun x26 h26 => ?_)
    exact S_iret rfl dX5_hummer_29
  · refine S_aload_n dX5_hummer_8 rfl 0 rfl (pc' := 9) rfl ?_
    refine S_bipush dX5_hummer_9 (v := (-2)) rfl (pc' := 11) rfl ?_
    refine S_invi ml_X5_58 mi_X5_refuse (ci := 5) ⟨_, rfl, rfl⟩ (by decide) dX5_hummer_11 [.int (-2)] rfl (fun v h2 q => c_X5_refuse Z l _ _ _ q) ⟨Nat.le_of_ble_eq_true rfl, Nat.le_of_ble_eq_true rfl⟩ (rest := []) (Nat.le_of_ble_eq_true rfl) rfl (pc' := 14) rfl (fun x11 h11 => ?_)
    refine S_goto dX5_hummer_14 29 rfl ?_
    exact S_iret rfl dX5_hummer_29
theorem dX5_next_0 : decode cX5_next 0 = .ok (.aload_n 0, 1) := by decide +kernel
theorem dX5_next_1 : decode cX5_next 1 = .ok (.getfield 25, 3) := by decide +kernel
theorem dX5_next_4 : decode cX5_next 4 = .ok (.aload_n 0, 1) := by decide +kernel
theorem dX5_next_5 : decode cX5_next 5 = .ok (.getfield 12, 3) := by decide +kernel
theorem dX5_next_8 : decode cX5_next 8 = .ok (.invokevirtual 263, 3) := by decide +kernel
theorem dX5_next_11 : decode cX5_next 11 = .ok (.ireturn, 1) := by decide +kernel
set_option maxRecDepth 100000 in
set_option maxHeartbeats 4000000 in
theorem c_X5_next (Z : ZZ) (l : Launch) (t : Nat) (h : HP) {v : Int32} {h1 : HP} (ho : f_X5_next t h = some (v, h1)) : MetP Z l yX5_next cX5_next 1 (some .int) 7 160 [.ref (zb Z + t)] h (some (.int v)) h1 := by
  refine MetP_of ho (by decide +kernel) (Nat.le_of_ble_eq_true rfl) [(0, .ref (zb Z + t))] rfl (own := RX5) rfl (nm := "next") rfl ?_
  unfold f_X5_next
  refine S_aload_n dX5_next_0 rfl 0 rfl (pc' := 1) rfl ?_
  refine S_getR fl_X5_25 rfl dX5_next_1 (pc' := 4) rfl (fun x1 => ?_)
  refine S_aload_n dX5_next_4 rfl 0 rfl (pc' := 5) rfl ?_
  refine S_getR fl_X5_12 rfl dX5_next_5 (pc' := 8) rfl (fun x5 => ?_)
  refine S_invi ml_X5_263 mi_X1_nextLost (ci := 1) ⟨_, rfl, rfl⟩ (by decide) dX5_next_8 [.ref (zb Z + x5)] rfl (fun v h2 q => c_X1_nextLost Z l _ _ _ q) ⟨Nat.le_of_ble_eq_true rfl, Nat.le_of_ble_eq_true rfl⟩ (rest := []) (Nat.le_of_ble_eq_true rfl) rfl (pc' := 11) rfl (fun x8 h8 => ?_)
  exact S_iret rfl dX5_next_11
theorem dX5_order_0 : decode cX5_order 0 = .ok (.aload_n 0, 1) := by decide +kernel
theorem dX5_order_1 : decode cX5_order 1 = .ok (.iload_n 1, 1) := by decide +kernel
theorem dX5_order_2 : decode cX5_order 2 = .ok (.invokevirtual 135, 3) := by decide +kernel
theorem dX5_order_5 : decode cX5_order 5 = .ok (.ifCond .eq 12, 3) := by decide +kernel
theorem dX5_order_8 : decode cX5_order 8 = .ok (.aload_n 0, 1) := by decide +kernel
theorem dX5_order_9 : decode cX5_order 9 = .ok (.bipush (-2), 2) := by decide +kernel
theorem dX5_order_11 : decode cX5_order 11 = .ok (.invokevirtual 58, 3) := by decide +kernel
theorem dX5_order_14 : decode cX5_order 14 = .ok (.goto 15, 3) := by decide +kernel
theorem dX5_order_17 : decode cX5_order 17 = .ok (.aload_n 0, 1) := by decide +kernel
theorem dX5_order_18 : decode cX5_order 18 = .ok (.getfield 25, 3) := by decide +kernel
theorem dX5_order_21 : decode cX5_order 21 = .ok (.aload_n 0, 1) := by decide +kernel
theorem dX5_order_22 : decode cX5_order 22 = .ok (.getfield 12, 3) := by decide +kernel
theorem dX5_order_25 : decode cX5_order 25 = .ok (.iload_n 1, 1) := by decide +kernel
theorem dX5_order_26 : decode cX5_order 26 = .ok (.invokevirtual 266, 3) := by decide +kernel
theorem dX5_order_29 : decode cX5_order 29 = .ok (.ireturn, 1) := by decide +kernel
set_option maxRecDepth 100000 in
set_option maxHeartbeats 4000000 in
theorem c_X5_order (Z : ZZ) (l : Launch) (t : Nat) (a1 : Int32) (h : HP) {v : Int32} {h1 : HP} (ho : f_X5_order t a1 h = some (v, h1)) : MetP Z l yX5_order cX5_order 2 (some .int) 7 158 [.ref (zb Z + t), .int a1] h (some (.int v)) h1 := by
  refine MetP_of ho (by decide +kernel) (Nat.le_of_ble_eq_true rfl) [(0, .ref (zb Z + t)), (1, .int a1)] rfl (own := RX5) rfl (nm := "order") rfl ?_
  unfold f_X5_order
  refine S_aload_n dX5_order_0 rfl 0 rfl (pc' := 1) rfl ?_
  refine S_iload_n dX5_order_1 rfl 1 rfl (pc' := 2) rfl ?_
  refine S_invi ml_X5_135 mi_X5_noSong (ci := 5) ⟨_, rfl, rfl⟩ (by decide) dX5_order_2 [.int a1] rfl (fun v h2 q => c_X5_noSong Z l _ _ _ q) ⟨Nat.le_of_ble_eq_true rfl, Nat.le_of_ble_eq_true rfl⟩ (rest := []) (Nat.le_of_ble_eq_true rfl) rfl (pc' := 5) rfl (fun x2 h2 => ?_)
  refine S_if_eq dX5_order_5 17 rfl (pc' := 8) rfl (fun g5 => ?_) (fun g5 => ?_)
  · refine S_aload_n dX5_order_17 rfl 0 rfl (pc' := 18) rfl ?_
    refine S_getR fl_X5_25 rfl dX5_order_18 (pc' := 21) rfl (fun x18 => ?_)
    refine S_aload_n dX5_order_21 rfl 0 rfl (pc' := 22) rfl ?_
    refine S_getR fl_X5_12 rfl dX5_order_22 (pc' := 25) rfl (fun x22 => ?_)
    refine S_iload_n dX5_order_25 rfl 1 rfl (pc' := 26) rfl ?_
    refine S_invi ml_X5_266 mi_X1_inOrder (ci := 1) ⟨_, rfl, rfl⟩ (by decide) dX5_order_26 [.ref (zb Z + x22), .int a1] rfl (fun v h2 q => c_X1_inOrder Z l _ _ _ _ q) ⟨Nat.le_of_ble_eq_true rfl, Nat.le_of_ble_eq_true rfl⟩ (rest := []) (Nat.le_of_ble_eq_true rfl) rfl (pc' := 29) rfl (fun x26 h26 => ?_)
    exact S_iret rfl dX5_order_29
  · refine S_aload_n dX5_order_8 rfl 0 rfl (pc' := 9) rfl ?_
    refine S_bipush dX5_order_9 (v := (-2)) rfl (pc' := 11) rfl ?_
    refine S_invi ml_X5_58 mi_X5_refuse (ci := 5) ⟨_, rfl, rfl⟩ (by decide) dX5_order_11 [.int (-2)] rfl (fun v h2 q => c_X5_refuse Z l _ _ _ q) ⟨Nat.le_of_ble_eq_true rfl, Nat.le_of_ble_eq_true rfl⟩ (rest := []) (Nat.le_of_ble_eq_true rfl) rfl (pc' := 14) rfl (fun x11 h11 => ?_)
    refine S_goto dX5_order_14 29 rfl ?_
    exact S_iret rfl dX5_order_29
theorem dX5_fits_0 : decode cX5_fits 0 = .ok (.iload_n 1, 1) := by decide +kernel
theorem dX5_fits_1 : decode cX5_fits 1 = .ok (.bipush 8, 2) := by decide +kernel
theorem dX5_fits_3 : decode cX5_fits 3 = .ok (.invokestatic 54, 3) := by decide +kernel
theorem dX5_fits_6 : decode cX5_fits 6 = .ok (.ifCond .ne 29, 3) := by decide +kernel
theorem dX5_fits_9 : decode cX5_fits 9 = .ok (.iload_n 2, 1) := by decide +kernel
theorem dX5_fits_10 : decode cX5_fits 10 = .ok (.bipush 13, 2) := by decide +kernel
theorem dX5_fits_12 : decode cX5_fits 12 = .ok (.invokestatic 54, 3) := by decide +kernel
theorem dX5_fits_15 : decode cX5_fits 15 = .ok (.ifCond .ne 20, 3) := by decide +kernel
theorem dX5_fits_18 : decode cX5_fits 18 = .ok (.aload_n 0, 1) := by decide +kernel
theorem dX5_fits_19 : decode cX5_fits 19 = .ok (.iload_n 3, 1) := by decide +kernel
theorem dX5_fits_20 : decode cX5_fits 20 = .ok (.invokevirtual 98, 3) := by decide +kernel
theorem dX5_fits_23 : decode cX5_fits 23 = .ok (.ifCond .ne 12, 3) := by decide +kernel
theorem dX5_fits_26 : decode cX5_fits 26 = .ok (.iload 4, 2) := by decide +kernel
theorem dX5_fits_28 : decode cX5_fits 28 = .ok (.iconst 2, 1) := by decide +kernel
theorem dX5_fits_29 : decode cX5_fits 29 = .ok (.invokestatic 54, 3) := by decide +kernel
theorem dX5_fits_32 : decode cX5_fits 32 = .ok (.ifCond .eq 10, 3) := by decide +kernel
theorem dX5_fits_35 : decode cX5_fits 35 = .ok (.aload_n 0, 1) := by decide +kernel
theorem dX5_fits_36 : decode cX5_fits 36 = .ok (.bipush (-2), 2) := by decide +kernel
theorem dX5_fits_38 : decode cX5_fits 38 = .ok (.invokevirtual 58, 3) := by decide +kernel
theorem dX5_fits_41 : decode cX5_fits 41 = .ok (.ireturn, 1) := by decide +kernel
theorem dX5_fits_42 : decode cX5_fits 42 = .ok (.aload_n 0, 1) := by decide +kernel
theorem dX5_fits_43 : decode cX5_fits 43 = .ok (.getfield 45, 3) := by decide +kernel
theorem dX5_fits_46 : decode cX5_fits 46 = .ok (.iload_n 1, 1) := by decide +kernel
theorem dX5_fits_47 : decode cX5_fits 47 = .ok (.aaload, 1) := by decide +kernel
theorem dX5_fits_48 : decode cX5_fits 48 = .ok (.astore 5, 2) := by decide +kernel
theorem dX5_fits_50 : decode cX5_fits 50 = .ok (.aload 5, 2) := by decide +kernel
theorem dX5_fits_52 : decode cX5_fits 52 = .ok (.iload_n 2, 1) := by decide +kernel
theorem dX5_fits_53 : decode cX5_fits 53 = .ok (.invokevirtual 269, 3) := by decide +kernel
theorem dX5_fits_56 : decode cX5_fits 56 = .ok (.istore 6, 2) := by decide +kernel
theorem dX5_fits_58 : decode cX5_fits 58 = .ok (.iload 6, 2) := by decide +kernel
theorem dX5_fits_60 : decode cX5_fits 60 = .ok (.ifCond .eq 10, 3) := by decide +kernel
theorem dX5_fits_63 : decode cX5_fits 63 = .ok (.aload_n 0, 1) := by decide +kernel
theorem dX5_fits_64 : decode cX5_fits 64 = .ok (.iload 6, 2) := by decide +kernel
theorem dX5_fits_66 : decode cX5_fits 66 = .ok (.invokevirtual 58, 3) := by decide +kernel
theorem dX5_fits_69 : decode cX5_fits 69 = .ok (.ireturn, 1) := by decide +kernel
theorem dX5_fits_70 : decode cX5_fits 70 = .ok (.iload 4, 2) := by decide +kernel
theorem dX5_fits_72 : decode cX5_fits 72 = .ok (.ifCond .ne 21, 3) := by decide +kernel
theorem dX5_fits_75 : decode cX5_fits 75 = .ok (.aload_n 0, 1) := by decide +kernel
theorem dX5_fits_76 : decode cX5_fits 76 = .ok (.getfield 25, 3) := by decide +kernel
theorem dX5_fits_79 : decode cX5_fits 79 = .ok (.aload_n 0, 1) := by decide +kernel
theorem dX5_fits_80 : decode cX5_fits 80 = .ok (.getfield 12, 3) := by decide +kernel
theorem dX5_fits_83 : decode cX5_fits 83 = .ok (.aload 5, 2) := by decide +kernel
theorem dX5_fits_85 : decode cX5_fits 85 = .ok (.iload_n 2, 1) := by decide +kernel
theorem dX5_fits_86 : decode cX5_fits 86 = .ok (.iload_n 3, 1) := by decide +kernel
theorem dX5_fits_87 : decode cX5_fits 87 = .ok (.invokevirtual 272, 3) := by decide +kernel
theorem dX5_fits_90 : decode cX5_fits 90 = .ok (.goto 18, 3) := by decide +kernel
theorem dX5_fits_93 : decode cX5_fits 93 = .ok (.aload_n 0, 1) := by decide +kernel
theorem dX5_fits_94 : decode cX5_fits 94 = .ok (.getfield 25, 3) := by decide +kernel
theorem dX5_fits_97 : decode cX5_fits 97 = .ok (.aload_n 0, 1) := by decide +kernel
theorem dX5_fits_98 : decode cX5_fits 98 = .ok (.getfield 12, 3) := by decide +kernel
theorem dX5_fits_101 : decode cX5_fits 101 = .ok (.aload 5, 2) := by decide +kernel
theorem dX5_fits_103 : decode cX5_fits 103 = .ok (.iload_n 2, 1) := by decide +kernel
theorem dX5_fits_104 : decode cX5_fits 104 = .ok (.iload_n 3, 1) := by decide +kernel
theorem dX5_fits_105 : decode cX5_fits 105 = .ok (.invokevirtual 276, 3) := by decide +kernel
theorem dX5_fits_108 : decode cX5_fits 108 = .ok (.ireturn, 1) := by decide +kernel
set_option maxRecDepth 100000 in
set_option maxHeartbeats 4000000 in
theorem c_X5_fits (Z : ZZ) (l : Launch) (t : Nat) (a1 : Int32) (a2 : Int32) (a3 : Int32) (a4 : Int32) (h : HP) {v : Int32} {h1 : HP} (ho : f_X5_fits t a1 a2 a3 a4 h = some (v, h1)) : MetP Z l yX5_fits cX5_fits 7 (some .int) 7 163 [.ref (zb Z + t), .int a1, .int a2, .int a3, .int a4] h (some (.int v)) h1 := by
  refine MetP_of ho (by decide +kernel) (Nat.le_of_ble_eq_true rfl) [(0, .ref (zb Z + t)), (1, .int a1), (2, .int a2), (3, .int a3), (4, .int a4)] rfl (own := RX5) rfl (nm := "fits") rfl ?_
  unfold f_X5_fits
  refine S_iload_n dX5_fits_0 rfl 1 rfl (pc' := 1) rfl ?_
  refine S_bipush dX5_fits_1 (v := 8) rfl (pc' := 3) rfl ?_
  refine S_stai ml_X5_54 ms_X5_outside dX5_fits_3 [.int a1, .int 8] rfl (fun v h2 q => c_X5_outside Z l _ _ _ q) ⟨Nat.le_of_ble_eq_true rfl, Nat.le_of_ble_eq_true rfl⟩ (rest := []) (Nat.le_of_ble_eq_true rfl) rfl (pc' := 6) rfl (fun x3 h3 => ?_)
  refine S_if_ne dX5_fits_6 35 rfl (pc' := 9) rfl (fun g6 => ?_) (fun g6 => ?_)
  · refine S_aload_n dX5_fits_35 rfl 0 rfl (pc' := 36) rfl ?_
    refine S_bipush dX5_fits_36 (v := (-2)) rfl (pc' := 38) rfl ?_
    refine S_invi ml_X5_58 mi_X5_refuse (ci := 5) ⟨_, rfl, rfl⟩ (by decide) dX5_fits_38 [.int (-2)] rfl (fun v h2 q => c_X5_refuse Z l _ _ _ q) ⟨Nat.le_of_ble_eq_true rfl, Nat.le_of_ble_eq_true rfl⟩ (rest := []) (Nat.le_of_ble_eq_true rfl) rfl (pc' := 41) rfl (fun x38 h38 => ?_)
    exact S_iret rfl dX5_fits_41
  · refine S_iload_n dX5_fits_9 rfl 2 rfl (pc' := 10) rfl ?_
    refine S_bipush dX5_fits_10 (v := 13) rfl (pc' := 12) rfl ?_
    refine S_stai ml_X5_54 ms_X5_outside dX5_fits_12 [.int a2, .int 13] rfl (fun v h2 q => c_X5_outside Z l _ _ _ q) ⟨Nat.le_of_ble_eq_true rfl, Nat.le_of_ble_eq_true rfl⟩ (rest := []) (Nat.le_of_ble_eq_true rfl) rfl (pc' := 15) rfl (fun x12 h12 => ?_)
    refine S_if_ne dX5_fits_15 35 rfl (pc' := 18) rfl (fun g15 => ?_) (fun g15 => ?_)
    · refine S_aload_n dX5_fits_35 rfl 0 rfl (pc' := 36) rfl ?_
      refine S_bipush dX5_fits_36 (v := (-2)) rfl (pc' := 38) rfl ?_
      refine S_invi ml_X5_58 mi_X5_refuse (ci := 5) ⟨_, rfl, rfl⟩ (by decide) dX5_fits_38 [.int (-2)] rfl (fun v h2 q => c_X5_refuse Z l _ _ _ q) ⟨Nat.le_of_ble_eq_true rfl, Nat.le_of_ble_eq_true rfl⟩ (rest := []) (Nat.le_of_ble_eq_true rfl) rfl (pc' := 41) rfl (fun x38 h38 => ?_)
      exact S_iret rfl dX5_fits_41
    · refine S_aload_n dX5_fits_18 rfl 0 rfl (pc' := 19) rfl ?_
      refine S_iload_n dX5_fits_19 rfl 3 rfl (pc' := 20) rfl ?_
      refine S_invi ml_X5_98 mi_X5_noPerson (ci := 5) ⟨_, rfl, rfl⟩ (by decide) dX5_fits_20 [.int a3] rfl (fun v h2 q => c_X5_noPerson Z l _ _ _ q) ⟨Nat.le_of_ble_eq_true rfl, Nat.le_of_ble_eq_true rfl⟩ (rest := []) (Nat.le_of_ble_eq_true rfl) rfl (pc' := 23) rfl (fun x20 h20 => ?_)
      refine S_if_ne dX5_fits_23 35 rfl (pc' := 26) rfl (fun g23 => ?_) (fun g23 => ?_)
      · refine S_aload_n dX5_fits_35 rfl 0 rfl (pc' := 36) rfl ?_
        refine S_bipush dX5_fits_36 (v := (-2)) rfl (pc' := 38) rfl ?_
        refine S_invi ml_X5_58 mi_X5_refuse (ci := 5) ⟨_, rfl, rfl⟩ (by decide) dX5_fits_38 [.int (-2)] rfl (fun v h2 q => c_X5_refuse Z l _ _ _ q) ⟨Nat.le_of_ble_eq_true rfl, Nat.le_of_ble_eq_true rfl⟩ (rest := []) (Nat.le_of_ble_eq_true rfl) rfl (pc' := 41) rfl (fun x38 h38 => ?_)
        exact S_iret rfl dX5_fits_41
      · refine S_iload dX5_fits_26 4 rfl (pc' := 28) rfl ?_
        refine S_iconst dX5_fits_28 (v := 2) rfl (pc' := 29) rfl ?_
        refine S_stai ml_X5_54 ms_X5_outside dX5_fits_29 [.int a4, .int 2] rfl (fun v h2 q => c_X5_outside Z l _ _ _ q) ⟨Nat.le_of_ble_eq_true rfl, Nat.le_of_ble_eq_true rfl⟩ (rest := []) (Nat.le_of_ble_eq_true rfl) rfl (pc' := 32) rfl (fun x29 h29 => ?_)
        refine S_if_eq dX5_fits_32 42 rfl (pc' := 35) rfl (fun g32 => ?_) (fun g32 => ?_)
        · refine S_aload_n dX5_fits_42 rfl 0 rfl (pc' := 43) rfl ?_
          refine S_getR fl_X5_45 rfl dX5_fits_43 (pc' := 46) rfl (fun x43 => ?_)
          refine S_iload_n dX5_fits_46 rfl 1 rfl (pc' := 47) rfl ?_
          refine S_aaloadS dX5_fits_47 (pc' := 48) rfl (fun x47 => ?_)
          refine S_astore dX5_fits_48 (by decide) (lo' := [(5, .ref (zb Z + x47)), (0, .ref (zb Z + t)), (1, .int a1), (2, .int a2), (3, .int a3), (4, .int a4)]) rfl (pc' := 50) rfl ?_
          refine S_aload dX5_fits_50 0 rfl (pc' := 52) rfl ?_
          refine S_iload_n dX5_fits_52 rfl 3 rfl (pc' := 53) rfl ?_
          refine S_invi ml_X5_269 mi_X3_refusalAsTold (ci := 3) ⟨_, rfl, rfl⟩ (by decide) dX5_fits_53 [.int a2] rfl (fun v h2 q => c_X3_refusalAsTold Z l _ _ _ q) ⟨Nat.le_of_ble_eq_true rfl, Nat.le_of_ble_eq_true rfl⟩ (rest := []) (Nat.le_of_ble_eq_true rfl) rfl (pc' := 56) rfl (fun x53 h53 => ?_)
          refine S_istore dX5_fits_56 (by decide) (lo' := [(6, .int x53), (5, .ref (zb Z + x47)), (0, .ref (zb Z + t)), (1, .int a1), (2, .int a2), (3, .int a3), (4, .int a4)]) rfl (pc' := 58) rfl ?_
          refine S_iload dX5_fits_58 0 rfl (pc' := 60) rfl ?_
          refine S_if_eq dX5_fits_60 70 rfl (pc' := 63) rfl (fun g60 => ?_) (fun g60 => ?_)
          · refine S_iload dX5_fits_70 6 rfl (pc' := 72) rfl ?_
            refine S_if_ne dX5_fits_72 93 rfl (pc' := 75) rfl (fun g72 => ?_) (fun g72 => ?_)
            · refine S_aload_n dX5_fits_93 rfl 2 rfl (pc' := 94) rfl ?_
              refine S_getR fl_X5_25 rfl dX5_fits_94 (pc' := 97) rfl (fun x94 => ?_)
              refine S_aload_n dX5_fits_97 rfl 2 rfl (pc' := 98) rfl ?_
              refine S_getR fl_X5_12 rfl dX5_fits_98 (pc' := 101) rfl (fun x98 => ?_)
              refine S_aload dX5_fits_101 1 rfl (pc' := 103) rfl ?_
              refine S_iload_n dX5_fits_103 rfl 4 rfl (pc' := 104) rfl ?_
              refine S_iload_n dX5_fits_104 rfl 5 rfl (pc' := 105) rfl ?_
              refine S_invi ml_X5_276 mi_X1_kindsBy (ci := 1) ⟨_, rfl, rfl⟩ (by decide) dX5_fits_105 [.ref (zb Z + x98), .ref (zb Z + x47), .int a2, .int a3] rfl (fun v h2 q => c_X1_kindsBy Z l _ _ _ _ _ _ q) ⟨Nat.le_of_ble_eq_true rfl, Nat.le_of_ble_eq_true rfl⟩ (rest := []) (Nat.le_of_ble_eq_true rfl) rfl (pc' := 108) rfl (fun x105 h105 => ?_)
              exact S_iret rfl dX5_fits_108
            · refine S_aload_n dX5_fits_75 rfl 2 rfl (pc' := 76) rfl ?_
              refine S_getR fl_X5_25 rfl dX5_fits_76 (pc' := 79) rfl (fun x76 => ?_)
              refine S_aload_n dX5_fits_79 rfl 2 rfl (pc' := 80) rfl ?_
              refine S_getR fl_X5_12 rfl dX5_fits_80 (pc' := 83) rfl (fun x80 => ?_)
              refine S_aload dX5_fits_83 1 rfl (pc' := 85) rfl ?_
              refine S_iload_n dX5_fits_85 rfl 4 rfl (pc' := 86) rfl ?_
              refine S_iload_n dX5_fits_86 rfl 5 rfl (pc' := 87) rfl ?_
              refine S_invi ml_X5_272 mi_X1_memoriesBy (ci := 1) ⟨_, rfl, rfl⟩ (by decide) dX5_fits_87 [.ref (zb Z + x80), .ref (zb Z + x47), .int a2, .int a3] rfl (fun v h2 q => c_X1_memoriesBy Z l _ _ _ _ _ _ q) ⟨Nat.le_of_ble_eq_true rfl, Nat.le_of_ble_eq_true rfl⟩ (rest := []) (Nat.le_of_ble_eq_true rfl) rfl (pc' := 90) rfl (fun x87 h87 => ?_)
              refine S_goto dX5_fits_90 108 rfl ?_
              exact S_iret rfl dX5_fits_108
          · refine S_aload_n dX5_fits_63 rfl 2 rfl (pc' := 64) rfl ?_
            refine S_iload dX5_fits_64 0 rfl (pc' := 66) rfl ?_
            refine S_invi ml_X5_58 mi_X5_refuse (ci := 5) ⟨_, rfl, rfl⟩ (by decide) dX5_fits_66 [.int x53] rfl (fun v h2 q => c_X5_refuse Z l _ _ _ q) ⟨Nat.le_of_ble_eq_true rfl, Nat.le_of_ble_eq_true rfl⟩ (rest := []) (Nat.le_of_ble_eq_true rfl) rfl (pc' := 69) rfl (fun x66 h66 => ?_)
            exact S_iret rfl dX5_fits_69
        · refine S_aload_n dX5_fits_35 rfl 0 rfl (pc' := 36) rfl ?_
          refine S_bipush dX5_fits_36 (v := (-2)) rfl (pc' := 38) rfl ?_
          refine S_invi ml_X5_58 mi_X5_refuse (ci := 5) ⟨_, rfl, rfl⟩ (by decide) dX5_fits_38 [.int (-2)] rfl (fun v h2 q => c_X5_refuse Z l _ _ _ q) ⟨Nat.le_of_ble_eq_true rfl, Nat.le_of_ble_eq_true rfl⟩ (rest := []) (Nat.le_of_ble_eq_true rfl) rfl (pc' := 41) rfl (fun x38 h38 => ?_)
          exact S_iret rfl dX5_fits_41
theorem dX5_griefs_0 : decode cX5_griefs 0 = .ok (.aload_n 0, 1) := by decide +kernel
theorem dX5_griefs_1 : decode cX5_griefs 1 = .ok (.iload_n 1, 1) := by decide +kernel
theorem dX5_griefs_2 : decode cX5_griefs 2 = .ok (.invokevirtual 98, 3) := by decide +kernel
theorem dX5_griefs_5 : decode cX5_griefs 5 = .ok (.ifCond .ne 20, 3) := by decide +kernel
theorem dX5_griefs_8 : decode cX5_griefs 8 = .ok (.aload_n 0, 1) := by decide +kernel
theorem dX5_griefs_9 : decode cX5_griefs 9 = .ok (.iload_n 2, 1) := by decide +kernel
theorem dX5_griefs_10 : decode cX5_griefs 10 = .ok (.invokevirtual 135, 3) := by decide +kernel
theorem dX5_griefs_13 : decode cX5_griefs 13 = .ok (.ifCond .ne 12, 3) := by decide +kernel
theorem dX5_griefs_16 : decode cX5_griefs 16 = .ok (.iload_n 3, 1) := by decide +kernel
theorem dX5_griefs_17 : decode cX5_griefs 17 = .ok (.bipush 61, 2) := by decide +kernel
theorem dX5_griefs_19 : decode cX5_griefs 19 = .ok (.invokestatic 54, 3) := by decide +kernel
theorem dX5_griefs_22 : decode cX5_griefs 22 = .ok (.ifCond .eq 10, 3) := by decide +kernel
theorem dX5_griefs_25 : decode cX5_griefs 25 = .ok (.aload_n 0, 1) := by decide +kernel
theorem dX5_griefs_26 : decode cX5_griefs 26 = .ok (.bipush (-2), 2) := by decide +kernel
theorem dX5_griefs_28 : decode cX5_griefs 28 = .ok (.invokevirtual 58, 3) := by decide +kernel
theorem dX5_griefs_31 : decode cX5_griefs 31 = .ok (.ireturn, 1) := by decide +kernel
theorem dX5_griefs_32 : decode cX5_griefs 32 = .ok (.aload_n 0, 1) := by decide +kernel
theorem dX5_griefs_33 : decode cX5_griefs 33 = .ok (.getfield 12, 3) := by decide +kernel
theorem dX5_griefs_36 : decode cX5_griefs 36 = .ok (.iload_n 1, 1) := by decide +kernel
theorem dX5_griefs_37 : decode cX5_griefs 37 = .ok (.iload_n 2, 1) := by decide +kernel
theorem dX5_griefs_38 : decode cX5_griefs 38 = .ok (.invokevirtual 153, 3) := by decide +kernel
theorem dX5_griefs_41 : decode cX5_griefs 41 = .ok (.iconst (-1), 1) := by decide +kernel
theorem dX5_griefs_42 : decode cX5_griefs 42 = .ok (.if_icmp .ne 10, 3) := by decide +kernel
theorem dX5_griefs_45 : decode cX5_griefs 45 = .ok (.aload_n 0, 1) := by decide +kernel
theorem dX5_griefs_46 : decode cX5_griefs 46 = .ok (.bipush (-5), 2) := by decide +kernel
theorem dX5_griefs_48 : decode cX5_griefs 48 = .ok (.invokevirtual 58, 3) := by decide +kernel
theorem dX5_griefs_51 : decode cX5_griefs 51 = .ok (.ireturn, 1) := by decide +kernel
theorem dX5_griefs_52 : decode cX5_griefs 52 = .ok (.aload_n 0, 1) := by decide +kernel
theorem dX5_griefs_53 : decode cX5_griefs 53 = .ok (.getfield 25, 3) := by decide +kernel
theorem dX5_griefs_56 : decode cX5_griefs 56 = .ok (.aload_n 0, 1) := by decide +kernel
theorem dX5_griefs_57 : decode cX5_griefs 57 = .ok (.getfield 12, 3) := by decide +kernel
theorem dX5_griefs_60 : decode cX5_griefs 60 = .ok (.iload_n 1, 1) := by decide +kernel
theorem dX5_griefs_61 : decode cX5_griefs 61 = .ok (.iload_n 2, 1) := by decide +kernel
theorem dX5_griefs_62 : decode cX5_griefs 62 = .ok (.iload_n 3, 1) := by decide +kernel
theorem dX5_griefs_63 : decode cX5_griefs 63 = .ok (.invokevirtual 279, 3) := by decide +kernel
theorem dX5_griefs_66 : decode cX5_griefs 66 = .ok (.ireturn, 1) := by decide +kernel
set_option maxRecDepth 100000 in
set_option maxHeartbeats 4000000 in
theorem c_X5_griefs (Z : ZZ) (l : Launch) (t : Nat) (a1 : Int32) (a2 : Int32) (a3 : Int32) (h : HP) {v : Int32} {h1 : HP} (ho : f_X5_griefs t a1 a2 a3 h = some (v, h1)) : MetP Z l yX5_griefs cX5_griefs 4 (some .int) 7 161 [.ref (zb Z + t), .int a1, .int a2, .int a3] h (some (.int v)) h1 := by
  refine MetP_of ho (by decide +kernel) (Nat.le_of_ble_eq_true rfl) [(0, .ref (zb Z + t)), (1, .int a1), (2, .int a2), (3, .int a3)] rfl (own := RX5) rfl (nm := "griefs") rfl ?_
  unfold f_X5_griefs
  refine S_aload_n dX5_griefs_0 rfl 0 rfl (pc' := 1) rfl ?_
  refine S_iload_n dX5_griefs_1 rfl 1 rfl (pc' := 2) rfl ?_
  refine S_invi ml_X5_98 mi_X5_noPerson (ci := 5) ⟨_, rfl, rfl⟩ (by decide) dX5_griefs_2 [.int a1] rfl (fun v h2 q => c_X5_noPerson Z l _ _ _ q) ⟨Nat.le_of_ble_eq_true rfl, Nat.le_of_ble_eq_true rfl⟩ (rest := []) (Nat.le_of_ble_eq_true rfl) rfl (pc' := 5) rfl (fun x2 h2 => ?_)
  refine S_if_ne dX5_griefs_5 25 rfl (pc' := 8) rfl (fun g5 => ?_) (fun g5 => ?_)
  · refine S_aload_n dX5_griefs_25 rfl 0 rfl (pc' := 26) rfl ?_
    refine S_bipush dX5_griefs_26 (v := (-2)) rfl (pc' := 28) rfl ?_
    refine S_invi ml_X5_58 mi_X5_refuse (ci := 5) ⟨_, rfl, rfl⟩ (by decide) dX5_griefs_28 [.int (-2)] rfl (fun v h2 q => c_X5_refuse Z l _ _ _ q) ⟨Nat.le_of_ble_eq_true rfl, Nat.le_of_ble_eq_true rfl⟩ (rest := []) (Nat.le_of_ble_eq_true rfl) rfl (pc' := 31) rfl (fun x28 h28 => ?_)
    exact S_iret rfl dX5_griefs_31
  · refine S_aload_n dX5_griefs_8 rfl 0 rfl (pc' := 9) rfl ?_
    refine S_iload_n dX5_griefs_9 rfl 2 rfl (pc' := 10) rfl ?_
    refine S_invi ml_X5_135 mi_X5_noSong (ci := 5) ⟨_, rfl, rfl⟩ (by decide) dX5_griefs_10 [.int a2] rfl (fun v h2 q => c_X5_noSong Z l _ _ _ q) ⟨Nat.le_of_ble_eq_true rfl, Nat.le_of_ble_eq_true rfl⟩ (rest := []) (Nat.le_of_ble_eq_true rfl) rfl (pc' := 13) rfl (fun x10 h10 => ?_)
    refine S_if_ne dX5_griefs_13 25 rfl (pc' := 16) rfl (fun g13 => ?_) (fun g13 => ?_)
    · refine S_aload_n dX5_griefs_25 rfl 0 rfl (pc' := 26) rfl ?_
      refine S_bipush dX5_griefs_26 (v := (-2)) rfl (pc' := 28) rfl ?_
      refine S_invi ml_X5_58 mi_X5_refuse (ci := 5) ⟨_, rfl, rfl⟩ (by decide) dX5_griefs_28 [.int (-2)] rfl (fun v h2 q => c_X5_refuse Z l _ _ _ q) ⟨Nat.le_of_ble_eq_true rfl, Nat.le_of_ble_eq_true rfl⟩ (rest := []) (Nat.le_of_ble_eq_true rfl) rfl (pc' := 31) rfl (fun x28 h28 => ?_)
      exact S_iret rfl dX5_griefs_31
    · refine S_iload_n dX5_griefs_16 rfl 3 rfl (pc' := 17) rfl ?_
      refine S_bipush dX5_griefs_17 (v := 61) rfl (pc' := 19) rfl ?_
      refine S_stai ml_X5_54 ms_X5_outside dX5_griefs_19 [.int a3, .int 61] rfl (fun v h2 q => c_X5_outside Z l _ _ _ q) ⟨Nat.le_of_ble_eq_true rfl, Nat.le_of_ble_eq_true rfl⟩ (rest := []) (Nat.le_of_ble_eq_true rfl) rfl (pc' := 22) rfl (fun x19 h19 => ?_)
      refine S_if_eq dX5_griefs_22 32 rfl (pc' := 25) rfl (fun g22 => ?_) (fun g22 => ?_)
      · refine S_aload_n dX5_griefs_32 rfl 0 rfl (pc' := 33) rfl ?_
        refine S_getR fl_X5_12 rfl dX5_griefs_33 (pc' := 36) rfl (fun x33 => ?_)
        refine S_iload_n dX5_griefs_36 rfl 1 rfl (pc' := 37) rfl ?_
        refine S_iload_n dX5_griefs_37 rfl 2 rfl (pc' := 38) rfl ?_
        refine S_invi ml_X5_153 mi_X0_heldFor (ci := 0) ⟨_, rfl, rfl⟩ (by decide) dX5_griefs_38 [.int a1, .int a2] rfl (fun v h2 q => c_X0_heldFor Z l _ _ _ _ q) ⟨Nat.le_of_ble_eq_true rfl, Nat.le_of_ble_eq_true rfl⟩ (rest := []) (Nat.le_of_ble_eq_true rfl) rfl (pc' := 41) rfl (fun x38 h38 => ?_)
        refine S_iconst dX5_griefs_41 (v := (-1)) rfl (pc' := 42) rfl ?_
        refine S_icmp_ne dX5_griefs_42 52 rfl (pc' := 45) rfl (fun g42 => ?_) (fun g42 => ?_)
        · refine S_aload_n dX5_griefs_52 rfl 0 rfl (pc' := 53) rfl ?_
          refine S_getR fl_X5_25 rfl dX5_griefs_53 (pc' := 56) rfl (fun x53 => ?_)
          refine S_aload_n dX5_griefs_56 rfl 0 rfl (pc' := 57) rfl ?_
          refine S_getR fl_X5_12 rfl dX5_griefs_57 (pc' := 60) rfl (fun x57 => ?_)
          refine S_iload_n dX5_griefs_60 rfl 1 rfl (pc' := 61) rfl ?_
          refine S_iload_n dX5_griefs_61 rfl 2 rfl (pc' := 62) rfl ?_
          refine S_iload_n dX5_griefs_62 rfl 3 rfl (pc' := 63) rfl ?_
          refine S_invi ml_X5_279 mi_X1_leastGrief (ci := 1) ⟨_, rfl, rfl⟩ (by decide) dX5_griefs_63 [.ref (zb Z + x57), .int a1, .int a2, .int a3] rfl (fun v h2 q => c_X1_leastGrief Z l _ _ _ _ _ _ q) ⟨Nat.le_of_ble_eq_true rfl, Nat.le_of_ble_eq_true rfl⟩ (rest := []) (Nat.le_of_ble_eq_true rfl) rfl (pc' := 66) rfl (fun x63 h63 => ?_)
          exact S_iret rfl dX5_griefs_66
        · refine S_aload_n dX5_griefs_45 rfl 0 rfl (pc' := 46) rfl ?_
          refine S_bipush dX5_griefs_46 (v := (-5)) rfl (pc' := 48) rfl ?_
          refine S_invi ml_X5_58 mi_X5_refuse (ci := 5) ⟨_, rfl, rfl⟩ (by decide) dX5_griefs_48 [.int (-5)] rfl (fun v h2 q => c_X5_refuse Z l _ _ _ q) ⟨Nat.le_of_ble_eq_true rfl, Nat.le_of_ble_eq_true rfl⟩ (rest := []) (Nat.le_of_ble_eq_true rfl) rfl (pc' := 51) rfl (fun x48 h48 => ?_)
          exact S_iret rfl dX5_griefs_51
      · refine S_aload_n dX5_griefs_25 rfl 0 rfl (pc' := 26) rfl ?_
        refine S_bipush dX5_griefs_26 (v := (-2)) rfl (pc' := 28) rfl ?_
        refine S_invi ml_X5_58 mi_X5_refuse (ci := 5) ⟨_, rfl, rfl⟩ (by decide) dX5_griefs_28 [.int (-2)] rfl (fun v h2 q => c_X5_refuse Z l _ _ _ q) ⟨Nat.le_of_ble_eq_true rfl, Nat.le_of_ble_eq_true rfl⟩ (rest := []) (Nat.le_of_ble_eq_true rfl) rfl (pc' := 31) rfl (fun x28 h28 => ?_)
        exact S_iret rfl dX5_griefs_31
theorem dX5_forgets_0 : decode cX5_forgets 0 = .ok (.aload_n 0, 1) := by decide +kernel
theorem dX5_forgets_1 : decode cX5_forgets 1 = .ok (.iload_n 1, 1) := by decide +kernel
theorem dX5_forgets_2 : decode cX5_forgets 2 = .ok (.invokevirtual 98, 3) := by decide +kernel
theorem dX5_forgets_5 : decode cX5_forgets 5 = .ok (.ifCond .ne 11, 3) := by decide +kernel
theorem dX5_forgets_8 : decode cX5_forgets 8 = .ok (.aload_n 0, 1) := by decide +kernel
theorem dX5_forgets_9 : decode cX5_forgets 9 = .ok (.iload_n 2, 1) := by decide +kernel
theorem dX5_forgets_10 : decode cX5_forgets 10 = .ok (.invokevirtual 135, 3) := by decide +kernel
theorem dX5_forgets_13 : decode cX5_forgets 13 = .ok (.ifCond .eq 10, 3) := by decide +kernel
theorem dX5_forgets_16 : decode cX5_forgets 16 = .ok (.aload_n 0, 1) := by decide +kernel
theorem dX5_forgets_17 : decode cX5_forgets 17 = .ok (.bipush (-2), 2) := by decide +kernel
theorem dX5_forgets_19 : decode cX5_forgets 19 = .ok (.invokevirtual 58, 3) := by decide +kernel
theorem dX5_forgets_22 : decode cX5_forgets 22 = .ok (.ireturn, 1) := by decide +kernel
theorem dX5_forgets_23 : decode cX5_forgets 23 = .ok (.aload_n 0, 1) := by decide +kernel
theorem dX5_forgets_24 : decode cX5_forgets 24 = .ok (.getfield 25, 3) := by decide +kernel
theorem dX5_forgets_27 : decode cX5_forgets 27 = .ok (.aload_n 0, 1) := by decide +kernel
theorem dX5_forgets_28 : decode cX5_forgets 28 = .ok (.getfield 12, 3) := by decide +kernel
theorem dX5_forgets_31 : decode cX5_forgets 31 = .ok (.iload_n 1, 1) := by decide +kernel
theorem dX5_forgets_32 : decode cX5_forgets 32 = .ok (.iload_n 2, 1) := by decide +kernel
theorem dX5_forgets_33 : decode cX5_forgets 33 = .ok (.invokevirtual 283, 3) := by decide +kernel
theorem dX5_forgets_36 : decode cX5_forgets 36 = .ok (.invokestatic 241, 3) := by decide +kernel
theorem dX5_forgets_39 : decode cX5_forgets 39 = .ok (.ireturn, 1) := by decide +kernel
set_option maxRecDepth 100000 in
set_option maxHeartbeats 4000000 in
theorem c_X5_forgets (Z : ZZ) (l : Launch) (t : Nat) (a1 : Int32) (a2 : Int32) (h : HP) {v : Int32} {h1 : HP} (ho : f_X5_forgets t a1 a2 h = some (v, h1)) : MetP Z l yX5_forgets cX5_forgets 3 (some .int) 6 136 [.ref (zb Z + t), .int a1, .int a2] h (some (.int v)) h1 := by
  refine MetP_of ho (by decide +kernel) (Nat.le_of_ble_eq_true rfl) [(0, .ref (zb Z + t)), (1, .int a1), (2, .int a2)] rfl (own := RX5) rfl (nm := "forgets") rfl ?_
  unfold f_X5_forgets
  refine S_aload_n dX5_forgets_0 rfl 0 rfl (pc' := 1) rfl ?_
  refine S_iload_n dX5_forgets_1 rfl 1 rfl (pc' := 2) rfl ?_
  refine S_invi ml_X5_98 mi_X5_noPerson (ci := 5) ⟨_, rfl, rfl⟩ (by decide) dX5_forgets_2 [.int a1] rfl (fun v h2 q => c_X5_noPerson Z l _ _ _ q) ⟨Nat.le_of_ble_eq_true rfl, Nat.le_of_ble_eq_true rfl⟩ (rest := []) (Nat.le_of_ble_eq_true rfl) rfl (pc' := 5) rfl (fun x2 h2 => ?_)
  refine S_if_ne dX5_forgets_5 16 rfl (pc' := 8) rfl (fun g5 => ?_) (fun g5 => ?_)
  · refine S_aload_n dX5_forgets_16 rfl 0 rfl (pc' := 17) rfl ?_
    refine S_bipush dX5_forgets_17 (v := (-2)) rfl (pc' := 19) rfl ?_
    refine S_invi ml_X5_58 mi_X5_refuse (ci := 5) ⟨_, rfl, rfl⟩ (by decide) dX5_forgets_19 [.int (-2)] rfl (fun v h2 q => c_X5_refuse Z l _ _ _ q) ⟨Nat.le_of_ble_eq_true rfl, Nat.le_of_ble_eq_true rfl⟩ (rest := []) (Nat.le_of_ble_eq_true rfl) rfl (pc' := 22) rfl (fun x19 h19 => ?_)
    exact S_iret rfl dX5_forgets_22
  · refine S_aload_n dX5_forgets_8 rfl 0 rfl (pc' := 9) rfl ?_
    refine S_iload_n dX5_forgets_9 rfl 2 rfl (pc' := 10) rfl ?_
    refine S_invi ml_X5_135 mi_X5_noSong (ci := 5) ⟨_, rfl, rfl⟩ (by decide) dX5_forgets_10 [.int a2] rfl (fun v h2 q => c_X5_noSong Z l _ _ _ q) ⟨Nat.le_of_ble_eq_true rfl, Nat.le_of_ble_eq_true rfl⟩ (rest := []) (Nat.le_of_ble_eq_true rfl) rfl (pc' := 13) rfl (fun x10 h10 => ?_)
    refine S_if_eq dX5_forgets_13 23 rfl (pc' := 16) rfl (fun g13 => ?_) (fun g13 => ?_)
    · refine S_aload_n dX5_forgets_23 rfl 0 rfl (pc' := 24) rfl ?_
      refine S_getR fl_X5_25 rfl dX5_forgets_24 (pc' := 27) rfl (fun x24 => ?_)
      refine S_aload_n dX5_forgets_27 rfl 0 rfl (pc' := 28) rfl ?_
      refine S_getR fl_X5_12 rfl dX5_forgets_28 (pc' := 31) rfl (fun x28 => ?_)
      refine S_iload_n dX5_forgets_31 rfl 1 rfl (pc' := 32) rfl ?_
      refine S_iload_n dX5_forgets_32 rfl 2 rfl (pc' := 33) rfl ?_
      refine S_invi ml_X5_283 mi_X1_forgetIn (ci := 1) ⟨_, rfl, rfl⟩ (by decide) dX5_forgets_33 [.ref (zb Z + x28), .int a1, .int a2] rfl (fun v h2 q => c_X1_forgetIn Z l _ _ _ _ _ q) ⟨Nat.le_of_ble_eq_true rfl, Nat.le_of_ble_eq_true rfl⟩ (rest := []) (Nat.le_of_ble_eq_true rfl) rfl (pc' := 36) rfl (fun x33 h33 => ?_)
      refine S_stai ml_X5_241 ms_X5_noneIfNever dX5_forgets_36 [.int x33] rfl (fun v h2 q => c_X5_noneIfNever Z l _ _ q) ⟨Nat.le_of_ble_eq_true rfl, Nat.le_of_ble_eq_true rfl⟩ (rest := []) (Nat.le_of_ble_eq_true rfl) rfl (pc' := 39) rfl (fun x36 h36 => ?_)
      exact S_iret rfl dX5_forgets_39
    · refine S_aload_n dX5_forgets_16 rfl 0 rfl (pc' := 17) rfl ?_
      refine S_bipush dX5_forgets_17 (v := (-2)) rfl (pc' := 19) rfl ?_
      refine S_invi ml_X5_58 mi_X5_refuse (ci := 5) ⟨_, rfl, rfl⟩ (by decide) dX5_forgets_19 [.int (-2)] rfl (fun v h2 q => c_X5_refuse Z l _ _ _ q) ⟨Nat.le_of_ble_eq_true rfl, Nat.le_of_ble_eq_true rfl⟩ (rest := []) (Nat.le_of_ble_eq_true rfl) rfl (pc' := 22) rfl (fun x19 h19 => ?_)
      exact S_iret rfl dX5_forgets_22
theorem dX5_judge_0 : decode cX5_judge 0 = .ok (.iload_n 1, 1) := by decide +kernel
theorem dX5_judge_1 : decode cX5_judge 1 = .ok (.bipush 8, 2) := by decide +kernel
theorem dX5_judge_3 : decode cX5_judge 3 = .ok (.invokestatic 54, 3) := by decide +kernel
theorem dX5_judge_6 : decode cX5_judge 6 = .ok (.ifCond .ne 12, 3) := by decide +kernel
theorem dX5_judge_9 : decode cX5_judge 9 = .ok (.iload_n 2, 1) := by decide +kernel
theorem dX5_judge_10 : decode cX5_judge 10 = .ok (.bipush 41, 2) := by decide +kernel
theorem dX5_judge_12 : decode cX5_judge 12 = .ok (.invokestatic 54, 3) := by decide +kernel
theorem dX5_judge_15 : decode cX5_judge 15 = .ok (.ifCond .eq 10, 3) := by decide +kernel
theorem dX5_judge_18 : decode cX5_judge 18 = .ok (.aload_n 0, 1) := by decide +kernel
theorem dX5_judge_19 : decode cX5_judge 19 = .ok (.bipush (-2), 2) := by decide +kernel
theorem dX5_judge_21 : decode cX5_judge 21 = .ok (.invokevirtual 58, 3) := by decide +kernel
theorem dX5_judge_24 : decode cX5_judge 24 = .ok (.ireturn, 1) := by decide +kernel
theorem dX5_judge_25 : decode cX5_judge 25 = .ok (.aload_n 0, 1) := by decide +kernel
theorem dX5_judge_26 : decode cX5_judge 26 = .ok (.getfield 45, 3) := by decide +kernel
theorem dX5_judge_29 : decode cX5_judge 29 = .ok (.iload_n 1, 1) := by decide +kernel
theorem dX5_judge_30 : decode cX5_judge 30 = .ok (.aaload, 1) := by decide +kernel
theorem dX5_judge_31 : decode cX5_judge 31 = .ok (.astore_n 3, 1) := by decide +kernel
theorem dX5_judge_32 : decode cX5_judge 32 = .ok (.aload_n 3, 1) := by decide +kernel
theorem dX5_judge_33 : decode cX5_judge 33 = .ok (.iload_n 2, 1) := by decide +kernel
theorem dX5_judge_34 : decode cX5_judge 34 = .ok (.invokevirtual 269, 3) := by decide +kernel
theorem dX5_judge_37 : decode cX5_judge 37 = .ok (.istore 4, 2) := by decide +kernel
theorem dX5_judge_39 : decode cX5_judge 39 = .ok (.iload 4, 2) := by decide +kernel
theorem dX5_judge_41 : decode cX5_judge 41 = .ok (.ifCond .eq 12, 3) := by decide +kernel
theorem dX5_judge_44 : decode cX5_judge 44 = .ok (.aload_n 0, 1) := by decide +kernel
theorem dX5_judge_45 : decode cX5_judge 45 = .ok (.iload 4, 2) := by decide +kernel
theorem dX5_judge_47 : decode cX5_judge 47 = .ok (.invokevirtual 58, 3) := by decide +kernel
theorem dX5_judge_50 : decode cX5_judge 50 = .ok (.goto 16, 3) := by decide +kernel
theorem dX5_judge_53 : decode cX5_judge 53 = .ok (.aload_n 0, 1) := by decide +kernel
theorem dX5_judge_54 : decode cX5_judge 54 = .ok (.getfield 25, 3) := by decide +kernel
theorem dX5_judge_57 : decode cX5_judge 57 = .ok (.aload_n 0, 1) := by decide +kernel
theorem dX5_judge_58 : decode cX5_judge 58 = .ok (.getfield 12, 3) := by decide +kernel
theorem dX5_judge_61 : decode cX5_judge 61 = .ok (.aload_n 3, 1) := by decide +kernel
theorem dX5_judge_62 : decode cX5_judge 62 = .ok (.iload_n 2, 1) := by decide +kernel
theorem dX5_judge_63 : decode cX5_judge 63 = .ok (.invokevirtual 286, 3) := by decide +kernel
theorem dX5_judge_66 : decode cX5_judge 66 = .ok (.ireturn, 1) := by decide +kernel
set_option maxRecDepth 100000 in
set_option maxHeartbeats 4000000 in
theorem c_X5_judge (Z : ZZ) (l : Launch) (t : Nat) (a1 : Int32) (a2 : Int32) (h : HP) {v : Int32} {h1 : HP} (ho : f_X5_judge t a1 a2 h = some (v, h1)) : MetP Z l yX5_judge cX5_judge 5 (some .int) 6 137 [.ref (zb Z + t), .int a1, .int a2] h (some (.int v)) h1 := by
  refine MetP_of ho (by decide +kernel) (Nat.le_of_ble_eq_true rfl) [(0, .ref (zb Z + t)), (1, .int a1), (2, .int a2)] rfl (own := RX5) rfl (nm := "judge") rfl ?_
  unfold f_X5_judge
  refine S_iload_n dX5_judge_0 rfl 1 rfl (pc' := 1) rfl ?_
  refine S_bipush dX5_judge_1 (v := 8) rfl (pc' := 3) rfl ?_
  refine S_stai ml_X5_54 ms_X5_outside dX5_judge_3 [.int a1, .int 8] rfl (fun v h2 q => c_X5_outside Z l _ _ _ q) ⟨Nat.le_of_ble_eq_true rfl, Nat.le_of_ble_eq_true rfl⟩ (rest := []) (Nat.le_of_ble_eq_true rfl) rfl (pc' := 6) rfl (fun x3 h3 => ?_)
  refine S_if_ne dX5_judge_6 18 rfl (pc' := 9) rfl (fun g6 => ?_) (fun g6 => ?_)
  · refine S_aload_n dX5_judge_18 rfl 0 rfl (pc' := 19) rfl ?_
    refine S_bipush dX5_judge_19 (v := (-2)) rfl (pc' := 21) rfl ?_
    refine S_invi ml_X5_58 mi_X5_refuse (ci := 5) ⟨_, rfl, rfl⟩ (by decide) dX5_judge_21 [.int (-2)] rfl (fun v h2 q => c_X5_refuse Z l _ _ _ q) ⟨Nat.le_of_ble_eq_true rfl, Nat.le_of_ble_eq_true rfl⟩ (rest := []) (Nat.le_of_ble_eq_true rfl) rfl (pc' := 24) rfl (fun x21 h21 => ?_)
    exact S_iret rfl dX5_judge_24
  · refine S_iload_n dX5_judge_9 rfl 2 rfl (pc' := 10) rfl ?_
    refine S_bipush dX5_judge_10 (v := 41) rfl (pc' := 12) rfl ?_
    refine S_stai ml_X5_54 ms_X5_outside dX5_judge_12 [.int a2, .int 41] rfl (fun v h2 q => c_X5_outside Z l _ _ _ q) ⟨Nat.le_of_ble_eq_true rfl, Nat.le_of_ble_eq_true rfl⟩ (rest := []) (Nat.le_of_ble_eq_true rfl) rfl (pc' := 15) rfl (fun x12 h12 => ?_)
    refine S_if_eq dX5_judge_15 25 rfl (pc' := 18) rfl (fun g15 => ?_) (fun g15 => ?_)
    · refine S_aload_n dX5_judge_25 rfl 0 rfl (pc' := 26) rfl ?_
      refine S_getR fl_X5_45 rfl dX5_judge_26 (pc' := 29) rfl (fun x26 => ?_)
      refine S_iload_n dX5_judge_29 rfl 1 rfl (pc' := 30) rfl ?_
      refine S_aaloadS dX5_judge_30 (pc' := 31) rfl (fun x30 => ?_)
      refine S_astore_n dX5_judge_31 rfl (by decide) (lo' := [(3, .ref (zb Z + x30)), (0, .ref (zb Z + t)), (1, .int a1), (2, .int a2)]) rfl (pc' := 32) rfl ?_
      refine S_aload_n dX5_judge_32 rfl 0 rfl (pc' := 33) rfl ?_
      refine S_iload_n dX5_judge_33 rfl 3 rfl (pc' := 34) rfl ?_
      refine S_invi ml_X5_269 mi_X3_refusalAsTold (ci := 3) ⟨_, rfl, rfl⟩ (by decide) dX5_judge_34 [.int a2] rfl (fun v h2 q => c_X3_refusalAsTold Z l _ _ _ q) ⟨Nat.le_of_ble_eq_true rfl, Nat.le_of_ble_eq_true rfl⟩ (rest := []) (Nat.le_of_ble_eq_true rfl) rfl (pc' := 37) rfl (fun x34 h34 => ?_)
      refine S_istore dX5_judge_37 (by decide) (lo' := [(4, .int x34), (3, .ref (zb Z + x30)), (0, .ref (zb Z + t)), (1, .int a1), (2, .int a2)]) rfl (pc' := 39) rfl ?_
      refine S_iload dX5_judge_39 0 rfl (pc' := 41) rfl ?_
      refine S_if_eq dX5_judge_41 53 rfl (pc' := 44) rfl (fun g41 => ?_) (fun g41 => ?_)
      · refine S_aload_n dX5_judge_53 rfl 2 rfl (pc' := 54) rfl ?_
        refine S_getR fl_X5_25 rfl dX5_judge_54 (pc' := 57) rfl (fun x54 => ?_)
        refine S_aload_n dX5_judge_57 rfl 2 rfl (pc' := 58) rfl ?_
        refine S_getR fl_X5_12 rfl dX5_judge_58 (pc' := 61) rfl (fun x58 => ?_)
        refine S_aload_n dX5_judge_61 rfl 1 rfl (pc' := 62) rfl ?_
        refine S_iload_n dX5_judge_62 rfl 4 rfl (pc' := 63) rfl ?_
        refine S_invi ml_X5_286 mi_X1_firstWrong (ci := 1) ⟨_, rfl, rfl⟩ (by decide) dX5_judge_63 [.ref (zb Z + x58), .ref (zb Z + x30), .int a2] rfl (fun v h2 q => c_X1_firstWrong Z l _ _ _ _ _ q) ⟨Nat.le_of_ble_eq_true rfl, Nat.le_of_ble_eq_true rfl⟩ (rest := []) (Nat.le_of_ble_eq_true rfl) rfl (pc' := 66) rfl (fun x63 h63 => ?_)
        exact S_iret rfl dX5_judge_66
      · refine S_aload_n dX5_judge_44 rfl 2 rfl (pc' := 45) rfl ?_
        refine S_iload dX5_judge_45 0 rfl (pc' := 47) rfl ?_
        refine S_invi ml_X5_58 mi_X5_refuse (ci := 5) ⟨_, rfl, rfl⟩ (by decide) dX5_judge_47 [.int x34] rfl (fun v h2 q => c_X5_refuse Z l _ _ _ q) ⟨Nat.le_of_ble_eq_true rfl, Nat.le_of_ble_eq_true rfl⟩ (rest := []) (Nat.le_of_ble_eq_true rfl) rfl (pc' := 50) rfl (fun x47 h47 => ?_)
        refine S_goto dX5_judge_50 66 rfl ?_
        exact S_iret rfl dX5_judge_66
    · refine S_aload_n dX5_judge_18 rfl 0 rfl (pc' := 19) rfl ?_
      refine S_bipush dX5_judge_19 (v := (-2)) rfl (pc' := 21) rfl ?_
      refine S_invi ml_X5_58 mi_X5_refuse (ci := 5) ⟨_, rfl, rfl⟩ (by decide) dX5_judge_21 [.int (-2)] rfl (fun v h2 q => c_X5_refuse Z l _ _ _ q) ⟨Nat.le_of_ble_eq_true rfl, Nat.le_of_ble_eq_true rfl⟩ (rest := []) (Nat.le_of_ble_eq_true rfl) rfl (pc' := 24) rfl (fun x21 h21 => ?_)
      exact S_iret rfl dX5_judge_24
theorem dX5_changes_0 : decode cX5_changes 0 = .ok (.aload_n 0, 1) := by decide +kernel
theorem dX5_changes_1 : decode cX5_changes 1 = .ok (.iload_n 1, 1) := by decide +kernel
theorem dX5_changes_2 : decode cX5_changes 2 = .ok (.invokevirtual 135, 3) := by decide +kernel
theorem dX5_changes_5 : decode cX5_changes 5 = .ok (.ifCond .ne 11, 3) := by decide +kernel
theorem dX5_changes_8 : decode cX5_changes 8 = .ok (.aload_n 0, 1) := by decide +kernel
theorem dX5_changes_9 : decode cX5_changes 9 = .ok (.iload_n 2, 1) := by decide +kernel
theorem dX5_changes_10 : decode cX5_changes 10 = .ok (.invokevirtual 135, 3) := by decide +kernel
theorem dX5_changes_13 : decode cX5_changes 13 = .ok (.ifCond .eq 10, 3) := by decide +kernel
theorem dX5_changes_16 : decode cX5_changes 16 = .ok (.aload_n 0, 1) := by decide +kernel
theorem dX5_changes_17 : decode cX5_changes 17 = .ok (.bipush (-2), 2) := by decide +kernel
theorem dX5_changes_19 : decode cX5_changes 19 = .ok (.invokevirtual 58, 3) := by decide +kernel
theorem dX5_changes_22 : decode cX5_changes 22 = .ok (.ireturn, 1) := by decide +kernel
theorem dX5_changes_23 : decode cX5_changes 23 = .ok (.aload_n 0, 1) := by decide +kernel
theorem dX5_changes_24 : decode cX5_changes 24 = .ok (.getfield 32, 3) := by decide +kernel
theorem dX5_changes_27 : decode cX5_changes 27 = .ok (.aload_n 0, 1) := by decide +kernel
theorem dX5_changes_28 : decode cX5_changes 28 = .ok (.getfield 12, 3) := by decide +kernel
theorem dX5_changes_31 : decode cX5_changes 31 = .ok (.iload_n 1, 1) := by decide +kernel
theorem dX5_changes_32 : decode cX5_changes 32 = .ok (.invokevirtual 290, 3) := by decide +kernel
theorem dX5_changes_35 : decode cX5_changes 35 = .ok (.aload_n 0, 1) := by decide +kernel
theorem dX5_changes_36 : decode cX5_changes 36 = .ok (.getfield 32, 3) := by decide +kernel
theorem dX5_changes_39 : decode cX5_changes 39 = .ok (.aload_n 0, 1) := by decide +kernel
theorem dX5_changes_40 : decode cX5_changes 40 = .ok (.getfield 12, 3) := by decide +kernel
theorem dX5_changes_43 : decode cX5_changes 43 = .ok (.iload_n 2, 1) := by decide +kernel
theorem dX5_changes_44 : decode cX5_changes 44 = .ok (.invokevirtual 294, 3) := by decide +kernel
theorem dX5_changes_47 : decode cX5_changes 47 = .ok (.ireturn, 1) := by decide +kernel
set_option maxRecDepth 100000 in
set_option maxHeartbeats 4000000 in
theorem c_X5_changes (Z : ZZ) (l : Launch) (t : Nat) (a1 : Int32) (a2 : Int32) (h : HP) {v : Int32} {h1 : HP} (ho : f_X5_changes t a1 a2 h = some (v, h1)) : MetP Z l yX5_changes cX5_changes 3 (some .int) 2 48 [.ref (zb Z + t), .int a1, .int a2] h (some (.int v)) h1 := by
  refine MetP_of ho (by decide +kernel) (Nat.le_of_ble_eq_true rfl) [(0, .ref (zb Z + t)), (1, .int a1), (2, .int a2)] rfl (own := RX5) rfl (nm := "changes") rfl ?_
  unfold f_X5_changes
  refine S_aload_n dX5_changes_0 rfl 0 rfl (pc' := 1) rfl ?_
  refine S_iload_n dX5_changes_1 rfl 1 rfl (pc' := 2) rfl ?_
  refine S_invi ml_X5_135 mi_X5_noSong (ci := 5) ⟨_, rfl, rfl⟩ (by decide) dX5_changes_2 [.int a1] rfl (fun v h2 q => c_X5_noSong Z l _ _ _ q) ⟨Nat.le_of_ble_eq_true rfl, Nat.le_of_ble_eq_true rfl⟩ (rest := []) (Nat.le_of_ble_eq_true rfl) rfl (pc' := 5) rfl (fun x2 h2 => ?_)
  refine S_if_ne dX5_changes_5 16 rfl (pc' := 8) rfl (fun g5 => ?_) (fun g5 => ?_)
  · refine S_aload_n dX5_changes_16 rfl 0 rfl (pc' := 17) rfl ?_
    refine S_bipush dX5_changes_17 (v := (-2)) rfl (pc' := 19) rfl ?_
    refine S_invi ml_X5_58 mi_X5_refuse (ci := 5) ⟨_, rfl, rfl⟩ (by decide) dX5_changes_19 [.int (-2)] rfl (fun v h2 q => c_X5_refuse Z l _ _ _ q) ⟨Nat.le_of_ble_eq_true rfl, Nat.le_of_ble_eq_true rfl⟩ (rest := []) (Nat.le_of_ble_eq_true rfl) rfl (pc' := 22) rfl (fun x19 h19 => ?_)
    exact S_iret rfl dX5_changes_22
  · refine S_aload_n dX5_changes_8 rfl 0 rfl (pc' := 9) rfl ?_
    refine S_iload_n dX5_changes_9 rfl 2 rfl (pc' := 10) rfl ?_
    refine S_invi ml_X5_135 mi_X5_noSong (ci := 5) ⟨_, rfl, rfl⟩ (by decide) dX5_changes_10 [.int a2] rfl (fun v h2 q => c_X5_noSong Z l _ _ _ q) ⟨Nat.le_of_ble_eq_true rfl, Nat.le_of_ble_eq_true rfl⟩ (rest := []) (Nat.le_of_ble_eq_true rfl) rfl (pc' := 13) rfl (fun x10 h10 => ?_)
    refine S_if_eq dX5_changes_13 23 rfl (pc' := 16) rfl (fun g13 => ?_) (fun g13 => ?_)
    · refine S_aload_n dX5_changes_23 rfl 0 rfl (pc' := 24) rfl ?_
      refine S_getR fl_X5_32 rfl dX5_changes_24 (pc' := 27) rfl (fun x24 => ?_)
      refine S_aload_n dX5_changes_27 rfl 0 rfl (pc' := 28) rfl ?_
      refine S_getR fl_X5_12 rfl dX5_changes_28 (pc' := 31) rfl (fun x28 => ?_)
      refine S_iload_n dX5_changes_31 rfl 1 rfl (pc' := 32) rfl ?_
      refine S_invv ml_X5_290 mi_X4_listenToSong (ci := 4) ⟨_, rfl, rfl⟩ (by decide) dX5_changes_32 [.ref (zb Z + x28), .int a1] rfl (fun v h2 q => c_X4_listenToSong Z l _ _ _ _ q) ⟨Nat.le_of_ble_eq_true rfl, Nat.le_of_ble_eq_true rfl⟩ (rest := []) (Nat.le_of_ble_eq_true rfl) rfl (pc' := 35) rfl (fun _ h32 => ?_)
      refine S_aload_n dX5_changes_35 rfl 0 rfl (pc' := 36) rfl ?_
      refine S_getR fl_X5_32 rfl dX5_changes_36 (pc' := 39) rfl (fun x36 => ?_)
      refine S_aload_n dX5_changes_39 rfl 0 rfl (pc' := 40) rfl ?_
      refine S_getR fl_X5_12 rfl dX5_changes_40 (pc' := 43) rfl (fun x40 => ?_)
      refine S_iload_n dX5_changes_43 rfl 2 rfl (pc' := 44) rfl ?_
      refine S_invi ml_X5_294 mi_X4_changesTo (ci := 4) ⟨_, rfl, rfl⟩ (by decide) dX5_changes_44 [.ref (zb Z + x40), .int a2] rfl (fun v h2 q => c_X4_changesTo Z l _ _ _ _ q) ⟨Nat.le_of_ble_eq_true rfl, Nat.le_of_ble_eq_true rfl⟩ (rest := []) (Nat.le_of_ble_eq_true rfl) rfl (pc' := 47) rfl (fun x44 h44 => ?_)
      exact S_iret rfl dX5_changes_47
    · refine S_aload_n dX5_changes_16 rfl 0 rfl (pc' := 17) rfl ?_
      refine S_bipush dX5_changes_17 (v := (-2)) rfl (pc' := 19) rfl ?_
      refine S_invi ml_X5_58 mi_X5_refuse (ci := 5) ⟨_, rfl, rfl⟩ (by decide) dX5_changes_19 [.int (-2)] rfl (fun v h2 q => c_X5_refuse Z l _ _ _ q) ⟨Nat.le_of_ble_eq_true rfl, Nat.le_of_ble_eq_true rfl⟩ (rest := []) (Nat.le_of_ble_eq_true rfl) rfl (pc' := 22) rfl (fun x19 h19 => ?_)
      exact S_iret rfl dX5_changes_22
theorem dX5_join_0 : decode cX5_join 0 = .ok (.aload_n 0, 1) := by decide +kernel
theorem dX5_join_1 : decode cX5_join 1 = .ok (.iload_n 1, 1) := by decide +kernel
theorem dX5_join_2 : decode cX5_join 2 = .ok (.invokevirtual 135, 3) := by decide +kernel
theorem dX5_join_5 : decode cX5_join 5 = .ok (.ifCond .ne 11, 3) := by decide +kernel
theorem dX5_join_8 : decode cX5_join 8 = .ok (.aload_n 0, 1) := by decide +kernel
theorem dX5_join_9 : decode cX5_join 9 = .ok (.iload_n 2, 1) := by decide +kernel
theorem dX5_join_10 : decode cX5_join 10 = .ok (.invokevirtual 135, 3) := by decide +kernel
theorem dX5_join_13 : decode cX5_join 13 = .ok (.ifCond .eq 12, 3) := by decide +kernel
theorem dX5_join_16 : decode cX5_join 16 = .ok (.aload_n 0, 1) := by decide +kernel
theorem dX5_join_17 : decode cX5_join 17 = .ok (.bipush (-2), 2) := by decide +kernel
theorem dX5_join_19 : decode cX5_join 19 = .ok (.invokevirtual 58, 3) := by decide +kernel
theorem dX5_join_22 : decode cX5_join 22 = .ok (.goto 16, 3) := by decide +kernel
theorem dX5_join_25 : decode cX5_join 25 = .ok (.aload_n 0, 1) := by decide +kernel
theorem dX5_join_26 : decode cX5_join 26 = .ok (.getfield 32, 3) := by decide +kernel
theorem dX5_join_29 : decode cX5_join 29 = .ok (.aload_n 0, 1) := by decide +kernel
theorem dX5_join_30 : decode cX5_join 30 = .ok (.getfield 12, 3) := by decide +kernel
theorem dX5_join_33 : decode cX5_join 33 = .ok (.iload_n 1, 1) := by decide +kernel
theorem dX5_join_34 : decode cX5_join 34 = .ok (.iload_n 2, 1) := by decide +kernel
theorem dX5_join_35 : decode cX5_join 35 = .ok (.invokevirtual 297, 3) := by decide +kernel
theorem dX5_join_38 : decode cX5_join 38 = .ok (.ireturn, 1) := by decide +kernel
set_option maxRecDepth 100000 in
set_option maxHeartbeats 4000000 in
theorem c_X5_join (Z : ZZ) (l : Launch) (t : Nat) (a1 : Int32) (a2 : Int32) (h : HP) {v : Int32} {h1 : HP} (ho : f_X5_join t a1 a2 h = some (v, h1)) : MetP Z l yX5_join cX5_join 3 (some .int) 2 49 [.ref (zb Z + t), .int a1, .int a2] h (some (.int v)) h1 := by
  refine MetP_of ho (by decide +kernel) (Nat.le_of_ble_eq_true rfl) [(0, .ref (zb Z + t)), (1, .int a1), (2, .int a2)] rfl (own := RX5) rfl (nm := "join") rfl ?_
  unfold f_X5_join
  refine S_aload_n dX5_join_0 rfl 0 rfl (pc' := 1) rfl ?_
  refine S_iload_n dX5_join_1 rfl 1 rfl (pc' := 2) rfl ?_
  refine S_invi ml_X5_135 mi_X5_noSong (ci := 5) ⟨_, rfl, rfl⟩ (by decide) dX5_join_2 [.int a1] rfl (fun v h2 q => c_X5_noSong Z l _ _ _ q) ⟨Nat.le_of_ble_eq_true rfl, Nat.le_of_ble_eq_true rfl⟩ (rest := []) (Nat.le_of_ble_eq_true rfl) rfl (pc' := 5) rfl (fun x2 h2 => ?_)
  refine S_if_ne dX5_join_5 16 rfl (pc' := 8) rfl (fun g5 => ?_) (fun g5 => ?_)
  · refine S_aload_n dX5_join_16 rfl 0 rfl (pc' := 17) rfl ?_
    refine S_bipush dX5_join_17 (v := (-2)) rfl (pc' := 19) rfl ?_
    refine S_invi ml_X5_58 mi_X5_refuse (ci := 5) ⟨_, rfl, rfl⟩ (by decide) dX5_join_19 [.int (-2)] rfl (fun v h2 q => c_X5_refuse Z l _ _ _ q) ⟨Nat.le_of_ble_eq_true rfl, Nat.le_of_ble_eq_true rfl⟩ (rest := []) (Nat.le_of_ble_eq_true rfl) rfl (pc' := 22) rfl (fun x19 h19 => ?_)
    refine S_goto dX5_join_22 38 rfl ?_
    exact S_iret rfl dX5_join_38
  · refine S_aload_n dX5_join_8 rfl 0 rfl (pc' := 9) rfl ?_
    refine S_iload_n dX5_join_9 rfl 2 rfl (pc' := 10) rfl ?_
    refine S_invi ml_X5_135 mi_X5_noSong (ci := 5) ⟨_, rfl, rfl⟩ (by decide) dX5_join_10 [.int a2] rfl (fun v h2 q => c_X5_noSong Z l _ _ _ q) ⟨Nat.le_of_ble_eq_true rfl, Nat.le_of_ble_eq_true rfl⟩ (rest := []) (Nat.le_of_ble_eq_true rfl) rfl (pc' := 13) rfl (fun x10 h10 => ?_)
    refine S_if_eq dX5_join_13 25 rfl (pc' := 16) rfl (fun g13 => ?_) (fun g13 => ?_)
    · refine S_aload_n dX5_join_25 rfl 0 rfl (pc' := 26) rfl ?_
      refine S_getR fl_X5_32 rfl dX5_join_26 (pc' := 29) rfl (fun x26 => ?_)
      refine S_aload_n dX5_join_29 rfl 0 rfl (pc' := 30) rfl ?_
      refine S_getR fl_X5_12 rfl dX5_join_30 (pc' := 33) rfl (fun x30 => ?_)
      refine S_iload_n dX5_join_33 rfl 1 rfl (pc' := 34) rfl ?_
      refine S_iload_n dX5_join_34 rfl 2 rfl (pc' := 35) rfl ?_
      refine S_invi ml_X5_297 mi_X4_joined (ci := 4) ⟨_, rfl, rfl⟩ (by decide) dX5_join_35 [.ref (zb Z + x30), .int a1, .int a2] rfl (fun v h2 q => c_X4_joined Z l _ _ _ _ _ q) ⟨Nat.le_of_ble_eq_true rfl, Nat.le_of_ble_eq_true rfl⟩ (rest := []) (Nat.le_of_ble_eq_true rfl) rfl (pc' := 38) rfl (fun x35 h35 => ?_)
      exact S_iret rfl dX5_join_38
    · refine S_aload_n dX5_join_16 rfl 0 rfl (pc' := 17) rfl ?_
      refine S_bipush dX5_join_17 (v := (-2)) rfl (pc' := 19) rfl ?_
      refine S_invi ml_X5_58 mi_X5_refuse (ci := 5) ⟨_, rfl, rfl⟩ (by decide) dX5_join_19 [.int (-2)] rfl (fun v h2 q => c_X5_refuse Z l _ _ _ q) ⟨Nat.le_of_ble_eq_true rfl, Nat.le_of_ble_eq_true rfl⟩ (rest := []) (Nat.le_of_ble_eq_true rfl) rfl (pc' := 22) rfl (fun x19 h19 => ?_)
      refine S_goto dX5_join_22 38 rfl ?_
      exact S_iret rfl dX5_join_38
theorem dX5_like_0 : decode cX5_like 0 = .ok (.aload_n 0, 1) := by decide +kernel
theorem dX5_like_1 : decode cX5_like 1 = .ok (.iload_n 1, 1) := by decide +kernel
theorem dX5_like_2 : decode cX5_like 2 = .ok (.invokevirtual 135, 3) := by decide +kernel
theorem dX5_like_5 : decode cX5_like 5 = .ok (.ifCond .ne 11, 3) := by decide +kernel
theorem dX5_like_8 : decode cX5_like 8 = .ok (.aload_n 0, 1) := by decide +kernel
theorem dX5_like_9 : decode cX5_like 9 = .ok (.iload_n 2, 1) := by decide +kernel
theorem dX5_like_10 : decode cX5_like 10 = .ok (.invokevirtual 135, 3) := by decide +kernel
theorem dX5_like_13 : decode cX5_like 13 = .ok (.ifCond .eq 12, 3) := by decide +kernel
theorem dX5_like_16 : decode cX5_like 16 = .ok (.aload_n 0, 1) := by decide +kernel
theorem dX5_like_17 : decode cX5_like 17 = .ok (.bipush (-2), 2) := by decide +kernel
theorem dX5_like_19 : decode cX5_like 19 = .ok (.invokevirtual 58, 3) := by decide +kernel
theorem dX5_like_22 : decode cX5_like 22 = .ok (.goto 16, 3) := by decide +kernel
theorem dX5_like_25 : decode cX5_like 25 = .ok (.aload_n 0, 1) := by decide +kernel
theorem dX5_like_26 : decode cX5_like 26 = .ok (.getfield 32, 3) := by decide +kernel
theorem dX5_like_29 : decode cX5_like 29 = .ok (.aload_n 0, 1) := by decide +kernel
theorem dX5_like_30 : decode cX5_like 30 = .ok (.getfield 12, 3) := by decide +kernel
theorem dX5_like_33 : decode cX5_like 33 = .ok (.iload_n 1, 1) := by decide +kernel
theorem dX5_like_34 : decode cX5_like 34 = .ok (.iload_n 2, 1) := by decide +kernel
theorem dX5_like_35 : decode cX5_like 35 = .ok (.invokevirtual 300, 3) := by decide +kernel
theorem dX5_like_38 : decode cX5_like 38 = .ok (.ireturn, 1) := by decide +kernel
set_option maxRecDepth 100000 in
set_option maxHeartbeats 4000000 in
theorem c_X5_like (Z : ZZ) (l : Launch) (t : Nat) (a1 : Int32) (a2 : Int32) (h : HP) {v : Int32} {h1 : HP} (ho : f_X5_like t a1 a2 h = some (v, h1)) : MetP Z l yX5_like cX5_like 3 (some .int) 2 43 [.ref (zb Z + t), .int a1, .int a2] h (some (.int v)) h1 := by
  refine MetP_of ho (by decide +kernel) (Nat.le_of_ble_eq_true rfl) [(0, .ref (zb Z + t)), (1, .int a1), (2, .int a2)] rfl (own := RX5) rfl (nm := "like") rfl ?_
  unfold f_X5_like
  refine S_aload_n dX5_like_0 rfl 0 rfl (pc' := 1) rfl ?_
  refine S_iload_n dX5_like_1 rfl 1 rfl (pc' := 2) rfl ?_
  refine S_invi ml_X5_135 mi_X5_noSong (ci := 5) ⟨_, rfl, rfl⟩ (by decide) dX5_like_2 [.int a1] rfl (fun v h2 q => c_X5_noSong Z l _ _ _ q) ⟨Nat.le_of_ble_eq_true rfl, Nat.le_of_ble_eq_true rfl⟩ (rest := []) (Nat.le_of_ble_eq_true rfl) rfl (pc' := 5) rfl (fun x2 h2 => ?_)
  refine S_if_ne dX5_like_5 16 rfl (pc' := 8) rfl (fun g5 => ?_) (fun g5 => ?_)
  · refine S_aload_n dX5_like_16 rfl 0 rfl (pc' := 17) rfl ?_
    refine S_bipush dX5_like_17 (v := (-2)) rfl (pc' := 19) rfl ?_
    refine S_invi ml_X5_58 mi_X5_refuse (ci := 5) ⟨_, rfl, rfl⟩ (by decide) dX5_like_19 [.int (-2)] rfl (fun v h2 q => c_X5_refuse Z l _ _ _ q) ⟨Nat.le_of_ble_eq_true rfl, Nat.le_of_ble_eq_true rfl⟩ (rest := []) (Nat.le_of_ble_eq_true rfl) rfl (pc' := 22) rfl (fun x19 h19 => ?_)
    refine S_goto dX5_like_22 38 rfl ?_
    exact S_iret rfl dX5_like_38
  · refine S_aload_n dX5_like_8 rfl 0 rfl (pc' := 9) rfl ?_
    refine S_iload_n dX5_like_9 rfl 2 rfl (pc' := 10) rfl ?_
    refine S_invi ml_X5_135 mi_X5_noSong (ci := 5) ⟨_, rfl, rfl⟩ (by decide) dX5_like_10 [.int a2] rfl (fun v h2 q => c_X5_noSong Z l _ _ _ q) ⟨Nat.le_of_ble_eq_true rfl, Nat.le_of_ble_eq_true rfl⟩ (rest := []) (Nat.le_of_ble_eq_true rfl) rfl (pc' := 13) rfl (fun x10 h10 => ?_)
    refine S_if_eq dX5_like_13 25 rfl (pc' := 16) rfl (fun g13 => ?_) (fun g13 => ?_)
    · refine S_aload_n dX5_like_25 rfl 0 rfl (pc' := 26) rfl ?_
      refine S_getR fl_X5_32 rfl dX5_like_26 (pc' := 29) rfl (fun x26 => ?_)
      refine S_aload_n dX5_like_29 rfl 0 rfl (pc' := 30) rfl ?_
      refine S_getR fl_X5_12 rfl dX5_like_30 (pc' := 33) rfl (fun x30 => ?_)
      refine S_iload_n dX5_like_33 rfl 1 rfl (pc' := 34) rfl ?_
      refine S_iload_n dX5_like_34 rfl 2 rfl (pc' := 35) rfl ?_
      refine S_invi ml_X5_300 mi_X4_alike (ci := 4) ⟨_, rfl, rfl⟩ (by decide) dX5_like_35 [.ref (zb Z + x30), .int a1, .int a2] rfl (fun v h2 q => c_X4_alike Z l _ _ _ _ _ q) ⟨Nat.le_of_ble_eq_true rfl, Nat.le_of_ble_eq_true rfl⟩ (rest := []) (Nat.le_of_ble_eq_true rfl) rfl (pc' := 38) rfl (fun x35 h35 => ?_)
      exact S_iret rfl dX5_like_38
    · refine S_aload_n dX5_like_16 rfl 0 rfl (pc' := 17) rfl ?_
      refine S_bipush dX5_like_17 (v := (-2)) rfl (pc' := 19) rfl ?_
      refine S_invi ml_X5_58 mi_X5_refuse (ci := 5) ⟨_, rfl, rfl⟩ (by decide) dX5_like_19 [.int (-2)] rfl (fun v h2 q => c_X5_refuse Z l _ _ _ q) ⟨Nat.le_of_ble_eq_true rfl, Nat.le_of_ble_eq_true rfl⟩ (rest := []) (Nat.le_of_ble_eq_true rfl) rfl (pc' := 22) rfl (fun x19 h19 => ?_)
      refine S_goto dX5_like_22 38 rfl ?_
      exact S_iret rfl dX5_like_38
theorem dX5_nearest_0 : decode cX5_nearest 0 = .ok (.iload_n 1, 1) := by decide +kernel
theorem dX5_nearest_1 : decode cX5_nearest 1 = .ok (.bipush 8, 2) := by decide +kernel
theorem dX5_nearest_3 : decode cX5_nearest 3 = .ok (.invokestatic 54, 3) := by decide +kernel
theorem dX5_nearest_6 : decode cX5_nearest 6 = .ok (.ifCond .ne 20, 3) := by decide +kernel
theorem dX5_nearest_9 : decode cX5_nearest 9 = .ok (.iload_n 2, 1) := by decide +kernel
theorem dX5_nearest_10 : decode cX5_nearest 10 = .ok (.bipush 9, 2) := by decide +kernel
theorem dX5_nearest_12 : decode cX5_nearest 12 = .ok (.invokestatic 54, 3) := by decide +kernel
theorem dX5_nearest_15 : decode cX5_nearest 15 = .ok (.ifCond .ne 11, 3) := by decide +kernel
theorem dX5_nearest_18 : decode cX5_nearest 18 = .ok (.iload_n 3, 1) := by decide +kernel
theorem dX5_nearest_19 : decode cX5_nearest 19 = .ok (.iconst 2, 1) := by decide +kernel
theorem dX5_nearest_20 : decode cX5_nearest 20 = .ok (.invokestatic 54, 3) := by decide +kernel
theorem dX5_nearest_23 : decode cX5_nearest 23 = .ok (.ifCond .eq 10, 3) := by decide +kernel
theorem dX5_nearest_26 : decode cX5_nearest 26 = .ok (.aload_n 0, 1) := by decide +kernel
theorem dX5_nearest_27 : decode cX5_nearest 27 = .ok (.bipush (-2), 2) := by decide +kernel
theorem dX5_nearest_29 : decode cX5_nearest 29 = .ok (.invokevirtual 58, 3) := by decide +kernel
theorem dX5_nearest_32 : decode cX5_nearest 32 = .ok (.ireturn, 1) := by decide +kernel
theorem dX5_nearest_33 : decode cX5_nearest 33 = .ok (.aload_n 0, 1) := by decide +kernel
theorem dX5_nearest_34 : decode cX5_nearest 34 = .ok (.getfield 45, 3) := by decide +kernel
theorem dX5_nearest_37 : decode cX5_nearest 37 = .ok (.iload_n 1, 1) := by decide +kernel
theorem dX5_nearest_38 : decode cX5_nearest 38 = .ok (.aaload, 1) := by decide +kernel
theorem dX5_nearest_39 : decode cX5_nearest 39 = .ok (.astore 4, 2) := by decide +kernel
theorem dX5_nearest_41 : decode cX5_nearest 41 = .ok (.aload 4, 2) := by decide +kernel
theorem dX5_nearest_43 : decode cX5_nearest 43 = .ok (.iload_n 2, 1) := by decide +kernel
theorem dX5_nearest_44 : decode cX5_nearest 44 = .ok (.invokevirtual 269, 3) := by decide +kernel
theorem dX5_nearest_47 : decode cX5_nearest 47 = .ok (.istore 5, 2) := by decide +kernel
theorem dX5_nearest_49 : decode cX5_nearest 49 = .ok (.iload 5, 2) := by decide +kernel
theorem dX5_nearest_51 : decode cX5_nearest 51 = .ok (.ifCond .eq 10, 3) := by decide +kernel
theorem dX5_nearest_54 : decode cX5_nearest 54 = .ok (.aload_n 0, 1) := by decide +kernel
theorem dX5_nearest_55 : decode cX5_nearest 55 = .ok (.iload 5, 2) := by decide +kernel
theorem dX5_nearest_57 : decode cX5_nearest 57 = .ok (.invokevirtual 58, 3) := by decide +kernel
theorem dX5_nearest_60 : decode cX5_nearest 60 = .ok (.ireturn, 1) := by decide +kernel
theorem dX5_nearest_61 : decode cX5_nearest 61 = .ok (.aload_n 0, 1) := by decide +kernel
theorem dX5_nearest_62 : decode cX5_nearest 62 = .ok (.getfield 32, 3) := by decide +kernel
theorem dX5_nearest_65 : decode cX5_nearest 65 = .ok (.aload 4, 2) := by decide +kernel
theorem dX5_nearest_67 : decode cX5_nearest 67 = .ok (.iload_n 2, 1) := by decide +kernel
theorem dX5_nearest_68 : decode cX5_nearest 68 = .ok (.invokevirtual 303, 3) := by decide +kernel
theorem dX5_nearest_71 : decode cX5_nearest 71 = .ok (.ifCond .ne 10, 3) := by decide +kernel
theorem dX5_nearest_74 : decode cX5_nearest 74 = .ok (.aload_n 0, 1) := by decide +kernel
theorem dX5_nearest_75 : decode cX5_nearest 75 = .ok (.bipush (-5), 2) := by decide +kernel
theorem dX5_nearest_77 : decode cX5_nearest 77 = .ok (.invokevirtual 58, 3) := by decide +kernel
theorem dX5_nearest_80 : decode cX5_nearest 80 = .ok (.ireturn, 1) := by decide +kernel
theorem dX5_nearest_81 : decode cX5_nearest 81 = .ok (.aload_n 0, 1) := by decide +kernel
theorem dX5_nearest_82 : decode cX5_nearest 82 = .ok (.getfield 32, 3) := by decide +kernel
theorem dX5_nearest_85 : decode cX5_nearest 85 = .ok (.aload_n 0, 1) := by decide +kernel
theorem dX5_nearest_86 : decode cX5_nearest 86 = .ok (.getfield 12, 3) := by decide +kernel
theorem dX5_nearest_89 : decode cX5_nearest 89 = .ok (.invokevirtual 307, 3) := by decide +kernel
theorem dX5_nearest_92 : decode cX5_nearest 92 = .ok (.istore 6, 2) := by decide +kernel
theorem dX5_nearest_94 : decode cX5_nearest 94 = .ok (.iload 6, 2) := by decide +kernel
theorem dX5_nearest_96 : decode cX5_nearest 96 = .ok (.iconst (-1), 1) := by decide +kernel
theorem dX5_nearest_97 : decode cX5_nearest 97 = .ok (.if_icmp .eq 7, 3) := by decide +kernel
theorem dX5_nearest_100 : decode cX5_nearest 100 = .ok (.iload_n 3, 1) := by decide +kernel
theorem dX5_nearest_101 : decode cX5_nearest 101 = .ok (.ifCond .ne 8, 3) := by decide +kernel
theorem dX5_nearest_104 : decode cX5_nearest 104 = .ok (.iload 6, 2) := by decide +kernel
theorem dX5_nearest_106 : decode cX5_nearest 106 = .ok (.goto 16, 3) := by decide +kernel
theorem dX5_nearest_109 : decode cX5_nearest 109 = .ok (.aload_n 0, 1) := by decide +kernel
theorem dX5_nearest_110 : decode cX5_nearest 110 = .ok (.getfield 32, 3) := by decide +kernel
theorem dX5_nearest_113 : decode cX5_nearest 113 = .ok (.aload_n 0, 1) := by decide +kernel
theorem dX5_nearest_114 : decode cX5_nearest 114 = .ok (.getfield 12, 3) := by decide +kernel
theorem dX5_nearest_117 : decode cX5_nearest 117 = .ok (.iload 6, 2) := by decide +kernel
theorem dX5_nearest_119 : decode cX5_nearest 119 = .ok (.invokevirtual 294, 3) := by decide +kernel
theorem dX5_nearest_122 : decode cX5_nearest 122 = .ok (.ireturn, 1) := by decide +kernel
set_option maxRecDepth 100000 in
set_option maxHeartbeats 4000000 in
theorem c_X5_nearest (Z : ZZ) (l : Launch) (t : Nat) (a1 : Int32) (a2 : Int32) (a3 : Int32) (h : HP) {v : Int32} {h1 : HP} (ho : f_X5_nearest t a1 a2 a3 h = some (v, h1)) : MetP Z l yX5_nearest cX5_nearest 7 (some .int) 3 73 [.ref (zb Z + t), .int a1, .int a2, .int a3] h (some (.int v)) h1 := by
  refine MetP_of ho (by decide +kernel) (Nat.le_of_ble_eq_true rfl) [(0, .ref (zb Z + t)), (1, .int a1), (2, .int a2), (3, .int a3)] rfl (own := RX5) rfl (nm := "nearest") rfl ?_
  unfold f_X5_nearest
  refine S_iload_n dX5_nearest_0 rfl 1 rfl (pc' := 1) rfl ?_
  refine S_bipush dX5_nearest_1 (v := 8) rfl (pc' := 3) rfl ?_
  refine S_stai ml_X5_54 ms_X5_outside dX5_nearest_3 [.int a1, .int 8] rfl (fun v h2 q => c_X5_outside Z l _ _ _ q) ⟨Nat.le_of_ble_eq_true rfl, Nat.le_of_ble_eq_true rfl⟩ (rest := []) (Nat.le_of_ble_eq_true rfl) rfl (pc' := 6) rfl (fun x3 h3 => ?_)
  refine S_if_ne dX5_nearest_6 26 rfl (pc' := 9) rfl (fun g6 => ?_) (fun g6 => ?_)
  · refine S_aload_n dX5_nearest_26 rfl 0 rfl (pc' := 27) rfl ?_
    refine S_bipush dX5_nearest_27 (v := (-2)) rfl (pc' := 29) rfl ?_
    refine S_invi ml_X5_58 mi_X5_refuse (ci := 5) ⟨_, rfl, rfl⟩ (by decide) dX5_nearest_29 [.int (-2)] rfl (fun v h2 q => c_X5_refuse Z l _ _ _ q) ⟨Nat.le_of_ble_eq_true rfl, Nat.le_of_ble_eq_true rfl⟩ (rest := []) (Nat.le_of_ble_eq_true rfl) rfl (pc' := 32) rfl (fun x29 h29 => ?_)
    exact S_iret rfl dX5_nearest_32
  · refine S_iload_n dX5_nearest_9 rfl 2 rfl (pc' := 10) rfl ?_
    refine S_bipush dX5_nearest_10 (v := 9) rfl (pc' := 12) rfl ?_
    refine S_stai ml_X5_54 ms_X5_outside dX5_nearest_12 [.int a2, .int 9] rfl (fun v h2 q => c_X5_outside Z l _ _ _ q) ⟨Nat.le_of_ble_eq_true rfl, Nat.le_of_ble_eq_true rfl⟩ (rest := []) (Nat.le_of_ble_eq_true rfl) rfl (pc' := 15) rfl (fun x12 h12 => ?_)
    refine S_if_ne dX5_nearest_15 26 rfl (pc' := 18) rfl (fun g15 => ?_) (fun g15 => ?_)
    · refine S_aload_n dX5_nearest_26 rfl 0 rfl (pc' := 27) rfl ?_
      refine S_bipush dX5_nearest_27 (v := (-2)) rfl (pc' := 29) rfl ?_
      refine S_invi ml_X5_58 mi_X5_refuse (ci := 5) ⟨_, rfl, rfl⟩ (by decide) dX5_nearest_29 [.int (-2)] rfl (fun v h2 q => c_X5_refuse Z l _ _ _ q) ⟨Nat.le_of_ble_eq_true rfl, Nat.le_of_ble_eq_true rfl⟩ (rest := []) (Nat.le_of_ble_eq_true rfl) rfl (pc' := 32) rfl (fun x29 h29 => ?_)
      exact S_iret rfl dX5_nearest_32
    · refine S_iload_n dX5_nearest_18 rfl 3 rfl (pc' := 19) rfl ?_
      refine S_iconst dX5_nearest_19 (v := 2) rfl (pc' := 20) rfl ?_
      refine S_stai ml_X5_54 ms_X5_outside dX5_nearest_20 [.int a3, .int 2] rfl (fun v h2 q => c_X5_outside Z l _ _ _ q) ⟨Nat.le_of_ble_eq_true rfl, Nat.le_of_ble_eq_true rfl⟩ (rest := []) (Nat.le_of_ble_eq_true rfl) rfl (pc' := 23) rfl (fun x20 h20 => ?_)
      refine S_if_eq dX5_nearest_23 33 rfl (pc' := 26) rfl (fun g23 => ?_) (fun g23 => ?_)
      · refine S_aload_n dX5_nearest_33 rfl 0 rfl (pc' := 34) rfl ?_
        refine S_getR fl_X5_45 rfl dX5_nearest_34 (pc' := 37) rfl (fun x34 => ?_)
        refine S_iload_n dX5_nearest_37 rfl 1 rfl (pc' := 38) rfl ?_
        refine S_aaloadS dX5_nearest_38 (pc' := 39) rfl (fun x38 => ?_)
        refine S_astore dX5_nearest_39 (by decide) (lo' := [(4, .ref (zb Z + x38)), (0, .ref (zb Z + t)), (1, .int a1), (2, .int a2), (3, .int a3)]) rfl (pc' := 41) rfl ?_
        refine S_aload dX5_nearest_41 0 rfl (pc' := 43) rfl ?_
        refine S_iload_n dX5_nearest_43 rfl 3 rfl (pc' := 44) rfl ?_
        refine S_invi ml_X5_269 mi_X3_refusalAsTold (ci := 3) ⟨_, rfl, rfl⟩ (by decide) dX5_nearest_44 [.int a2] rfl (fun v h2 q => c_X3_refusalAsTold Z l _ _ _ q) ⟨Nat.le_of_ble_eq_true rfl, Nat.le_of_ble_eq_true rfl⟩ (rest := []) (Nat.le_of_ble_eq_true rfl) rfl (pc' := 47) rfl (fun x44 h44 => ?_)
        refine S_istore dX5_nearest_47 (by decide) (lo' := [(5, .int x44), (4, .ref (zb Z + x38)), (0, .ref (zb Z + t)), (1, .int a1), (2, .int a2), (3, .int a3)]) rfl (pc' := 49) rfl ?_
        refine S_iload dX5_nearest_49 0 rfl (pc' := 51) rfl ?_
        refine S_if_eq dX5_nearest_51 61 rfl (pc' := 54) rfl (fun g51 => ?_) (fun g51 => ?_)
        · refine S_aload_n dX5_nearest_61 rfl 2 rfl (pc' := 62) rfl ?_
          refine S_getR fl_X5_32 rfl dX5_nearest_62 (pc' := 65) rfl (fun x62 => ?_)
          refine S_aload dX5_nearest_65 1 rfl (pc' := 67) rfl ?_
          refine S_iload_n dX5_nearest_67 rfl 4 rfl (pc' := 68) rfl ?_
          refine S_invi ml_X5_303 mi_X4_listenToRow (ci := 4) ⟨_, rfl, rfl⟩ (by decide) dX5_nearest_68 [.ref (zb Z + x38), .int a2] rfl (fun v h2 q => c_X4_listenToRow Z l _ _ _ _ q) ⟨Nat.le_of_ble_eq_true rfl, Nat.le_of_ble_eq_true rfl⟩ (rest := []) (Nat.le_of_ble_eq_true rfl) rfl (pc' := 71) rfl (fun x68 h68 => ?_)
          refine S_if_ne dX5_nearest_71 81 rfl (pc' := 74) rfl (fun g71 => ?_) (fun g71 => ?_)
          · refine S_aload_n dX5_nearest_81 rfl 2 rfl (pc' := 82) rfl ?_
            refine S_getR fl_X5_32 rfl dX5_nearest_82 (pc' := 85) rfl (fun x82 => ?_)
            refine S_aload_n dX5_nearest_85 rfl 2 rfl (pc' := 86) rfl ?_
            refine S_getR fl_X5_12 rfl dX5_nearest_86 (pc' := 89) rfl (fun x86 => ?_)
            refine S_invi ml_X5_307 mi_X4_nearestSong (ci := 4) ⟨_, rfl, rfl⟩ (by decide) dX5_nearest_89 [.ref (zb Z + x86)] rfl (fun v h2 q => c_X4_nearestSong Z l _ _ _ q) ⟨Nat.le_of_ble_eq_true rfl, Nat.le_of_ble_eq_true rfl⟩ (rest := []) (Nat.le_of_ble_eq_true rfl) rfl (pc' := 92) rfl (fun x89 h89 => ?_)
            refine S_istore dX5_nearest_92 (by decide) (lo' := [(6, .int x89), (5, .int x44), (4, .ref (zb Z + x38)), (0, .ref (zb Z + t)), (1, .int a1), (2, .int a2), (3, .int a3)]) rfl (pc' := 94) rfl ?_
            refine S_iload dX5_nearest_94 0 rfl (pc' := 96) rfl ?_
            refine S_iconst dX5_nearest_96 (v := (-1)) rfl (pc' := 97) rfl ?_
            refine S_icmp_eq dX5_nearest_97 104 rfl (pc' := 100) rfl (fun g97 => ?_) (fun g97 => ?_)
            · refine S_iload dX5_nearest_104 0 rfl (pc' := 106) rfl ?_
              refine S_goto dX5_nearest_106 122 rfl ?_
              exact S_iret rfl dX5_nearest_122
            · refine S_iload_n dX5_nearest_100 rfl 6 rfl (pc' := 101) rfl ?_
              refine S_if_ne dX5_nearest_101 109 rfl (pc' := 104) rfl (fun g101 => ?_) (fun g101 => ?_)
              · refine S_aload_n dX5_nearest_109 rfl 3 rfl (pc' := 110) rfl ?_
                refine S_getR fl_X5_32 rfl dX5_nearest_110 (pc' := 113) rfl (fun x110 => ?_)
                refine S_aload_n dX5_nearest_113 rfl 3 rfl (pc' := 114) rfl ?_
                refine S_getR fl_X5_12 rfl dX5_nearest_114 (pc' := 117) rfl (fun x114 => ?_)
                refine S_iload dX5_nearest_117 0 rfl (pc' := 119) rfl ?_
                refine S_invi ml_X5_294 mi_X4_changesTo (ci := 4) ⟨_, rfl, rfl⟩ (by decide) dX5_nearest_119 [.ref (zb Z + x114), .int x89] rfl (fun v h2 q => c_X4_changesTo Z l _ _ _ _ q) ⟨Nat.le_of_ble_eq_true rfl, Nat.le_of_ble_eq_true rfl⟩ (rest := []) (Nat.le_of_ble_eq_true rfl) rfl (pc' := 122) rfl (fun x119 h119 => ?_)
                exact S_iret rfl dX5_nearest_122
              · refine S_iload dX5_nearest_104 0 rfl (pc' := 106) rfl ?_
                refine S_goto dX5_nearest_106 122 rfl ?_
                exact S_iret rfl dX5_nearest_122
          · refine S_aload_n dX5_nearest_74 rfl 2 rfl (pc' := 75) rfl ?_
            refine S_bipush dX5_nearest_75 (v := (-5)) rfl (pc' := 77) rfl ?_
            refine S_invi ml_X5_58 mi_X5_refuse (ci := 5) ⟨_, rfl, rfl⟩ (by decide) dX5_nearest_77 [.int (-5)] rfl (fun v h2 q => c_X5_refuse Z l _ _ _ q) ⟨Nat.le_of_ble_eq_true rfl, Nat.le_of_ble_eq_true rfl⟩ (rest := []) (Nat.le_of_ble_eq_true rfl) rfl (pc' := 80) rfl (fun x77 h77 => ?_)
            exact S_iret rfl dX5_nearest_80
        · refine S_aload_n dX5_nearest_54 rfl 2 rfl (pc' := 55) rfl ?_
          refine S_iload dX5_nearest_55 0 rfl (pc' := 57) rfl ?_
          refine S_invi ml_X5_58 mi_X5_refuse (ci := 5) ⟨_, rfl, rfl⟩ (by decide) dX5_nearest_57 [.int x44] rfl (fun v h2 q => c_X5_refuse Z l _ _ _ q) ⟨Nat.le_of_ble_eq_true rfl, Nat.le_of_ble_eq_true rfl⟩ (rest := []) (Nat.le_of_ble_eq_true rfl) rfl (pc' := 60) rfl (fun x57 h57 => ?_)
          exact S_iret rfl dX5_nearest_60
      · refine S_aload_n dX5_nearest_26 rfl 0 rfl (pc' := 27) rfl ?_
        refine S_bipush dX5_nearest_27 (v := (-2)) rfl (pc' := 29) rfl ?_
        refine S_invi ml_X5_58 mi_X5_refuse (ci := 5) ⟨_, rfl, rfl⟩ (by decide) dX5_nearest_29 [.int (-2)] rfl (fun v h2 q => c_X5_refuse Z l _ _ _ q) ⟨Nat.le_of_ble_eq_true rfl, Nat.le_of_ble_eq_true rfl⟩ (rest := []) (Nat.le_of_ble_eq_true rfl) rfl (pc' := 32) rfl (fun x29 h29 => ?_)
        exact S_iret rfl dX5_nearest_32
theorem dX5_pass_0 : decode cX5_pass 0 = .ok (.aload_n 0, 1) := by decide +kernel
theorem dX5_pass_1 : decode cX5_pass 1 = .ok (.getfield 12, 3) := by decide +kernel
theorem dX5_pass_4 : decode cX5_pass 4 = .ok (.invokevirtual 310, 3) := by decide +kernel
theorem dX5_pass_7 : decode cX5_pass 7 = .ok (.pop, 1) := by decide +kernel
theorem dX5_pass_8 : decode cX5_pass 8 = .ok (.aload_n 0, 1) := by decide +kernel
theorem dX5_pass_9 : decode cX5_pass 9 = .ok (.getfield 12, 3) := by decide +kernel
theorem dX5_pass_12 : decode cX5_pass 12 = .ok (.getfield 170, 3) := by decide +kernel
theorem dX5_pass_15 : decode cX5_pass 15 = .ok (.ireturn, 1) := by decide +kernel
set_option maxRecDepth 100000 in
set_option maxHeartbeats 4000000 in
theorem c_X5_pass (Z : ZZ) (l : Launch) (t : Nat) (h : HP) {v : Int32} {h1 : HP} (ho : f_X5_pass t h = some (v, h1)) : MetP Z l yX5_pass cX5_pass 1 (some .int) 5 113 [.ref (zb Z + t)] h (some (.int v)) h1 := by
  refine MetP_of ho (by decide +kernel) (Nat.le_of_ble_eq_true rfl) [(0, .ref (zb Z + t))] rfl (own := RX5) rfl (nm := "pass") rfl ?_
  unfold f_X5_pass
  refine S_aload_n dX5_pass_0 rfl 0 rfl (pc' := 1) rfl ?_
  refine S_getR fl_X5_12 rfl dX5_pass_1 (pc' := 4) rfl (fun x1 => ?_)
  refine S_invi ml_X5_310 mi_X0_passYear (ci := 0) ⟨_, rfl, rfl⟩ (by decide) dX5_pass_4 [] rfl (fun v h2 q => c_X0_passYear Z l _ _ q) ⟨Nat.le_of_ble_eq_true rfl, Nat.le_of_ble_eq_true rfl⟩ (rest := []) (Nat.le_of_ble_eq_true rfl) rfl (pc' := 7) rfl (fun x4 h4 => ?_)
  refine S_pop dX5_pass_7 rfl (pc' := 8) rfl ?_
  refine S_aload_n dX5_pass_8 rfl 0 rfl (pc' := 9) rfl ?_
  refine S_getR fl_X5_12 rfl dX5_pass_9 (pc' := 12) rfl (fun x9 => ?_)
  refine S_getI fl_X5_170 rfl dX5_pass_12 (pc' := 15) rfl (fun x12 => ?_)
  exact S_iret rfl dX5_pass_15
theorem dX5_taught_0 : decode cX5_taught 0 = .ok (.aload_n 0, 1) := by decide +kernel
theorem dX5_taught_1 : decode cX5_taught 1 = .ok (.iload_n 1, 1) := by decide +kernel
theorem dX5_taught_2 : decode cX5_taught 2 = .ok (.invokevirtual 98, 3) := by decide +kernel
theorem dX5_taught_5 : decode cX5_taught 5 = .ok (.ifCond .ne 11, 3) := by decide +kernel
theorem dX5_taught_8 : decode cX5_taught 8 = .ok (.aload_n 0, 1) := by decide +kernel
theorem dX5_taught_9 : decode cX5_taught 9 = .ok (.iload_n 2, 1) := by decide +kernel
theorem dX5_taught_10 : decode cX5_taught 10 = .ok (.invokevirtual 135, 3) := by decide +kernel
theorem dX5_taught_13 : decode cX5_taught 13 = .ok (.ifCond .eq 10, 3) := by decide +kernel
theorem dX5_taught_16 : decode cX5_taught 16 = .ok (.aload_n 0, 1) := by decide +kernel
theorem dX5_taught_17 : decode cX5_taught 17 = .ok (.bipush (-2), 2) := by decide +kernel
theorem dX5_taught_19 : decode cX5_taught 19 = .ok (.invokevirtual 58, 3) := by decide +kernel
theorem dX5_taught_22 : decode cX5_taught 22 = .ok (.ireturn, 1) := by decide +kernel
theorem dX5_taught_23 : decode cX5_taught 23 = .ok (.aload_n 0, 1) := by decide +kernel
theorem dX5_taught_24 : decode cX5_taught 24 = .ok (.getfield 12, 3) := by decide +kernel
theorem dX5_taught_27 : decode cX5_taught 27 = .ok (.getfield 147, 3) := by decide +kernel
theorem dX5_taught_30 : decode cX5_taught 30 = .ok (.iload_n 2, 1) := by decide +kernel
theorem dX5_taught_31 : decode cX5_taught 31 = .ok (.iaload, 1) := by decide +kernel
theorem dX5_taught_32 : decode cX5_taught 32 = .ok (.iconst 1, 1) := by decide +kernel
theorem dX5_taught_33 : decode cX5_taught 33 = .ok (.if_icmp .eq 16, 3) := by decide +kernel
theorem dX5_taught_36 : decode cX5_taught 36 = .ok (.aload_n 0, 1) := by decide +kernel
theorem dX5_taught_37 : decode cX5_taught 37 = .ok (.getfield 12, 3) := by decide +kernel
theorem dX5_taught_40 : decode cX5_taught 40 = .ok (.iload_n 1, 1) := by decide +kernel
theorem dX5_taught_41 : decode cX5_taught 41 = .ok (.iload_n 2, 1) := by decide +kernel
theorem dX5_taught_42 : decode cX5_taught 42 = .ok (.invokevirtual 153, 3) := by decide +kernel
theorem dX5_taught_45 : decode cX5_taught 45 = .ok (.iconst (-1), 1) := by decide +kernel
theorem dX5_taught_46 : decode cX5_taught 46 = .ok (.if_icmp .eq 10, 3) := by decide +kernel
theorem dX5_taught_49 : decode cX5_taught 49 = .ok (.aload_n 0, 1) := by decide +kernel
theorem dX5_taught_50 : decode cX5_taught 50 = .ok (.bipush (-5), 2) := by decide +kernel
theorem dX5_taught_52 : decode cX5_taught 52 = .ok (.invokevirtual 58, 3) := by decide +kernel
theorem dX5_taught_55 : decode cX5_taught 55 = .ok (.ireturn, 1) := by decide +kernel
theorem dX5_taught_56 : decode cX5_taught 56 = .ok (.aload_n 0, 1) := by decide +kernel
theorem dX5_taught_57 : decode cX5_taught 57 = .ok (.getfield 12, 3) := by decide +kernel
theorem dX5_taught_60 : decode cX5_taught 60 = .ok (.iload_n 1, 1) := by decide +kernel
theorem dX5_taught_61 : decode cX5_taught 61 = .ok (.iload_n 2, 1) := by decide +kernel
theorem dX5_taught_62 : decode cX5_taught 62 = .ok (.iconst 0, 1) := by decide +kernel
theorem dX5_taught_63 : decode cX5_taught 63 = .ok (.invokevirtual 156, 3) := by decide +kernel
theorem dX5_taught_66 : decode cX5_taught 66 = .ok (.aload_n 0, 1) := by decide +kernel
theorem dX5_taught_67 : decode cX5_taught 67 = .ok (.getfield 12, 3) := by decide +kernel
theorem dX5_taught_70 : decode cX5_taught 70 = .ok (.iload_n 2, 1) := by decide +kernel
theorem dX5_taught_71 : decode cX5_taught 71 = .ok (.invokevirtual 197, 3) := by decide +kernel
theorem dX5_taught_74 : decode cX5_taught 74 = .ok (.invokestatic 313, 3) := by decide +kernel
theorem dX5_taught_77 : decode cX5_taught 77 = .ok (.ireturn, 1) := by decide +kernel
set_option maxRecDepth 100000 in
set_option maxHeartbeats 4000000 in
theorem c_X5_taught (Z : ZZ) (l : Launch) (t : Nat) (a1 : Int32) (a2 : Int32) (h : HP) {v : Int32} {h1 : HP} (ho : f_X5_taught t a1 a2 h = some (v, h1)) : MetP Z l yX5_taught cX5_taught 3 (some .int) 2 45 [.ref (zb Z + t), .int a1, .int a2] h (some (.int v)) h1 := by
  refine MetP_of ho (by decide +kernel) (Nat.le_of_ble_eq_true rfl) [(0, .ref (zb Z + t)), (1, .int a1), (2, .int a2)] rfl (own := RX5) rfl (nm := "taught") rfl ?_
  unfold f_X5_taught
  refine S_aload_n dX5_taught_0 rfl 0 rfl (pc' := 1) rfl ?_
  refine S_iload_n dX5_taught_1 rfl 1 rfl (pc' := 2) rfl ?_
  refine S_invi ml_X5_98 mi_X5_noPerson (ci := 5) ⟨_, rfl, rfl⟩ (by decide) dX5_taught_2 [.int a1] rfl (fun v h2 q => c_X5_noPerson Z l _ _ _ q) ⟨Nat.le_of_ble_eq_true rfl, Nat.le_of_ble_eq_true rfl⟩ (rest := []) (Nat.le_of_ble_eq_true rfl) rfl (pc' := 5) rfl (fun x2 h2 => ?_)
  refine S_if_ne dX5_taught_5 16 rfl (pc' := 8) rfl (fun g5 => ?_) (fun g5 => ?_)
  · refine S_aload_n dX5_taught_16 rfl 0 rfl (pc' := 17) rfl ?_
    refine S_bipush dX5_taught_17 (v := (-2)) rfl (pc' := 19) rfl ?_
    refine S_invi ml_X5_58 mi_X5_refuse (ci := 5) ⟨_, rfl, rfl⟩ (by decide) dX5_taught_19 [.int (-2)] rfl (fun v h2 q => c_X5_refuse Z l _ _ _ q) ⟨Nat.le_of_ble_eq_true rfl, Nat.le_of_ble_eq_true rfl⟩ (rest := []) (Nat.le_of_ble_eq_true rfl) rfl (pc' := 22) rfl (fun x19 h19 => ?_)
    exact S_iret rfl dX5_taught_22
  · refine S_aload_n dX5_taught_8 rfl 0 rfl (pc' := 9) rfl ?_
    refine S_iload_n dX5_taught_9 rfl 2 rfl (pc' := 10) rfl ?_
    refine S_invi ml_X5_135 mi_X5_noSong (ci := 5) ⟨_, rfl, rfl⟩ (by decide) dX5_taught_10 [.int a2] rfl (fun v h2 q => c_X5_noSong Z l _ _ _ q) ⟨Nat.le_of_ble_eq_true rfl, Nat.le_of_ble_eq_true rfl⟩ (rest := []) (Nat.le_of_ble_eq_true rfl) rfl (pc' := 13) rfl (fun x10 h10 => ?_)
    refine S_if_eq dX5_taught_13 23 rfl (pc' := 16) rfl (fun g13 => ?_) (fun g13 => ?_)
    · refine S_aload_n dX5_taught_23 rfl 0 rfl (pc' := 24) rfl ?_
      refine S_getR fl_X5_12 rfl dX5_taught_24 (pc' := 27) rfl (fun x24 => ?_)
      refine S_getR fl_X5_147 rfl dX5_taught_27 (pc' := 30) rfl (fun x27 => ?_)
      refine S_iload_n dX5_taught_30 rfl 2 rfl (pc' := 31) rfl ?_
      refine S_iaload dX5_taught_31 (pc' := 32) rfl (fun x31 => ?_)
      refine S_iconst dX5_taught_32 (v := 1) rfl (pc' := 33) rfl ?_
      refine S_icmp_eq dX5_taught_33 49 rfl (pc' := 36) rfl (fun g33 => ?_) (fun g33 => ?_)
      · refine S_aload_n dX5_taught_49 rfl 0 rfl (pc' := 50) rfl ?_
        refine S_bipush dX5_taught_50 (v := (-5)) rfl (pc' := 52) rfl ?_
        refine S_invi ml_X5_58 mi_X5_refuse (ci := 5) ⟨_, rfl, rfl⟩ (by decide) dX5_taught_52 [.int (-5)] rfl (fun v h2 q => c_X5_refuse Z l _ _ _ q) ⟨Nat.le_of_ble_eq_true rfl, Nat.le_of_ble_eq_true rfl⟩ (rest := []) (Nat.le_of_ble_eq_true rfl) rfl (pc' := 55) rfl (fun x52 h52 => ?_)
        exact S_iret rfl dX5_taught_55
      · refine S_aload_n dX5_taught_36 rfl 0 rfl (pc' := 37) rfl ?_
        refine S_getR fl_X5_12 rfl dX5_taught_37 (pc' := 40) rfl (fun x37 => ?_)
        refine S_iload_n dX5_taught_40 rfl 1 rfl (pc' := 41) rfl ?_
        refine S_iload_n dX5_taught_41 rfl 2 rfl (pc' := 42) rfl ?_
        refine S_invi ml_X5_153 mi_X0_heldFor (ci := 0) ⟨_, rfl, rfl⟩ (by decide) dX5_taught_42 [.int a1, .int a2] rfl (fun v h2 q => c_X0_heldFor Z l _ _ _ _ q) ⟨Nat.le_of_ble_eq_true rfl, Nat.le_of_ble_eq_true rfl⟩ (rest := []) (Nat.le_of_ble_eq_true rfl) rfl (pc' := 45) rfl (fun x42 h42 => ?_)
        refine S_iconst dX5_taught_45 (v := (-1)) rfl (pc' := 46) rfl ?_
        refine S_icmp_eq dX5_taught_46 56 rfl (pc' := 49) rfl (fun g46 => ?_) (fun g46 => ?_)
        · refine S_aload_n dX5_taught_56 rfl 0 rfl (pc' := 57) rfl ?_
          refine S_getR fl_X5_12 rfl dX5_taught_57 (pc' := 60) rfl (fun x57 => ?_)
          refine S_iload_n dX5_taught_60 rfl 1 rfl (pc' := 61) rfl ?_
          refine S_iload_n dX5_taught_61 rfl 2 rfl (pc' := 62) rfl ?_
          refine S_iconst dX5_taught_62 (v := 0) rfl (pc' := 63) rfl ?_
          refine S_invv ml_X5_156 mi_X0_setHeld (ci := 0) ⟨_, rfl, rfl⟩ (by decide) dX5_taught_63 [.int a1, .int a2, .int 0] rfl (fun v h2 q => c_X0_setHeld Z l _ _ _ _ _ q) ⟨Nat.le_of_ble_eq_true rfl, Nat.le_of_ble_eq_true rfl⟩ (rest := []) (Nat.le_of_ble_eq_true rfl) rfl (pc' := 66) rfl (fun _ h63 => ?_)
          refine S_aload_n dX5_taught_66 rfl 0 rfl (pc' := 67) rfl ?_
          refine S_getR fl_X5_12 rfl dX5_taught_67 (pc' := 70) rfl (fun x67 => ?_)
          refine S_iload_n dX5_taught_70 rfl 2 rfl (pc' := 71) rfl ?_
          refine S_invi ml_X5_197 mi_X0_havers (ci := 0) ⟨_, rfl, rfl⟩ (by decide) dX5_taught_71 [.int a2] rfl (fun v h2 q => c_X0_havers Z l _ _ _ q) ⟨Nat.le_of_ble_eq_true rfl, Nat.le_of_ble_eq_true rfl⟩ (rest := []) (Nat.le_of_ble_eq_true rfl) rfl (pc' := 74) rfl (fun x71 h71 => ?_)
          refine S_stai ml_X5_313 ms_J6_bitCount_0f7a4 dX5_taught_74 [.int x71] rfl (fun v h2 q => c_J6_bitCount_0f7a4 Z l _ _ q) ⟨Nat.le_of_ble_eq_true rfl, Nat.le_of_ble_eq_true rfl⟩ (rest := []) (Nat.le_of_ble_eq_true rfl) rfl (pc' := 77) rfl (fun x74 h74 => ?_)
          exact S_iret rfl dX5_taught_77
        · refine S_aload_n dX5_taught_49 rfl 0 rfl (pc' := 50) rfl ?_
          refine S_bipush dX5_taught_50 (v := (-5)) rfl (pc' := 52) rfl ?_
          refine S_invi ml_X5_58 mi_X5_refuse (ci := 5) ⟨_, rfl, rfl⟩ (by decide) dX5_taught_52 [.int (-5)] rfl (fun v h2 q => c_X5_refuse Z l _ _ _ q) ⟨Nat.le_of_ble_eq_true rfl, Nat.le_of_ble_eq_true rfl⟩ (rest := []) (Nat.le_of_ble_eq_true rfl) rfl (pc' := 55) rfl (fun x52 h52 => ?_)
          exact S_iret rfl dX5_taught_55
    · refine S_aload_n dX5_taught_16 rfl 0 rfl (pc' := 17) rfl ?_
      refine S_bipush dX5_taught_17 (v := (-2)) rfl (pc' := 19) rfl ?_
      refine S_invi ml_X5_58 mi_X5_refuse (ci := 5) ⟨_, rfl, rfl⟩ (by decide) dX5_taught_19 [.int (-2)] rfl (fun v h2 q => c_X5_refuse Z l _ _ _ q) ⟨Nat.le_of_ble_eq_true rfl, Nat.le_of_ble_eq_true rfl⟩ (rest := []) (Nat.le_of_ble_eq_true rfl) rfl (pc' := 22) rfl (fun x19 h19 => ?_)
      exact S_iret rfl dX5_taught_22
theorem dX5_drawn_0 : decode cX5_drawn 0 = .ok (.iload_n 1, 1) := by decide +kernel
theorem dX5_drawn_1 : decode cX5_drawn 1 = .ok (.iconst 1, 1) := by decide +kernel
theorem dX5_drawn_2 : decode cX5_drawn 2 = .ok (.isub, 1) := by decide +kernel
theorem dX5_drawn_3 : decode cX5_drawn 3 = .ok (.bipush 60, 2) := by decide +kernel
theorem dX5_drawn_5 : decode cX5_drawn 5 = .ok (.invokestatic 54, 3) := by decide +kernel
theorem dX5_drawn_8 : decode cX5_drawn 8 = .ok (.ifCond .eq 10, 3) := by decide +kernel
theorem dX5_drawn_11 : decode cX5_drawn 11 = .ok (.aload_n 0, 1) := by decide +kernel
theorem dX5_drawn_12 : decode cX5_drawn 12 = .ok (.bipush (-2), 2) := by decide +kernel
theorem dX5_drawn_14 : decode cX5_drawn 14 = .ok (.invokevirtual 58, 3) := by decide +kernel
theorem dX5_drawn_17 : decode cX5_drawn 17 = .ok (.ireturn, 1) := by decide +kernel
theorem dX5_drawn_18 : decode cX5_drawn 18 = .ok (.aload_n 0, 1) := by decide +kernel
theorem dX5_drawn_19 : decode cX5_drawn 19 = .ok (.getfield 12, 3) := by decide +kernel
theorem dX5_drawn_22 : decode cX5_drawn 22 = .ok (.getfield 112, 3) := by decide +kernel
theorem dX5_drawn_25 : decode cX5_drawn 25 = .ok (.ifCond .ne 10, 3) := by decide +kernel
theorem dX5_drawn_28 : decode cX5_drawn 28 = .ok (.aload_n 0, 1) := by decide +kernel
theorem dX5_drawn_29 : decode cX5_drawn 29 = .ok (.bipush (-5), 2) := by decide +kernel
theorem dX5_drawn_31 : decode cX5_drawn 31 = .ok (.invokevirtual 58, 3) := by decide +kernel
theorem dX5_drawn_34 : decode cX5_drawn 34 = .ok (.ireturn, 1) := by decide +kernel
theorem dX5_drawn_35 : decode cX5_drawn 35 = .ok (.iconst 0, 1) := by decide +kernel
theorem dX5_drawn_36 : decode cX5_drawn 36 = .ok (.istore_n 2, 1) := by decide +kernel
theorem dX5_drawn_37 : decode cX5_drawn 37 = .ok (.iconst 0, 1) := by decide +kernel
theorem dX5_drawn_38 : decode cX5_drawn 38 = .ok (.istore_n 3, 1) := by decide +kernel
theorem dX5_drawn_39 : decode cX5_drawn 39 = .ok (.iload_n 3, 1) := by decide +kernel
theorem dX5_drawn_40 : decode cX5_drawn 40 = .ok (.iload_n 1, 1) := by decide +kernel
theorem dX5_drawn_41 : decode cX5_drawn 41 = .ok (.if_icmp .ge 19, 3) := by decide +kernel
theorem dX5_drawn_44 : decode cX5_drawn 44 = .ok (.iload_n 2, 1) := by decide +kernel
theorem dX5_drawn_45 : decode cX5_drawn 45 = .ok (.aload_n 0, 1) := by decide +kernel
theorem dX5_drawn_46 : decode cX5_drawn 46 = .ok (.getfield 12, 3) := by decide +kernel
theorem dX5_drawn_49 : decode cX5_drawn 49 = .ok (.invokevirtual 318, 3) := by decide +kernel
theorem dX5_drawn_52 : decode cX5_drawn 52 = .ok (.iadd, 1) := by decide +kernel
theorem dX5_drawn_53 : decode cX5_drawn 53 = .ok (.istore_n 2, 1) := by decide +kernel
theorem dX5_drawn_54 : decode cX5_drawn 54 = .ok (.iinc 3 1, 3) := by decide +kernel
theorem dX5_drawn_57 : decode cX5_drawn 57 = .ok (.goto (-18), 3) := by decide +kernel
theorem dX5_drawn_60 : decode cX5_drawn 60 = .ok (.iload_n 2, 1) := by decide +kernel
theorem dX5_drawn_61 : decode cX5_drawn 61 = .ok (.ireturn, 1) := by decide +kernel
set_option maxRecDepth 100000 in
set_option maxHeartbeats 4000000 in
theorem lc_X5_drawn_39 (Z : ZZ) (l : Launch) (a0 : Nat) (a1 : Int32) {args : Array Value} {h0 h1 : HP} {v0 : Int32} (K : Int32 → HP → Option (Int32 × HP)) (F : Int32 → Int32 → HP → Option (Int32 × HP))
    (hK : ∀ (b2 : Int32) (h : HP), Sim Z l cX5_drawn RX5 4 6 134 (some .int) "drawn" args (Mq Z args h0 h1 (some (.int v0))) h0 h1 v0 60 [(2, .int b2)] [] h (K b2 h))
    (hF : ∀ (b2 : Int32) (b3 : Int32) (h : HP), Sim Z l cX5_drawn RX5 4 6 134 (some .int) "drawn" args (Mq Z args h0 h1 (some (.int v0))) h0 h1 v0 39 [(0, .ref (zb Z + a0)), (1, .int a1), (2, .int b2), (3, .int b3)] [] h (F b2 b3 h)) :
    ∀ (b2 : Int32) (b3 : Int32) (h : HP), Sim Z l cX5_drawn RX5 4 6 134 (some .int) "drawn" args (Mq Z args h0 h1 (some (.int v0))) h0 h1 v0 39 [(0, .ref (zb Z + a0)), (1, .int a1), (2, .int b2), (3, .int b3)] [] h (lb_X5_drawn_39 a0 a1 K F b2 b3 h) := by
  intro b2 b3 h
  unfold lb_X5_drawn_39
  refine S_iload_n dX5_drawn_39 rfl 3 rfl (pc' := 40) rfl ?_
  refine S_iload_n dX5_drawn_40 rfl 1 rfl (pc' := 41) rfl ?_
  refine S_icmp_ge dX5_drawn_41 60 rfl (pc' := 44) rfl (fun g41 => ?_) (fun g41 => ?_)
  · refine Sim.sub [2] rfl ?_
    exact hK _ _
  · refine S_iload_n dX5_drawn_44 rfl 2 rfl (pc' := 45) rfl ?_
    refine S_aload_n dX5_drawn_45 rfl 0 rfl (pc' := 46) rfl ?_
    refine S_getR fl_X5_12 rfl dX5_drawn_46 (pc' := 49) rfl (fun x46 => ?_)
    refine S_invi ml_X5_318 mi_X0_passDrawnYear (ci := 0) ⟨_, rfl, rfl⟩ (by decide) dX5_drawn_49 [] rfl (fun v h2 q => c_X0_passDrawnYear Z l _ _ q) ⟨Nat.le_of_ble_eq_true rfl, Nat.le_of_ble_eq_true rfl⟩ (rest := [.int b2]) (Nat.le_of_ble_eq_true rfl) rfl (pc' := 52) rfl (fun x49 h49 => ?_)
    refine S_iadd dX5_drawn_52 (pc' := 53) rfl ?_
    refine S_istore_n dX5_drawn_53 rfl (by decide) (lo' := [(2, .int (b2 + x49)), (0, .ref (zb Z + a0)), (1, .int a1), (3, .int b3)]) rfl (pc' := 54) rfl ?_
    refine S_iinc dX5_drawn_54 (q := 3) rfl (v := b3 + 1) rfl (by decide) (lo' := [(3, .int (b3 + 1)), (2, .int (b2 + x49)), (0, .ref (zb Z + a0)), (1, .int a1)]) rfl (pc' := 57) rfl ?_
    refine S_goto dX5_drawn_57 39 rfl ?_
    refine Sim.sub [2, 3, 1, 0] rfl ?_
    exact hF _ _ _
theorem lq_X5_drawn_39 (Z : ZZ) (l : Launch) (a0 : Nat) (a1 : Int32) {args : Array Value} {h0 h1 : HP} {v0 : Int32} (K : Int32 → HP → Option (Int32 × HP))
    (hK : ∀ (b2 : Int32) (h : HP), Sim Z l cX5_drawn RX5 4 6 134 (some .int) "drawn" args (Mq Z args h0 h1 (some (.int v0))) h0 h1 v0 60 [(2, .int b2)] [] h (K b2 h)) :
    ∀ (k : Nat) (b2 : Int32) (b3 : Int32) (h : HP), Sim Z l cX5_drawn RX5 4 6 134 (some .int) "drawn" args (Mq Z args h0 h1 (some (.int v0))) h0 h1 v0 39 [(0, .ref (zb Z + a0)), (1, .int a1), (2, .int b2), (3, .int b3)] [] h (lp_X5_drawn_39 a0 a1 K k b2 b3 h) := by
  intro k
  induction k with
  | zero => exact fun _ _ _ => Sim.none
  | succ k ih => exact lc_X5_drawn_39 Z l a0 a1 K _ hK ih
set_option maxRecDepth 100000 in
set_option maxHeartbeats 4000000 in
theorem c_X5_drawn (Z : ZZ) (l : Launch) (t : Nat) (a1 : Int32) (h : HP) {v : Int32} {h1 : HP} (ho : f_X5_drawn t a1 h = some (v, h1)) : MetP Z l yX5_drawn cX5_drawn 4 (some .int) 6 134 [.ref (zb Z + t), .int a1] h (some (.int v)) h1 := by
  refine MetP_of ho (by decide +kernel) (Nat.le_of_ble_eq_true rfl) [(0, .ref (zb Z + t)), (1, .int a1)] rfl (own := RX5) rfl (nm := "drawn") rfl ?_
  unfold f_X5_drawn
  refine S_iload_n dX5_drawn_0 rfl 1 rfl (pc' := 1) rfl ?_
  refine S_iconst dX5_drawn_1 (v := 1) rfl (pc' := 2) rfl ?_
  refine S_isub dX5_drawn_2 (pc' := 3) rfl ?_
  refine S_bipush dX5_drawn_3 (v := 60) rfl (pc' := 5) rfl ?_
  refine S_stai ml_X5_54 ms_X5_outside dX5_drawn_5 [.int (a1 - 1), .int 60] rfl (fun v h2 q => c_X5_outside Z l _ _ _ q) ⟨Nat.le_of_ble_eq_true rfl, Nat.le_of_ble_eq_true rfl⟩ (rest := []) (Nat.le_of_ble_eq_true rfl) rfl (pc' := 8) rfl (fun x5 h5 => ?_)
  refine S_if_eq dX5_drawn_8 18 rfl (pc' := 11) rfl (fun g8 => ?_) (fun g8 => ?_)
  · refine S_aload_n dX5_drawn_18 rfl 0 rfl (pc' := 19) rfl ?_
    refine S_getR fl_X5_12 rfl dX5_drawn_19 (pc' := 22) rfl (fun x19 => ?_)
    refine S_getI fl_X5_112 rfl dX5_drawn_22 (pc' := 25) rfl (fun x22 => ?_)
    refine S_if_ne dX5_drawn_25 35 rfl (pc' := 28) rfl (fun g25 => ?_) (fun g25 => ?_)
    · refine S_iconst dX5_drawn_35 (v := 0) rfl (pc' := 36) rfl ?_
      refine S_istore_n dX5_drawn_36 rfl (by decide) (lo' := [(2, .int 0), (0, .ref (zb Z + t)), (1, .int a1)]) rfl (pc' := 37) rfl ?_
      refine S_iconst dX5_drawn_37 (v := 0) rfl (pc' := 38) rfl ?_
      refine S_istore_n dX5_drawn_38 rfl (by decide) (lo' := [(3, .int 0), (2, .int 0), (0, .ref (zb Z + t)), (1, .int a1)]) rfl (pc' := 39) rfl ?_
      refine Sim.sub [2, 3, 1, 0] rfl ?_
      refine lq_X5_drawn_39 Z l t a1 _ ?_ 1000 _ _ _
      intro b2_39 h39_
      refine S_iload_n dX5_drawn_60 rfl 0 rfl (pc' := 61) rfl ?_
      exact S_iret rfl dX5_drawn_61
    · refine S_aload_n dX5_drawn_28 rfl 0 rfl (pc' := 29) rfl ?_
      refine S_bipush dX5_drawn_29 (v := (-5)) rfl (pc' := 31) rfl ?_
      refine S_invi ml_X5_58 mi_X5_refuse (ci := 5) ⟨_, rfl, rfl⟩ (by decide) dX5_drawn_31 [.int (-5)] rfl (fun v h2 q => c_X5_refuse Z l _ _ _ q) ⟨Nat.le_of_ble_eq_true rfl, Nat.le_of_ble_eq_true rfl⟩ (rest := []) (Nat.le_of_ble_eq_true rfl) rfl (pc' := 34) rfl (fun x31 h31 => ?_)
      exact S_iret rfl dX5_drawn_34
  · refine S_aload_n dX5_drawn_11 rfl 0 rfl (pc' := 12) rfl ?_
    refine S_bipush dX5_drawn_12 (v := (-2)) rfl (pc' := 14) rfl ?_
    refine S_invi ml_X5_58 mi_X5_refuse (ci := 5) ⟨_, rfl, rfl⟩ (by decide) dX5_drawn_14 [.int (-2)] rfl (fun v h2 q => c_X5_refuse Z l _ _ _ q) ⟨Nat.le_of_ble_eq_true rfl, Nat.le_of_ble_eq_true rfl⟩ (rest := []) (Nat.le_of_ble_eq_true rfl) rfl (pc' := 17) rfl (fun x14 h14 => ?_)
    exact S_iret rfl dX5_drawn_17
theorem dX5_seed_0 : decode cX5_seed 0 = .ok (.aload_n 0, 1) := by decide +kernel
theorem dX5_seed_1 : decode cX5_seed 1 = .ok (.getfield 12, 3) := by decide +kernel
theorem dX5_seed_4 : decode cX5_seed 4 = .ok (.getfield 321, 3) := by decide +kernel
theorem dX5_seed_7 : decode cX5_seed 7 = .ok (.istore_n 2, 1) := by decide +kernel
theorem dX5_seed_8 : decode cX5_seed 8 = .ok (.aload_n 0, 1) := by decide +kernel
theorem dX5_seed_9 : decode cX5_seed 9 = .ok (.getfield 12, 3) := by decide +kernel
theorem dX5_seed_12 : decode cX5_seed 12 = .ok (.iload_n 1, 1) := by decide +kernel
theorem dX5_seed_13 : decode cX5_seed 13 = .ok (.putfield 321, 3) := by decide +kernel
theorem dX5_seed_16 : decode cX5_seed 16 = .ok (.iload_n 2, 1) := by decide +kernel
theorem dX5_seed_17 : decode cX5_seed 17 = .ok (.ireturn, 1) := by decide +kernel
set_option maxRecDepth 100000 in
set_option maxHeartbeats 4000000 in
theorem c_X5_seed (Z : ZZ) (l : Launch) (t : Nat) (a1 : Int32) (h : HP) {v : Int32} {h1 : HP} (ho : f_X5_seed t a1 h = some (v, h1)) : MetP Z l yX5_seed cX5_seed 3 (some .int) 0 0 [.ref (zb Z + t), .int a1] h (some (.int v)) h1 := by
  refine MetP_of ho (by decide +kernel) (Nat.le_of_ble_eq_true rfl) [(0, .ref (zb Z + t)), (1, .int a1)] rfl (own := RX5) rfl (nm := "seed") rfl ?_
  unfold f_X5_seed
  refine S_aload_n dX5_seed_0 rfl 0 rfl (pc' := 1) rfl ?_
  refine S_getR fl_X5_12 rfl dX5_seed_1 (pc' := 4) rfl (fun x1 => ?_)
  refine S_getI fl_X5_321 rfl dX5_seed_4 (pc' := 7) rfl (fun x4 => ?_)
  refine S_istore_n dX5_seed_7 rfl (by decide) (lo' := [(2, .int x4), (0, .ref (zb Z + t)), (1, .int a1)]) rfl (pc' := 8) rfl ?_
  refine S_aload_n dX5_seed_8 rfl 1 rfl (pc' := 9) rfl ?_
  refine S_getR fl_X5_12 rfl dX5_seed_9 (pc' := 12) rfl (fun x9 => ?_)
  refine S_iload_n dX5_seed_12 rfl 2 rfl (pc' := 13) rfl ?_
  refine S_putI fl_X5_321 (by decide) rfl dX5_seed_13 (pc' := 16) rfl (fun h13 => ?_)
  refine S_iload_n dX5_seed_16 rfl 0 rfl (pc' := 17) rfl ?_
  exact S_iret rfl dX5_seed_17
theorem dX5_image_0 : decode cX5_image 0 = .ok (.aload_n 0, 1) := by decide +kernel
theorem dX5_image_1 : decode cX5_image 1 = .ok (.getfield 16, 3) := by decide +kernel
theorem dX5_image_4 : decode cX5_image 4 = .ok (.aload_n 0, 1) := by decide +kernel
theorem dX5_image_5 : decode cX5_image 5 = .ok (.getfield 12, 3) := by decide +kernel
theorem dX5_image_8 : decode cX5_image 8 = .ok (.invokevirtual 177, 3) := by decide +kernel
theorem dX5_image_11 : decode cX5_image 11 = .ok (.aload_n 0, 1) := by decide +kernel
theorem dX5_image_12 : decode cX5_image 12 = .ok (.iconst 1, 1) := by decide +kernel
theorem dX5_image_13 : decode cX5_image 13 = .ok (.putfield 324, 3) := by decide +kernel
theorem dX5_image_16 : decode cX5_image 16 = .ok (.iconst 1, 1) := by decide +kernel
theorem dX5_image_17 : decode cX5_image 17 = .ok (.ireturn, 1) := by decide +kernel
set_option maxRecDepth 100000 in
set_option maxHeartbeats 4000000 in
theorem c_X5_image (Z : ZZ) (l : Launch) (t : Nat) (h : HP) {v : Int32} {h1 : HP} (ho : f_X5_image t h = some (v, h1)) : MetP Z l yX5_image cX5_image 1 (some .int) 2 47 [.ref (zb Z + t)] h (some (.int v)) h1 := by
  refine MetP_of ho (by decide +kernel) (Nat.le_of_ble_eq_true rfl) [(0, .ref (zb Z + t))] rfl (own := RX5) rfl (nm := "image") rfl ?_
  unfold f_X5_image
  refine S_aload_n dX5_image_0 rfl 0 rfl (pc' := 1) rfl ?_
  refine S_getR fl_X5_16 rfl dX5_image_1 (pc' := 4) rfl (fun x1 => ?_)
  refine S_aload_n dX5_image_4 rfl 0 rfl (pc' := 5) rfl ?_
  refine S_getR fl_X5_12 rfl dX5_image_5 (pc' := 8) rfl (fun x5 => ?_)
  refine S_invv ml_X5_177 mi_X0_become (ci := 0) ⟨_, rfl, rfl⟩ (by decide) dX5_image_8 [.ref (zb Z + x5)] rfl (fun v h2 q => c_X0_become Z l _ _ _ q) ⟨Nat.le_of_ble_eq_true rfl, Nat.le_of_ble_eq_true rfl⟩ (rest := []) (Nat.le_of_ble_eq_true rfl) rfl (pc' := 11) rfl (fun _ h8 => ?_)
  refine S_aload_n dX5_image_11 rfl 0 rfl (pc' := 12) rfl ?_
  refine S_iconst dX5_image_12 (v := 1) rfl (pc' := 13) rfl ?_
  refine S_putZ fl_X5_324 (by decide) rfl dX5_image_13 (pc' := 16) rfl (fun h13 => ?_)
  refine S_iconst dX5_image_16 (v := 1) rfl (pc' := 17) rfl ?_
  exact S_iret rfl dX5_image_17
theorem dX5_back_0 : decode cX5_back 0 = .ok (.aload_n 0, 1) := by decide +kernel
theorem dX5_back_1 : decode cX5_back 1 = .ok (.getfield 324, 3) := by decide +kernel
theorem dX5_back_4 : decode cX5_back 4 = .ok (.ifCond .ne 10, 3) := by decide +kernel
theorem dX5_back_7 : decode cX5_back 7 = .ok (.aload_n 0, 1) := by decide +kernel
theorem dX5_back_8 : decode cX5_back 8 = .ok (.bipush (-5), 2) := by decide +kernel
theorem dX5_back_10 : decode cX5_back 10 = .ok (.invokevirtual 58, 3) := by decide +kernel
theorem dX5_back_13 : decode cX5_back 13 = .ok (.ireturn, 1) := by decide +kernel
theorem dX5_back_14 : decode cX5_back 14 = .ok (.aload_n 0, 1) := by decide +kernel
theorem dX5_back_15 : decode cX5_back 15 = .ok (.getfield 12, 3) := by decide +kernel
theorem dX5_back_18 : decode cX5_back 18 = .ok (.aload_n 0, 1) := by decide +kernel
theorem dX5_back_19 : decode cX5_back 19 = .ok (.getfield 16, 3) := by decide +kernel
theorem dX5_back_22 : decode cX5_back 22 = .ok (.invokevirtual 177, 3) := by decide +kernel
theorem dX5_back_25 : decode cX5_back 25 = .ok (.iconst 0, 1) := by decide +kernel
theorem dX5_back_26 : decode cX5_back 26 = .ok (.istore_n 1, 1) := by decide +kernel
theorem dX5_back_27 : decode cX5_back 27 = .ok (.iload_n 1, 1) := by decide +kernel
theorem dX5_back_28 : decode cX5_back 28 = .ok (.bipush 8, 2) := by decide +kernel
theorem dX5_back_30 : decode cX5_back 30 = .ok (.if_icmp .ge 41, 3) := by decide +kernel
theorem dX5_back_33 : decode cX5_back 33 = .ok (.aload_n 0, 1) := by decide +kernel
theorem dX5_back_34 : decode cX5_back 34 = .ok (.getfield 45, 3) := by decide +kernel
theorem dX5_back_37 : decode cX5_back 37 = .ok (.iload_n 1, 1) := by decide +kernel
theorem dX5_back_38 : decode cX5_back 38 = .ok (.aaload, 1) := by decide +kernel
theorem dX5_back_39 : decode cX5_back 39 = .ok (.getfield 82, 3) := by decide +kernel
theorem dX5_back_42 : decode cX5_back 42 = .ok (.bipush 10, 2) := by decide +kernel
theorem dX5_back_44 : decode cX5_back 44 = .ok (.aload_n 0, 1) := by decide +kernel
theorem dX5_back_45 : decode cX5_back 45 = .ok (.getfield 12, 3) := by decide +kernel
theorem dX5_back_48 : decode cX5_back 48 = .ok (.getfield 112, 3) := by decide +kernel
theorem dX5_back_51 : decode cX5_back 51 = .ok (.iadd, 1) := by decide +kernel
theorem dX5_back_52 : decode cX5_back 52 = .ok (.if_icmp .lt 13, 3) := by decide +kernel
theorem dX5_back_55 : decode cX5_back 55 = .ok (.aload_n 0, 1) := by decide +kernel
theorem dX5_back_56 : decode cX5_back 56 = .ok (.getfield 45, 3) := by decide +kernel
theorem dX5_back_59 : decode cX5_back 59 = .ok (.iload_n 1, 1) := by decide +kernel
theorem dX5_back_60 : decode cX5_back 60 = .ok (.aaload, 1) := by decide +kernel
theorem dX5_back_61 : decode cX5_back 61 = .ok (.iconst (-1), 1) := by decide +kernel
theorem dX5_back_62 : decode cX5_back 62 = .ok (.putfield 82, 3) := by decide +kernel
theorem dX5_back_65 : decode cX5_back 65 = .ok (.iinc 1 1, 3) := by decide +kernel
theorem dX5_back_68 : decode cX5_back 68 = .ok (.goto (-41), 3) := by decide +kernel
theorem dX5_back_71 : decode cX5_back 71 = .ok (.iconst 1, 1) := by decide +kernel
theorem dX5_back_72 : decode cX5_back 72 = .ok (.ireturn, 1) := by decide +kernel
set_option maxRecDepth 100000 in
set_option maxHeartbeats 4000000 in
theorem lc_X5_back_27 (Z : ZZ) (l : Launch) (a0 : Nat) {args : Array Value} {h0 h1 : HP} {v0 : Int32} (K : HP → Option (Int32 × HP)) (F : Int32 → HP → Option (Int32 × HP))
    (hK : ∀ (h : HP), Sim Z l cX5_back RX5 2 2 47 (some .int) "back" args (Mq Z args h0 h1 (some (.int v0))) h0 h1 v0 71 [] [] h (K h))
    (hF : ∀ (b1 : Int32) (h : HP), Sim Z l cX5_back RX5 2 2 47 (some .int) "back" args (Mq Z args h0 h1 (some (.int v0))) h0 h1 v0 27 [(0, .ref (zb Z + a0)), (1, .int b1)] [] h (F b1 h)) :
    ∀ (b1 : Int32) (h : HP), Sim Z l cX5_back RX5 2 2 47 (some .int) "back" args (Mq Z args h0 h1 (some (.int v0))) h0 h1 v0 27 [(0, .ref (zb Z + a0)), (1, .int b1)] [] h (lb_X5_back_27 a0 K F b1 h) := by
  intro b1 h
  unfold lb_X5_back_27
  refine S_iload_n dX5_back_27 rfl 1 rfl (pc' := 28) rfl ?_
  refine S_bipush dX5_back_28 (v := 8) rfl (pc' := 30) rfl ?_
  refine S_icmp_ge dX5_back_30 71 rfl (pc' := 33) rfl (fun g30 => ?_) (fun g30 => ?_)
  · refine Sim.sub [] rfl ?_
    exact hK _
  · refine S_aload_n dX5_back_33 rfl 0 rfl (pc' := 34) rfl ?_
    refine S_getR fl_X5_45 rfl dX5_back_34 (pc' := 37) rfl (fun x34 => ?_)
    refine S_iload_n dX5_back_37 rfl 1 rfl (pc' := 38) rfl ?_
    refine S_aaloadS dX5_back_38 (pc' := 39) rfl (fun x38 => ?_)
    refine S_getI fl_X5_82 rfl dX5_back_39 (pc' := 42) rfl (fun x39 => ?_)
    refine S_bipush dX5_back_42 (v := 10) rfl (pc' := 44) rfl ?_
    refine S_aload_n dX5_back_44 rfl 0 rfl (pc' := 45) rfl ?_
    refine S_getR fl_X5_12 rfl dX5_back_45 (pc' := 48) rfl (fun x45 => ?_)
    refine S_getI fl_X5_112 rfl dX5_back_48 (pc' := 51) rfl (fun x48 => ?_)
    refine S_iadd dX5_back_51 (pc' := 52) rfl ?_
    refine S_icmp_lt dX5_back_52 65 rfl (pc' := 55) rfl (fun g52 => ?_) (fun g52 => ?_)
    · refine S_iinc dX5_back_65 (q := 1) rfl (v := b1 + 1) rfl (by decide) (lo' := [(1, .int (b1 + 1)), (0, .ref (zb Z + a0))]) rfl (pc' := 68) rfl ?_
      refine S_goto dX5_back_68 27 rfl ?_
      refine Sim.sub [1, 0] rfl ?_
      exact hF _ _
    · refine S_aload_n dX5_back_55 rfl 0 rfl (pc' := 56) rfl ?_
      refine S_getR fl_X5_45 rfl dX5_back_56 (pc' := 59) rfl (fun x56 => ?_)
      refine S_iload_n dX5_back_59 rfl 1 rfl (pc' := 60) rfl ?_
      refine S_aaloadS dX5_back_60 (pc' := 61) rfl (fun x60 => ?_)
      refine S_iconst dX5_back_61 (v := (-1)) rfl (pc' := 62) rfl ?_
      refine S_putI fl_X5_82 (by decide) rfl dX5_back_62 (pc' := 65) rfl (fun h62 => ?_)
      refine S_iinc dX5_back_65 (q := 1) rfl (v := b1 + 1) rfl (by decide) (lo' := [(1, .int (b1 + 1)), (0, .ref (zb Z + a0))]) rfl (pc' := 68) rfl ?_
      refine S_goto dX5_back_68 27 rfl ?_
      refine Sim.sub [1, 0] rfl ?_
      exact hF _ _
theorem lq_X5_back_27 (Z : ZZ) (l : Launch) (a0 : Nat) {args : Array Value} {h0 h1 : HP} {v0 : Int32} (K : HP → Option (Int32 × HP))
    (hK : ∀ (h : HP), Sim Z l cX5_back RX5 2 2 47 (some .int) "back" args (Mq Z args h0 h1 (some (.int v0))) h0 h1 v0 71 [] [] h (K h)) :
    ∀ (k : Nat) (b1 : Int32) (h : HP), Sim Z l cX5_back RX5 2 2 47 (some .int) "back" args (Mq Z args h0 h1 (some (.int v0))) h0 h1 v0 27 [(0, .ref (zb Z + a0)), (1, .int b1)] [] h (lp_X5_back_27 a0 K k b1 h) := by
  intro k
  induction k with
  | zero => exact fun _ _ => Sim.none
  | succ k ih => exact lc_X5_back_27 Z l a0 K _ hK ih
set_option maxRecDepth 100000 in
set_option maxHeartbeats 4000000 in
theorem c_X5_back (Z : ZZ) (l : Launch) (t : Nat) (h : HP) {v : Int32} {h1 : HP} (ho : f_X5_back t h = some (v, h1)) : MetP Z l yX5_back cX5_back 2 (some .int) 2 47 [.ref (zb Z + t)] h (some (.int v)) h1 := by
  refine MetP_of ho (by decide +kernel) (Nat.le_of_ble_eq_true rfl) [(0, .ref (zb Z + t))] rfl (own := RX5) rfl (nm := "back") rfl ?_
  unfold f_X5_back
  refine S_aload_n dX5_back_0 rfl 0 rfl (pc' := 1) rfl ?_
  refine S_getI fl_X5_324 rfl dX5_back_1 (pc' := 4) rfl (fun x1 => ?_)
  refine S_if_ne dX5_back_4 14 rfl (pc' := 7) rfl (fun g4 => ?_) (fun g4 => ?_)
  · refine S_aload_n dX5_back_14 rfl 0 rfl (pc' := 15) rfl ?_
    refine S_getR fl_X5_12 rfl dX5_back_15 (pc' := 18) rfl (fun x15 => ?_)
    refine S_aload_n dX5_back_18 rfl 0 rfl (pc' := 19) rfl ?_
    refine S_getR fl_X5_16 rfl dX5_back_19 (pc' := 22) rfl (fun x19 => ?_)
    refine S_invv ml_X5_177 mi_X0_become (ci := 0) ⟨_, rfl, rfl⟩ (by decide) dX5_back_22 [.ref (zb Z + x19)] rfl (fun v h2 q => c_X0_become Z l _ _ _ q) ⟨Nat.le_of_ble_eq_true rfl, Nat.le_of_ble_eq_true rfl⟩ (rest := []) (Nat.le_of_ble_eq_true rfl) rfl (pc' := 25) rfl (fun _ h22 => ?_)
    refine S_iconst dX5_back_25 (v := 0) rfl (pc' := 26) rfl ?_
    refine S_istore_n dX5_back_26 rfl (by decide) (lo' := [(1, .int 0), (0, .ref (zb Z + t))]) rfl (pc' := 27) rfl ?_
    refine Sim.sub [1, 0] rfl ?_
    refine lq_X5_back_27 Z l t _ ?_ 1000 _ _
    intro h27_
    refine S_iconst dX5_back_71 (v := 1) rfl (pc' := 72) rfl ?_
    exact S_iret rfl dX5_back_72
  · refine S_aload_n dX5_back_7 rfl 0 rfl (pc' := 8) rfl ?_
    refine S_bipush dX5_back_8 (v := (-5)) rfl (pc' := 10) rfl ?_
    refine S_invi ml_X5_58 mi_X5_refuse (ci := 5) ⟨_, rfl, rfl⟩ (by decide) dX5_back_10 [.int (-5)] rfl (fun v h2 q => c_X5_refuse Z l _ _ _ q) ⟨Nat.le_of_ble_eq_true rfl, Nat.le_of_ble_eq_true rfl⟩ (rest := []) (Nat.le_of_ble_eq_true rfl) rfl (pc' := 13) rfl (fun x10 h10 => ?_)
    exact S_iret rfl dX5_back_13
theorem dX5_filledShelves_0 : decode cX5_filledShelves 0 = .ok (.iconst 0, 1) := by decide +kernel
theorem dX5_filledShelves_1 : decode cX5_filledShelves 1 = .ok (.istore_n 1, 1) := by decide +kernel
theorem dX5_filledShelves_2 : decode cX5_filledShelves 2 = .ok (.iconst 0, 1) := by decide +kernel
theorem dX5_filledShelves_3 : decode cX5_filledShelves 3 = .ok (.istore_n 2, 1) := by decide +kernel
theorem dX5_filledShelves_4 : decode cX5_filledShelves 4 = .ok (.iload_n 2, 1) := by decide +kernel
theorem dX5_filledShelves_5 : decode cX5_filledShelves 5 = .ok (.bipush 8, 2) := by decide +kernel
theorem dX5_filledShelves_7 : decode cX5_filledShelves 7 = .ok (.if_icmp .ge 25, 3) := by decide +kernel
theorem dX5_filledShelves_10 : decode cX5_filledShelves 10 = .ok (.aload_n 0, 1) := by decide +kernel
theorem dX5_filledShelves_11 : decode cX5_filledShelves 11 = .ok (.getfield 45, 3) := by decide +kernel
theorem dX5_filledShelves_14 : decode cX5_filledShelves 14 = .ok (.iload_n 2, 1) := by decide +kernel
theorem dX5_filledShelves_15 : decode cX5_filledShelves 15 = .ok (.aaload, 1) := by decide +kernel
theorem dX5_filledShelves_16 : decode cX5_filledShelves 16 = .ok (.getfield 82, 3) := by decide +kernel
theorem dX5_filledShelves_19 : decode cX5_filledShelves 19 = .ok (.iconst (-1), 1) := by decide +kernel
theorem dX5_filledShelves_20 : decode cX5_filledShelves 20 = .ok (.if_icmp .eq 6, 3) := by decide +kernel
theorem dX5_filledShelves_23 : decode cX5_filledShelves 23 = .ok (.iinc 1 1, 3) := by decide +kernel
theorem dX5_filledShelves_26 : decode cX5_filledShelves 26 = .ok (.iinc 2 1, 3) := by decide +kernel
theorem dX5_filledShelves_29 : decode cX5_filledShelves 29 = .ok (.goto (-25), 3) := by decide +kernel
theorem dX5_filledShelves_32 : decode cX5_filledShelves 32 = .ok (.iload_n 1, 1) := by decide +kernel
theorem dX5_filledShelves_33 : decode cX5_filledShelves 33 = .ok (.ireturn, 1) := by decide +kernel
set_option maxRecDepth 100000 in
set_option maxHeartbeats 4000000 in
theorem lc_X5_filledShelves_4 (Z : ZZ) (l : Launch) (a0 : Nat) {args : Array Value} {h0 h1 : HP} {v0 : Int32} (K : Int32 → HP → Option (Int32 × HP)) (F : Int32 → Int32 → HP → Option (Int32 × HP))
    (hK : ∀ (b1 : Int32) (h : HP), Sim Z l cX5_filledShelves RX5 3 0 0 (some .int) "filledShelves" args (Mq Z args h0 h1 (some (.int v0))) h0 h1 v0 32 [(1, .int b1)] [] h (K b1 h))
    (hF : ∀ (b1 : Int32) (b2 : Int32) (h : HP), Sim Z l cX5_filledShelves RX5 3 0 0 (some .int) "filledShelves" args (Mq Z args h0 h1 (some (.int v0))) h0 h1 v0 4 [(0, .ref (zb Z + a0)), (1, .int b1), (2, .int b2)] [] h (F b1 b2 h)) :
    ∀ (b1 : Int32) (b2 : Int32) (h : HP), Sim Z l cX5_filledShelves RX5 3 0 0 (some .int) "filledShelves" args (Mq Z args h0 h1 (some (.int v0))) h0 h1 v0 4 [(0, .ref (zb Z + a0)), (1, .int b1), (2, .int b2)] [] h (lb_X5_filledShelves_4 a0 K F b1 b2 h) := by
  intro b1 b2 h
  unfold lb_X5_filledShelves_4
  refine S_iload_n dX5_filledShelves_4 rfl 2 rfl (pc' := 5) rfl ?_
  refine S_bipush dX5_filledShelves_5 (v := 8) rfl (pc' := 7) rfl ?_
  refine S_icmp_ge dX5_filledShelves_7 32 rfl (pc' := 10) rfl (fun g7 => ?_) (fun g7 => ?_)
  · refine Sim.sub [1] rfl ?_
    exact hK _ _
  · refine S_aload_n dX5_filledShelves_10 rfl 0 rfl (pc' := 11) rfl ?_
    refine S_getR fl_X5_45 rfl dX5_filledShelves_11 (pc' := 14) rfl (fun x11 => ?_)
    refine S_iload_n dX5_filledShelves_14 rfl 2 rfl (pc' := 15) rfl ?_
    refine S_aaloadS dX5_filledShelves_15 (pc' := 16) rfl (fun x15 => ?_)
    refine S_getI fl_X5_82 rfl dX5_filledShelves_16 (pc' := 19) rfl (fun x16 => ?_)
    refine S_iconst dX5_filledShelves_19 (v := (-1)) rfl (pc' := 20) rfl ?_
    refine S_icmp_eq dX5_filledShelves_20 26 rfl (pc' := 23) rfl (fun g20 => ?_) (fun g20 => ?_)
    · refine S_iinc dX5_filledShelves_26 (q := 2) rfl (v := b2 + 1) rfl (by decide) (lo' := [(2, .int (b2 + 1)), (0, .ref (zb Z + a0)), (1, .int b1)]) rfl (pc' := 29) rfl ?_
      refine S_goto dX5_filledShelves_29 4 rfl ?_
      refine Sim.sub [1, 2, 0] rfl ?_
      exact hF _ _ _
    · refine S_iinc dX5_filledShelves_23 (q := 1) rfl (v := b1 + 1) rfl (by decide) (lo' := [(1, .int (b1 + 1)), (0, .ref (zb Z + a0)), (2, .int b2)]) rfl (pc' := 26) rfl ?_
      refine S_iinc dX5_filledShelves_26 (q := 2) rfl (v := b2 + 1) rfl (by decide) (lo' := [(2, .int (b2 + 1)), (1, .int (b1 + 1)), (0, .ref (zb Z + a0))]) rfl (pc' := 29) rfl ?_
      refine S_goto dX5_filledShelves_29 4 rfl ?_
      refine Sim.sub [2, 1, 0] rfl ?_
      exact hF _ _ _
theorem lq_X5_filledShelves_4 (Z : ZZ) (l : Launch) (a0 : Nat) {args : Array Value} {h0 h1 : HP} {v0 : Int32} (K : Int32 → HP → Option (Int32 × HP))
    (hK : ∀ (b1 : Int32) (h : HP), Sim Z l cX5_filledShelves RX5 3 0 0 (some .int) "filledShelves" args (Mq Z args h0 h1 (some (.int v0))) h0 h1 v0 32 [(1, .int b1)] [] h (K b1 h)) :
    ∀ (k : Nat) (b1 : Int32) (b2 : Int32) (h : HP), Sim Z l cX5_filledShelves RX5 3 0 0 (some .int) "filledShelves" args (Mq Z args h0 h1 (some (.int v0))) h0 h1 v0 4 [(0, .ref (zb Z + a0)), (1, .int b1), (2, .int b2)] [] h (lp_X5_filledShelves_4 a0 K k b1 b2 h) := by
  intro k
  induction k with
  | zero => exact fun _ _ _ => Sim.none
  | succ k ih => exact lc_X5_filledShelves_4 Z l a0 K _ hK ih
set_option maxRecDepth 100000 in
set_option maxHeartbeats 4000000 in
theorem c_X5_filledShelves (Z : ZZ) (l : Launch) (t : Nat) (h : HP) {v : Int32} {h1 : HP} (ho : f_X5_filledShelves t h = some (v, h1)) : MetP Z l yX5_filledShelves cX5_filledShelves 3 (some .int) 0 0 [.ref (zb Z + t)] h (some (.int v)) h1 := by
  refine MetP_of ho (by decide +kernel) (Nat.le_of_ble_eq_true rfl) [(0, .ref (zb Z + t))] rfl (own := RX5) rfl (nm := "filledShelves") rfl ?_
  unfold f_X5_filledShelves
  refine S_iconst dX5_filledShelves_0 (v := 0) rfl (pc' := 1) rfl ?_
  refine S_istore_n dX5_filledShelves_1 rfl (by decide) (lo' := [(1, .int 0), (0, .ref (zb Z + t))]) rfl (pc' := 2) rfl ?_
  refine S_iconst dX5_filledShelves_2 (v := 0) rfl (pc' := 3) rfl ?_
  refine S_istore_n dX5_filledShelves_3 rfl (by decide) (lo' := [(2, .int 0), (1, .int 0), (0, .ref (zb Z + t))]) rfl (pc' := 4) rfl ?_
  refine Sim.sub [2, 1, 0] rfl ?_
  refine lq_X5_filledShelves_4 Z l t _ ?_ 1000 _ _ _
  intro b1_4 h4_
  refine S_iload_n dX5_filledShelves_32 rfl 0 rfl (pc' := 33) rfl ?_
  exact S_iret rfl dX5_filledShelves_33
theorem dX5_status_0 : decode cX5_status 0 = .ok (.iload_n 1, 1) := by decide +kernel
theorem dX5_status_1 : decode cX5_status 1 = .ok (.tableswitch 111 0 7 #[47, 55, 63, 71, 79, 90, 98, 106], 47) := by decide +kernel
theorem dX5_status_48 : decode cX5_status 48 = .ok (.aload_n 0, 1) := by decide +kernel
theorem dX5_status_49 : decode cX5_status 49 = .ok (.getfield 12, 3) := by decide +kernel
theorem dX5_status_52 : decode cX5_status 52 = .ok (.getfield 112, 3) := by decide +kernel
theorem dX5_status_55 : decode cX5_status 55 = .ok (.ireturn, 1) := by decide +kernel
theorem dX5_status_56 : decode cX5_status 56 = .ok (.aload_n 0, 1) := by decide +kernel
theorem dX5_status_57 : decode cX5_status 57 = .ok (.getfield 12, 3) := by decide +kernel
theorem dX5_status_60 : decode cX5_status 60 = .ok (.getfield 119, 3) := by decide +kernel
theorem dX5_status_63 : decode cX5_status 63 = .ok (.ireturn, 1) := by decide +kernel
theorem dX5_status_64 : decode cX5_status 64 = .ok (.aload_n 0, 1) := by decide +kernel
theorem dX5_status_65 : decode cX5_status 65 = .ok (.getfield 12, 3) := by decide +kernel
theorem dX5_status_68 : decode cX5_status 68 = .ok (.getfield 167, 3) := by decide +kernel
theorem dX5_status_71 : decode cX5_status 71 = .ok (.ireturn, 1) := by decide +kernel
theorem dX5_status_72 : decode cX5_status 72 = .ok (.aload_n 0, 1) := by decide +kernel
theorem dX5_status_73 : decode cX5_status 73 = .ok (.getfield 12, 3) := by decide +kernel
theorem dX5_status_76 : decode cX5_status 76 = .ok (.getfield 170, 3) := by decide +kernel
theorem dX5_status_79 : decode cX5_status 79 = .ok (.ireturn, 1) := by decide +kernel
theorem dX5_status_80 : decode cX5_status 80 = .ok (.aload_n 0, 1) := by decide +kernel
theorem dX5_status_81 : decode cX5_status 81 = .ok (.getfield 12, 3) := by decide +kernel
theorem dX5_status_84 : decode cX5_status 84 = .ok (.invokevirtual 207, 3) := by decide +kernel
theorem dX5_status_87 : decode cX5_status 87 = .ok (.invokestatic 313, 3) := by decide +kernel
theorem dX5_status_90 : decode cX5_status 90 = .ok (.ireturn, 1) := by decide +kernel
theorem dX5_status_91 : decode cX5_status 91 = .ok (.aload_n 0, 1) := by decide +kernel
theorem dX5_status_92 : decode cX5_status 92 = .ok (.getfield 39, 3) := by decide +kernel
theorem dX5_status_95 : decode cX5_status 95 = .ok (.getfield 173, 3) := by decide +kernel
theorem dX5_status_98 : decode cX5_status 98 = .ok (.ireturn, 1) := by decide +kernel
theorem dX5_status_99 : decode cX5_status 99 = .ok (.aload_n 0, 1) := by decide +kernel
theorem dX5_status_100 : decode cX5_status 100 = .ok (.getfield 12, 3) := by decide +kernel
theorem dX5_status_103 : decode cX5_status 103 = .ok (.getfield 321, 3) := by decide +kernel
theorem dX5_status_106 : decode cX5_status 106 = .ok (.ireturn, 1) := by decide +kernel
theorem dX5_status_107 : decode cX5_status 107 = .ok (.aload_n 0, 1) := by decide +kernel
theorem dX5_status_108 : decode cX5_status 108 = .ok (.invokevirtual 328, 3) := by decide +kernel
theorem dX5_status_111 : decode cX5_status 111 = .ok (.ireturn, 1) := by decide +kernel
theorem dX5_status_112 : decode cX5_status 112 = .ok (.iload_n 1, 1) := by decide +kernel
theorem dX5_status_113 : decode cX5_status 113 = .ok (.bipush 12, 2) := by decide +kernel
theorem dX5_status_115 : decode cX5_status 115 = .ok (.isub, 1) := by decide +kernel
theorem dX5_status_116 : decode cX5_status 116 = .ok (.iconst 5, 1) := by decide +kernel
theorem dX5_status_117 : decode cX5_status 117 = .ok (.invokestatic 54, 3) := by decide +kernel
theorem dX5_status_120 : decode cX5_status 120 = .ok (.ifCond .eq 7, 3) := by decide +kernel
theorem dX5_status_123 : decode cX5_status 123 = .ok (.iconst (-1), 1) := by decide +kernel
theorem dX5_status_124 : decode cX5_status 124 = .ok (.goto 12, 3) := by decide +kernel
theorem dX5_status_127 : decode cX5_status 127 = .ok (.aload_n 0, 1) := by decide +kernel
theorem dX5_status_128 : decode cX5_status 128 = .ok (.getfield 49, 3) := by decide +kernel
theorem dX5_status_131 : decode cX5_status 131 = .ok (.iload_n 1, 1) := by decide +kernel
theorem dX5_status_132 : decode cX5_status 132 = .ok (.bipush 12, 2) := by decide +kernel
theorem dX5_status_134 : decode cX5_status 134 = .ok (.isub, 1) := by decide +kernel
theorem dX5_status_135 : decode cX5_status 135 = .ok (.iaload, 1) := by decide +kernel
theorem dX5_status_136 : decode cX5_status 136 = .ok (.ireturn, 1) := by decide +kernel
set_option maxRecDepth 100000 in
set_option maxHeartbeats 4000000 in
theorem c_X5_status (Z : ZZ) (l : Launch) (t : Nat) (a1 : Int32) (h : HP) {v : Int32} {h1 : HP} (ho : f_X5_status t a1 h = some (v, h1)) : MetP Z l yX5_status cX5_status 2 (some .int) 3 67 [.ref (zb Z + t), .int a1] h (some (.int v)) h1 := by
  refine MetP_of ho (by decide +kernel) (Nat.le_of_ble_eq_true rfl) [(0, .ref (zb Z + t)), (1, .int a1)] rfl (own := RX5) rfl (nm := "status") rfl ?_
  unfold f_X5_status
  refine S_iload_n dX5_status_0 rfl 1 rfl (pc' := 1) rfl ?_
  refine Sim.ite (fun g1_0 => ?_) (fun g1_0 => ?_)
  · refine S_tabIn dX5_status_1 g1_0 0 rfl (by decide) (off := 47) rfl 48 rfl ?_
    refine S_aload_n dX5_status_48 rfl 0 rfl (pc' := 49) rfl ?_
    refine S_getR fl_X5_12 rfl dX5_status_49 (pc' := 52) rfl (fun x49 => ?_)
    refine S_getI fl_X5_112 rfl dX5_status_52 (pc' := 55) rfl (fun x52 => ?_)
    exact S_iret rfl dX5_status_55
  refine Sim.ite (fun g1_1 => ?_) (fun g1_1 => ?_)
  · refine S_tabIn dX5_status_1 g1_1 1 rfl (by decide) (off := 55) rfl 56 rfl ?_
    refine S_aload_n dX5_status_56 rfl 0 rfl (pc' := 57) rfl ?_
    refine S_getR fl_X5_12 rfl dX5_status_57 (pc' := 60) rfl (fun x57 => ?_)
    refine S_getI fl_X5_119 rfl dX5_status_60 (pc' := 63) rfl (fun x60 => ?_)
    exact S_iret rfl dX5_status_63
  refine Sim.ite (fun g1_2 => ?_) (fun g1_2 => ?_)
  · refine S_tabIn dX5_status_1 g1_2 2 rfl (by decide) (off := 63) rfl 64 rfl ?_
    refine S_aload_n dX5_status_64 rfl 0 rfl (pc' := 65) rfl ?_
    refine S_getR fl_X5_12 rfl dX5_status_65 (pc' := 68) rfl (fun x65 => ?_)
    refine S_getI fl_X5_167 rfl dX5_status_68 (pc' := 71) rfl (fun x68 => ?_)
    exact S_iret rfl dX5_status_71
  refine Sim.ite (fun g1_3 => ?_) (fun g1_3 => ?_)
  · refine S_tabIn dX5_status_1 g1_3 3 rfl (by decide) (off := 71) rfl 72 rfl ?_
    refine S_aload_n dX5_status_72 rfl 0 rfl (pc' := 73) rfl ?_
    refine S_getR fl_X5_12 rfl dX5_status_73 (pc' := 76) rfl (fun x73 => ?_)
    refine S_getI fl_X5_170 rfl dX5_status_76 (pc' := 79) rfl (fun x76 => ?_)
    exact S_iret rfl dX5_status_79
  refine Sim.ite (fun g1_4 => ?_) (fun g1_4 => ?_)
  · refine S_tabIn dX5_status_1 g1_4 4 rfl (by decide) (off := 79) rfl 80 rfl ?_
    refine S_aload_n dX5_status_80 rfl 0 rfl (pc' := 81) rfl ?_
    refine S_getR fl_X5_12 rfl dX5_status_81 (pc' := 84) rfl (fun x81 => ?_)
    refine S_invi ml_X5_207 mi_X0_knownSongs (ci := 0) ⟨_, rfl, rfl⟩ (by decide) dX5_status_84 [] rfl (fun v h2 q => c_X0_knownSongs Z l _ _ q) ⟨Nat.le_of_ble_eq_true rfl, Nat.le_of_ble_eq_true rfl⟩ (rest := []) (Nat.le_of_ble_eq_true rfl) rfl (pc' := 87) rfl (fun x84 h84 => ?_)
    refine S_stai ml_X5_313 ms_J6_bitCount_0f7a4 dX5_status_87 [.int x84] rfl (fun v h2 q => c_J6_bitCount_0f7a4 Z l _ _ q) ⟨Nat.le_of_ble_eq_true rfl, Nat.le_of_ble_eq_true rfl⟩ (rest := []) (Nat.le_of_ble_eq_true rfl) rfl (pc' := 90) rfl (fun x87 h87 => ?_)
    exact S_iret rfl dX5_status_90
  refine Sim.ite (fun g1_5 => ?_) (fun g1_5 => ?_)
  · refine S_tabIn dX5_status_1 g1_5 5 rfl (by decide) (off := 90) rfl 91 rfl ?_
    refine S_aload_n dX5_status_91 rfl 0 rfl (pc' := 92) rfl ?_
    refine S_getR fl_X5_39 rfl dX5_status_92 (pc' := 95) rfl (fun x92 => ?_)
    refine S_getI fl_X5_173 rfl dX5_status_95 (pc' := 98) rfl (fun x95 => ?_)
    exact S_iret rfl dX5_status_98
  refine Sim.ite (fun g1_6 => ?_) (fun g1_6 => ?_)
  · refine S_tabIn dX5_status_1 g1_6 6 rfl (by decide) (off := 98) rfl 99 rfl ?_
    refine S_aload_n dX5_status_99 rfl 0 rfl (pc' := 100) rfl ?_
    refine S_getR fl_X5_12 rfl dX5_status_100 (pc' := 103) rfl (fun x100 => ?_)
    refine S_getI fl_X5_321 rfl dX5_status_103 (pc' := 106) rfl (fun x103 => ?_)
    exact S_iret rfl dX5_status_106
  refine Sim.ite (fun g1_7 => ?_) (fun g1_7 => ?_)
  · refine S_tabIn dX5_status_1 g1_7 7 rfl (by decide) (off := 106) rfl 107 rfl ?_
    refine S_aload_n dX5_status_107 rfl 0 rfl (pc' := 108) rfl ?_
    refine S_invi ml_X5_328 mi_X5_filledShelves (ci := 5) ⟨_, rfl, rfl⟩ (by decide) dX5_status_108 [] rfl (fun v h2 q => c_X5_filledShelves Z l _ _ q) ⟨Nat.le_of_ble_eq_true rfl, Nat.le_of_ble_eq_true rfl⟩ (rest := []) (Nat.le_of_ble_eq_true rfl) rfl (pc' := 111) rfl (fun x108 h108 => ?_)
    exact S_iret rfl dX5_status_111
  refine S_tabOut dX5_status_1 (by
      have q0 := i32_ne g1_0
      have q1 := i32_ne g1_1
      have q2 := i32_ne g1_2
      have q3 := i32_ne g1_3
      have q4 := i32_ne g1_4
      have q5 := i32_ne g1_5
      have q6 := i32_ne g1_6
      have q7 := i32_ne g1_7
      simp only [show Int32.toInt 0 = 0 from rfl, show Int32.toInt 1 = 1 from rfl, show Int32.toInt 2 = 2 from rfl, show Int32.toInt 3 = 3 from rfl, show Int32.toInt 4 = 4 from rfl, show Int32.toInt 5 = 5 from rfl, show Int32.toInt 6 = 6 from rfl, show Int32.toInt 7 = 7 from rfl] at q0 q1 q2 q3 q4 q5 q6 q7
      omega) 112 rfl ?_
  refine S_iload_n dX5_status_112 rfl 1 rfl (pc' := 113) rfl ?_
  refine S_bipush dX5_status_113 (v := 12) rfl (pc' := 115) rfl ?_
  refine S_isub dX5_status_115 (pc' := 116) rfl ?_
  refine S_iconst dX5_status_116 (v := 5) rfl (pc' := 117) rfl ?_
  refine S_stai ml_X5_54 ms_X5_outside dX5_status_117 [.int (a1 - 12), .int 5] rfl (fun v h2 q => c_X5_outside Z l _ _ _ q) ⟨Nat.le_of_ble_eq_true rfl, Nat.le_of_ble_eq_true rfl⟩ (rest := []) (Nat.le_of_ble_eq_true rfl) rfl (pc' := 120) rfl (fun x117 h117 => ?_)
  refine S_if_eq dX5_status_120 127 rfl (pc' := 123) rfl (fun g120 => ?_) (fun g120 => ?_)
  · refine S_aload_n dX5_status_127 rfl 0 rfl (pc' := 128) rfl ?_
    refine S_getR fl_X5_49 rfl dX5_status_128 (pc' := 131) rfl (fun x128 => ?_)
    refine S_iload_n dX5_status_131 rfl 1 rfl (pc' := 132) rfl ?_
    refine S_bipush dX5_status_132 (v := 12) rfl (pc' := 134) rfl ?_
    refine S_isub dX5_status_134 (pc' := 135) rfl ?_
    refine S_iaload dX5_status_135 (pc' := 136) rfl (fun x135 => ?_)
    exact S_iret rfl dX5_status_136
  · refine S_iconst dX5_status_123 (v := (-1)) rfl (pc' := 124) rfl ?_
    refine S_goto dX5_status_124 136 rfl ?_
    exact S_iret rfl dX5_status_136
