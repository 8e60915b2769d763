theorem dX2_init_0 : decode cX2_init 0 = .ok (.aload_n 0, 1) := by decide +kernel
theorem dX2_init_1 : decode cX2_init 1 = .ok (.invokespecial 3, 3) := by decide +kernel
theorem dX2_init_4 : decode cX2_init 4 = .ok (.aload_n 0, 1) := by decide +kernel
theorem dX2_init_5 : decode cX2_init 5 = .ok (.sipush 250, 3) := by decide +kernel
theorem dX2_init_8 : decode cX2_init 8 = .ok (.newarray .int, 2) := by decide +kernel
theorem dX2_init_10 : decode cX2_init 10 = .ok (.putfield 9, 3) := by decide +kernel
theorem dX2_init_13 : decode cX2_init 13 = .ok (.aload_n 0, 1) := by decide +kernel
theorem dX2_init_14 : decode cX2_init 14 = .ok (.iconst 4, 1) := by decide +kernel
theorem dX2_init_15 : decode cX2_init 15 = .ok (.newarray .int, 2) := by decide +kernel
theorem dX2_init_17 : decode cX2_init 17 = .ok (.putfield 15, 3) := by decide +kernel
theorem dX2_init_20 : decode cX2_init 20 = .ok (.return_, 1) := by decide +kernel
set_option maxRecDepth 100000 in
set_option maxHeartbeats 4000000 in
theorem c_X2_init (Z : ZZ) (l : Launch) (t : Nat) (h : HP) {v : Unit} {h1 : HP} (ho : f_X2_init t h = some (v, h1)) : MetP Z l yX2_init cX2_init 1 (none) 1 20 [.ref (zb Z + t)] h (none) h1 := by
  refine MetP_of ho (by decide +kernel) (Nat.le_of_ble_eq_true rfl) [(0, .ref (zb Z + t))] rfl (own := RX2) rfl (nm := "<init>") rfl ?_
  unfold f_X2_init
  refine S_aload_n dX2_init_0 rfl 0 rfl (pc' := 1) rfl ?_
  refine S_obj ob_X2_3 ob_i ob_c dX2_init_1 ⟨Nat.le_of_ble_eq_true rfl, Nat.le_of_ble_eq_true rfl⟩ (pc' := 4) rfl ?_
  refine S_aload_n dX2_init_4 rfl 0 rfl (pc' := 5) rfl ?_
  refine S_sipush dX2_init_5 (v := 250) rfl (pc' := 8) rfl ?_
  refine S_newarr 7 0 .int rfl (Or.inl ⟨rfl, rfl⟩) ac_int dX2_init_8 (pc' := 10) rfl (fun x8 h8 => ?_)
  refine S_putR fl_X2_9 (Or.inr ⟨_, rfl⟩) (fun _ => ⟨rfl, rfl, _, _, rfl⟩) (by decide) rfl dX2_init_10 (pc' := 13) rfl (fun h10 => ?_)
  refine S_aload_n dX2_init_13 rfl 0 rfl (pc' := 14) rfl ?_
  refine S_iconst dX2_init_14 (v := 4) rfl (pc' := 15) rfl ?_
  refine S_newarr 7 0 .int rfl (Or.inl ⟨rfl, rfl⟩) ac_int dX2_init_15 (pc' := 17) rfl (fun x15 h15 => ?_)
  refine S_putR fl_X2_15 (Or.inr ⟨_, rfl⟩) (fun _ => ⟨rfl, rfl, _, _, rfl⟩) (by decide) rfl dX2_init_17 (pc' := 20) rfl (fun h17 => ?_)
  exact S_vret rfl dX2_init_20
theorem dX2_append_0 : decode cX2_append 0 = .ok (.aload_n 0, 1) := by decide +kernel
theorem dX2_append_1 : decode cX2_append 1 = .ok (.getfield 9, 3) := by decide +kernel
theorem dX2_append_4 : decode cX2_append 4 = .ok (.aload_n 0, 1) := by decide +kernel
theorem dX2_append_5 : decode cX2_append 5 = .ok (.getfield 18, 3) := by decide +kernel
theorem dX2_append_8 : decode cX2_append 8 = .ok (.iload_n 1, 1) := by decide +kernel
theorem dX2_append_9 : decode cX2_append 9 = .ok (.iastore, 1) := by decide +kernel
theorem dX2_append_10 : decode cX2_append 10 = .ok (.aload_n 0, 1) := by decide +kernel
theorem dX2_append_11 : decode cX2_append 11 = .ok (.dup, 1) := by decide +kernel
theorem dX2_append_12 : decode cX2_append 12 = .ok (.getfield 18, 3) := by decide +kernel
theorem dX2_append_15 : decode cX2_append 15 = .ok (.iconst 1, 1) := by decide +kernel
theorem dX2_append_16 : decode cX2_append 16 = .ok (.iadd, 1) := by decide +kernel
theorem dX2_append_17 : decode cX2_append 17 = .ok (.putfield 18, 3) := by decide +kernel
theorem dX2_append_20 : decode cX2_append 20 = .ok (.aload_n 0, 1) := by decide +kernel
theorem dX2_append_21 : decode cX2_append 21 = .ok (.getfield 18, 3) := by decide +kernel
theorem dX2_append_24 : decode cX2_append 24 = .ok (.ireturn, 1) := by decide +kernel
set_option maxRecDepth 100000 in
set_option maxHeartbeats 4000000 in
theorem c_X2_append (Z : ZZ) (l : Launch) (t : Nat) (a1 : Int32) (h : HP) {v : Int32} {h1 : HP} (ho : f_X2_append t a1 h = some (v, h1)) : MetP Z l yX2_append cX2_append 2 (some .int) 0 0 [.ref (zb Z + t), .int a1] h (some (.int v)) h1 := by
  refine MetP_of ho (by decide +kernel) (Nat.le_of_ble_eq_true rfl) [(0, .ref (zb Z + t)), (1, .int a1)] rfl (own := RX2) rfl (nm := "append") rfl ?_
  unfold f_X2_append
  refine S_aload_n dX2_append_0 rfl 0 rfl (pc' := 1) rfl ?_
  refine S_getR fl_X2_9 rfl dX2_append_1 (pc' := 4) rfl (fun x1 => ?_)
  refine S_aload_n dX2_append_4 rfl 0 rfl (pc' := 5) rfl ?_
  refine S_getI fl_X2_18 rfl dX2_append_5 (pc' := 8) rfl (fun x5 => ?_)
  refine S_iload_n dX2_append_8 rfl 1 rfl (pc' := 9) rfl ?_
  refine S_iastore dX2_append_9 (pc' := 10) rfl (fun h9 => ?_)
  refine S_aload_n dX2_append_10 rfl 0 rfl (pc' := 11) rfl ?_
  refine S_dup dX2_append_11 rfl (pc' := 12) rfl ?_
  refine S_getI fl_X2_18 rfl dX2_append_12 (pc' := 15) rfl (fun x12 => ?_)
  refine S_iconst dX2_append_15 (v := 1) rfl (pc' := 16) rfl ?_
  refine S_iadd dX2_append_16 (pc' := 17) rfl ?_
  refine S_putI fl_X2_18 (by decide) rfl dX2_append_17 (pc' := 20) rfl (fun h17 => ?_)
  refine S_aload_n dX2_append_20 rfl 0 rfl (pc' := 21) rfl ?_
  refine S_getI fl_X2_18 rfl dX2_append_21 (pc' := 24) rfl (fun x21 => ?_)
  exact S_iret rfl dX2_append_24
theorem dX2_isLetter_0 : decode cX2_isLetter 0 = .ok (.iload_n 0, 1) := by decide +kernel
theorem dX2_isLetter_1 : decode cX2_isLetter 1 = .ok (.bipush 97, 2) := by decide +kernel
theorem dX2_isLetter_3 : decode cX2_isLetter 3 = .ok (.if_icmp .lt 13, 3) := by decide +kernel
theorem dX2_isLetter_6 : decode cX2_isLetter 6 = .ok (.iload_n 0, 1) := by decide +kernel
theorem dX2_isLetter_7 : decode cX2_isLetter 7 = .ok (.bipush 122, 2) := by decide +kernel
theorem dX2_isLetter_9 : decode cX2_isLetter 9 = .ok (.if_icmp .gt 7, 3) := by decide +kernel
theorem dX2_isLetter_12 : decode cX2_isLetter 12 = .ok (.iconst 1, 1) := by decide +kernel
theorem dX2_isLetter_13 : decode cX2_isLetter 13 = .ok (.goto 4, 3) := by decide +kernel
theorem dX2_isLetter_16 : decode cX2_isLetter 16 = .ok (.iconst 0, 1) := by decide +kernel
theorem dX2_isLetter_17 : decode cX2_isLetter 17 = .ok (.ireturn, 1) := by decide +kernel
set_option maxRecDepth 100000 in
set_option maxHeartbeats 4000000 in
theorem c_X2_isLetter (Z : ZZ) (l : Launch) (a0 : Int32) (h : HP) {v : Int32} {h1 : HP} (ho : f_X2_isLetter a0 h = some (v, h1)) : MetP Z l yX2_isLetter cX2_isLetter 1 (some .boolean) 0 0 [.int a0] h (some (.int v)) h1 := by
  refine MetP_of ho (by decide +kernel) (Nat.le_of_ble_eq_true rfl) [(0, .int a0)] rfl (own := RX2) rfl (nm := "isLetter") rfl ?_
  unfold f_X2_isLetter
  refine S_iload_n dX2_isLetter_0 rfl 0 rfl (pc' := 1) rfl ?_
  refine S_bipush dX2_isLetter_1 (v := 97) rfl (pc' := 3) rfl ?_
  refine S_icmp_lt dX2_isLetter_3 16 rfl (pc' := 6) rfl (fun g3 => ?_) (fun g3 => ?_)
  · refine S_iconst dX2_isLetter_16 (v := 0) rfl (pc' := 17) rfl ?_
    exact S_zret rfl dX2_isLetter_17
  · refine S_iload_n dX2_isLetter_6 rfl 0 rfl (pc' := 7) rfl ?_
    refine S_bipush dX2_isLetter_7 (v := 122) rfl (pc' := 9) rfl ?_
    refine S_icmp_gt dX2_isLetter_9 16 rfl (pc' := 12) rfl (fun g9 => ?_) (fun g9 => ?_)
    · refine S_iconst dX2_isLetter_16 (v := 0) rfl (pc' := 17) rfl ?_
      exact S_zret rfl dX2_isLetter_17
    · refine S_iconst dX2_isLetter_12 (v := 1) rfl (pc' := 13) rfl ?_
      refine S_goto dX2_isLetter_13 17 rfl ?_
      exact S_zret rfl dX2_isLetter_17
theorem dX2_isDigit_0 : decode cX2_isDigit 0 = .ok (.iload_n 0, 1) := by decide +kernel
theorem dX2_isDigit_1 : decode cX2_isDigit 1 = .ok (.bipush 48, 2) := by decide +kernel
theorem dX2_isDigit_3 : decode cX2_isDigit 3 = .ok (.if_icmp .lt 13, 3) := by decide +kernel
theorem dX2_isDigit_6 : decode cX2_isDigit 6 = .ok (.iload_n 0, 1) := by decide +kernel
theorem dX2_isDigit_7 : decode cX2_isDigit 7 = .ok (.bipush 57, 2) := by decide +kernel
theorem dX2_isDigit_9 : decode cX2_isDigit 9 = .ok (.if_icmp .gt 7, 3) := by decide +kernel
theorem dX2_isDigit_12 : decode cX2_isDigit 12 = .ok (.iconst 1, 1) := by decide +kernel
theorem dX2_isDigit_13 : decode cX2_isDigit 13 = .ok (.goto 4, 3) := by decide +kernel
theorem dX2_isDigit_16 : decode cX2_isDigit 16 = .ok (.iconst 0, 1) := by decide +kernel
theorem dX2_isDigit_17 : decode cX2_isDigit 17 = .ok (.ireturn, 1) := by decide +kernel
set_option maxRecDepth 100000 in
set_option maxHeartbeats 4000000 in
theorem c_X2_isDigit (Z : ZZ) (l : Launch) (a0 : Int32) (h : HP) {v : Int32} {h1 : HP} (ho : f_X2_isDigit a0 h = some (v, h1)) : MetP Z l yX2_isDigit cX2_isDigit 1 (some .boolean) 0 0 [.int a0] h (some (.int v)) h1 := by
  refine MetP_of ho (by decide +kernel) (Nat.le_of_ble_eq_true rfl) [(0, .int a0)] rfl (own := RX2) rfl (nm := "isDigit") rfl ?_
  unfold f_X2_isDigit
  refine S_iload_n dX2_isDigit_0 rfl 0 rfl (pc' := 1) rfl ?_
  refine S_bipush dX2_isDigit_1 (v := 48) rfl (pc' := 3) rfl ?_
  refine S_icmp_lt dX2_isDigit_3 16 rfl (pc' := 6) rfl (fun g3 => ?_) (fun g3 => ?_)
  · refine S_iconst dX2_isDigit_16 (v := 0) rfl (pc' := 17) rfl ?_
    exact S_zret rfl dX2_isDigit_17
  · refine S_iload_n dX2_isDigit_6 rfl 0 rfl (pc' := 7) rfl ?_
    refine S_bipush dX2_isDigit_7 (v := 57) rfl (pc' := 9) rfl ?_
    refine S_icmp_gt dX2_isDigit_9 16 rfl (pc' := 12) rfl (fun g9 => ?_) (fun g9 => ?_)
    · refine S_iconst dX2_isDigit_16 (v := 0) rfl (pc' := 17) rfl ?_
      exact S_zret rfl dX2_isDigit_17
    · refine S_iconst dX2_isDigit_12 (v := 1) rfl (pc' := 13) rfl ?_
      refine S_goto dX2_isDigit_13 17 rfl ?_
      exact S_zret rfl dX2_isDigit_17
theorem dX2_readNumber_0 : decode cX2_readNumber 0 = .ok (.aload_n 0, 1) := by decide +kernel
theorem dX2_readNumber_1 : decode cX2_readNumber 1 = .ok (.iconst 0, 1) := by decide +kernel
theorem dX2_readNumber_2 : decode cX2_readNumber 2 = .ok (.putfield 47, 3) := by decide +kernel
theorem dX2_readNumber_5 : decode cX2_readNumber 5 = .ok (.aload_n 0, 1) := by decide +kernel
theorem dX2_readNumber_6 : decode cX2_readNumber 6 = .ok (.getfield 22, 3) := by decide +kernel
theorem dX2_readNumber_9 : decode cX2_readNumber 9 = .ok (.aload_n 0, 1) := by decide +kernel
theorem dX2_readNumber_10 : decode cX2_readNumber 10 = .ok (.getfield 18, 3) := by decide +kernel
theorem dX2_readNumber_13 : decode cX2_readNumber 13 = .ok (.if_icmp .ge 74, 3) := by decide +kernel
theorem dX2_readNumber_16 : decode cX2_readNumber 16 = .ok (.aload_n 0, 1) := by decide +kernel
theorem dX2_readNumber_17 : decode cX2_readNumber 17 = .ok (.getfield 9, 3) := by decide +kernel
theorem dX2_readNumber_20 : decode cX2_readNumber 20 = .ok (.aload_n 0, 1) := by decide +kernel
theorem dX2_readNumber_21 : decode cX2_readNumber 21 = .ok (.getfield 22, 3) := by decide +kernel
theorem dX2_readNumber_24 : decode cX2_readNumber 24 = .ok (.iaload, 1) := by decide +kernel
theorem dX2_readNumber_25 : decode cX2_readNumber 25 = .ok (.invokestatic 65, 3) := by decide +kernel
theorem dX2_readNumber_28 : decode cX2_readNumber 28 = .ok (.ifCond .eq 59, 3) := by decide +kernel
theorem dX2_readNumber_31 : decode cX2_readNumber 31 = .ok (.aload_n 0, 1) := by decide +kernel
theorem dX2_readNumber_32 : decode cX2_readNumber 32 = .ok (.aload_n 0, 1) := by decide +kernel
theorem dX2_readNumber_33 : decode cX2_readNumber 33 = .ok (.getfield 22, 3) := by decide +kernel
theorem dX2_readNumber_36 : decode cX2_readNumber 36 = .ok (.aload_n 0, 1) := by decide +kernel
theorem dX2_readNumber_37 : decode cX2_readNumber 37 = .ok (.getfield 58, 3) := by decide +kernel
theorem dX2_readNumber_40 : decode cX2_readNumber 40 = .ok (.isub, 1) := by decide +kernel
theorem dX2_readNumber_41 : decode cX2_readNumber 41 = .ok (.iconst 3, 1) := by decide +kernel
theorem dX2_readNumber_42 : decode cX2_readNumber 42 = .ok (.if_icmp .ge 26, 3) := by decide +kernel
theorem dX2_readNumber_45 : decode cX2_readNumber 45 = .ok (.aload_n 0, 1) := by decide +kernel
theorem dX2_readNumber_46 : decode cX2_readNumber 46 = .ok (.getfield 47, 3) := by decide +kernel
theorem dX2_readNumber_49 : decode cX2_readNumber 49 = .ok (.bipush 10, 2) := by decide +kernel
theorem dX2_readNumber_51 : decode cX2_readNumber 51 = .ok (.imul, 1) := by decide +kernel
theorem dX2_readNumber_52 : decode cX2_readNumber 52 = .ok (.aload_n 0, 1) := by decide +kernel
theorem dX2_readNumber_53 : decode cX2_readNumber 53 = .ok (.getfield 9, 3) := by decide +kernel
theorem dX2_readNumber_56 : decode cX2_readNumber 56 = .ok (.aload_n 0, 1) := by decide +kernel
theorem dX2_readNumber_57 : decode cX2_readNumber 57 = .ok (.getfield 22, 3) := by decide +kernel
theorem dX2_readNumber_60 : decode cX2_readNumber 60 = .ok (.iaload, 1) := by decide +kernel
theorem dX2_readNumber_61 : decode cX2_readNumber 61 = .ok (.iadd, 1) := by decide +kernel
theorem dX2_readNumber_62 : decode cX2_readNumber 62 = .ok (.bipush 48, 2) := by decide +kernel
theorem dX2_readNumber_64 : decode cX2_readNumber 64 = .ok (.isub, 1) := by decide +kernel
theorem dX2_readNumber_65 : decode cX2_readNumber 65 = .ok (.goto 6, 3) := by decide +kernel
theorem dX2_readNumber_68 : decode cX2_readNumber 68 = .ok (.sipush 1000, 3) := by decide +kernel
theorem dX2_readNumber_71 : decode cX2_readNumber 71 = .ok (.putfield 47, 3) := by decide +kernel
theorem dX2_readNumber_74 : decode cX2_readNumber 74 = .ok (.aload_n 0, 1) := by decide +kernel
theorem dX2_readNumber_75 : decode cX2_readNumber 75 = .ok (.dup, 1) := by decide +kernel
theorem dX2_readNumber_76 : decode cX2_readNumber 76 = .ok (.getfield 22, 3) := by decide +kernel
theorem dX2_readNumber_79 : decode cX2_readNumber 79 = .ok (.iconst 1, 1) := by decide +kernel
theorem dX2_readNumber_80 : decode cX2_readNumber 80 = .ok (.iadd, 1) := by decide +kernel
theorem dX2_readNumber_81 : decode cX2_readNumber 81 = .ok (.putfield 22, 3) := by decide +kernel
theorem dX2_readNumber_84 : decode cX2_readNumber 84 = .ok (.goto (-79), 3) := by decide +kernel
theorem dX2_readNumber_87 : decode cX2_readNumber 87 = .ok (.return_, 1) := by decide +kernel
set_option maxRecDepth 100000 in
set_option maxHeartbeats 4000000 in
theorem lc_X2_readNumber_5 (Z : ZZ) (l : Launch) (a0 : Nat) {args : Array Value} {h0 h1 : HP} {v0 : Unit} (K : HP → Option (Unit × HP)) (F : HP → Option (Unit × HP))
    (hK : ∀ (h : HP), Sim Z l cX2_readNumber RX2 1 1 20 (none) "readNumber" args (Mq Z args h0 h1 (none)) h0 h1 v0 87 [] [] h (K h))
    (hF : ∀ (h : HP), Sim Z l cX2_readNumber RX2 1 1 20 (none) "readNumber" args (Mq Z args h0 h1 (none)) h0 h1 v0 5 [(0, .ref (zb Z + a0))] [] h (F h)) :
    ∀ (h : HP), Sim Z l cX2_readNumber RX2 1 1 20 (none) "readNumber" args (Mq Z args h0 h1 (none)) h0 h1 v0 5 [(0, .ref (zb Z + a0))] [] h (lb_X2_readNumber_5 a0 K F h) := by
  intro h
  unfold lb_X2_readNumber_5
  refine S_aload_n dX2_readNumber_5 rfl 0 rfl (pc' := 6) rfl ?_
  refine S_getI fl_X2_22 rfl dX2_readNumber_6 (pc' := 9) rfl (fun x6 => ?_)
  refine S_aload_n dX2_readNumber_9 rfl 0 rfl (pc' := 10) rfl ?_
  refine S_getI fl_X2_18 rfl dX2_readNumber_10 (pc' := 13) rfl (fun x10 => ?_)
  refine S_icmp_ge dX2_readNumber_13 87 rfl (pc' := 16) rfl (fun g13 => ?_) (fun g13 => ?_)
  · refine Sim.sub [] rfl ?_
    exact hK _
  · refine S_aload_n dX2_readNumber_16 rfl 0 rfl (pc' := 17) rfl ?_
    refine S_getR fl_X2_9 rfl dX2_readNumber_17 (pc' := 20) rfl (fun x17 => ?_)
    refine S_aload_n dX2_readNumber_20 rfl 0 rfl (pc' := 21) rfl ?_
    refine S_getI fl_X2_22 rfl dX2_readNumber_21 (pc' := 24) rfl (fun x21 => ?_)
    refine S_iaload dX2_readNumber_24 (pc' := 25) rfl (fun x24 => ?_)
    refine S_stai ml_X2_65 ms_X2_isDigit dX2_readNumber_25 [.int x24] rfl (fun v h2 q => c_X2_isDigit Z l _ _ q) ⟨Nat.le_of_ble_eq_true rfl, Nat.le_of_ble_eq_true rfl⟩ (rest := []) (Nat.le_of_ble_eq_true rfl) rfl (pc' := 28) rfl (fun x25 h25 => ?_)
    refine S_if_eq dX2_readNumber_28 87 rfl (pc' := 31) rfl (fun g28 => ?_) (fun g28 => ?_)
    · refine Sim.sub [] rfl ?_
      exact hK _
    · refine S_aload_n dX2_readNumber_31 rfl 0 rfl (pc' := 32) rfl ?_
      refine S_aload_n dX2_readNumber_32 rfl 0 rfl (pc' := 33) rfl ?_
      refine S_getI fl_X2_22 rfl dX2_readNumber_33 (pc' := 36) rfl (fun x33 => ?_)
      refine S_aload_n dX2_readNumber_36 rfl 0 rfl (pc' := 37) rfl ?_
      refine S_getI fl_X2_58 rfl dX2_readNumber_37 (pc' := 40) rfl (fun x37 => ?_)
      refine S_isub dX2_readNumber_40 (pc' := 41) rfl ?_
      refine S_iconst dX2_readNumber_41 (v := 3) rfl (pc' := 42) rfl ?_
      refine S_icmp_ge dX2_readNumber_42 68 rfl (pc' := 45) rfl (fun g42 => ?_) (fun g42 => ?_)
      · refine S_sipush dX2_readNumber_68 (v := 1000) rfl (pc' := 71) rfl ?_
        refine S_putI fl_X2_47 (by decide) rfl dX2_readNumber_71 (pc' := 74) rfl (fun h71 => ?_)
        refine S_aload_n dX2_readNumber_74 rfl 0 rfl (pc' := 75) rfl ?_
        refine S_dup dX2_readNumber_75 rfl (pc' := 76) rfl ?_
        refine S_getI fl_X2_22 rfl dX2_readNumber_76 (pc' := 79) rfl (fun x76 => ?_)
        refine S_iconst dX2_readNumber_79 (v := 1) rfl (pc' := 80) rfl ?_
        refine S_iadd dX2_readNumber_80 (pc' := 81) rfl ?_
        refine S_putI fl_X2_22 (by decide) rfl dX2_readNumber_81 (pc' := 84) rfl (fun h81 => ?_)
        refine S_goto dX2_readNumber_84 5 rfl ?_
        refine Sim.sub [0] rfl ?_
        exact hF _
      · refine S_aload_n dX2_readNumber_45 rfl 0 rfl (pc' := 46) rfl ?_
        refine S_getI fl_X2_47 rfl dX2_readNumber_46 (pc' := 49) rfl (fun x46 => ?_)
        refine S_bipush dX2_readNumber_49 (v := 10) rfl (pc' := 51) rfl ?_
        refine S_imul dX2_readNumber_51 (pc' := 52) rfl ?_
        refine S_aload_n dX2_readNumber_52 rfl 0 rfl (pc' := 53) rfl ?_
        refine S_getR fl_X2_9 rfl dX2_readNumber_53 (pc' := 56) rfl (fun x53 => ?_)
        refine S_aload_n dX2_readNumber_56 rfl 0 rfl (pc' := 57) rfl ?_
        refine S_getI fl_X2_22 rfl dX2_readNumber_57 (pc' := 60) rfl (fun x57 => ?_)
        refine S_iaload dX2_readNumber_60 (pc' := 61) rfl (fun x60 => ?_)
        refine S_iadd dX2_readNumber_61 (pc' := 62) rfl ?_
        refine S_bipush dX2_readNumber_62 (v := 48) rfl (pc' := 64) rfl ?_
        refine S_isub dX2_readNumber_64 (pc' := 65) rfl ?_
        refine S_goto dX2_readNumber_65 71 rfl ?_
        refine S_putI fl_X2_47 (by decide) rfl dX2_readNumber_71 (pc' := 74) rfl (fun h71 => ?_)
        refine S_aload_n dX2_readNumber_74 rfl 0 rfl (pc' := 75) rfl ?_
        refine S_dup dX2_readNumber_75 rfl (pc' := 76) rfl ?_
        refine S_getI fl_X2_22 rfl dX2_readNumber_76 (pc' := 79) rfl (fun x76 => ?_)
        refine S_iconst dX2_readNumber_79 (v := 1) rfl (pc' := 80) rfl ?_
        refine S_iadd dX2_readNumber_80 (pc' := 81) rfl ?_
        refine S_putI fl_X2_22 (by decide) rfl dX2_readNumber_81 (pc' := 84) rfl (fun h81 => ?_)
        refine S_goto dX2_readNumber_84 5 rfl ?_
        refine Sim.sub [0] rfl ?_
        exact hF _
theorem lq_X2_readNumber_5 (Z : ZZ) (l : Launch) (a0 : Nat) {args : Array Value} {h0 h1 : HP} {v0 : Unit} (K : HP → Option (Unit × HP))
    (hK : ∀ (h : HP), Sim Z l cX2_readNumber RX2 1 1 20 (none) "readNumber" args (Mq Z args h0 h1 (none)) h0 h1 v0 87 [] [] h (K h)) :
    ∀ (k : Nat) (h : HP), Sim Z l cX2_readNumber RX2 1 1 20 (none) "readNumber" args (Mq Z args h0 h1 (none)) h0 h1 v0 5 [(0, .ref (zb Z + a0))] [] h (lp_X2_readNumber_5 a0 K k h) := by
  intro k
  induction k with
  | zero => exact fun _ => Sim.none
  | succ k ih => exact lc_X2_readNumber_5 Z l a0 K _ hK ih
set_option maxRecDepth 100000 in
set_option maxHeartbeats 4000000 in
theorem c_X2_readNumber (Z : ZZ) (l : Launch) (t : Nat) (h : HP) {v : Unit} {h1 : HP} (ho : f_X2_readNumber t h = some (v, h1)) : MetP Z l yX2_readNumber cX2_readNumber 1 (none) 1 20 [.ref (zb Z + t)] h (none) h1 := by
  refine MetP_of ho (by decide +kernel) (Nat.le_of_ble_eq_true rfl) [(0, .ref (zb Z + t))] rfl (own := RX2) rfl (nm := "readNumber") rfl ?_
  unfold f_X2_readNumber
  refine S_aload_n dX2_readNumber_0 rfl 0 rfl (pc' := 1) rfl ?_
  refine S_iconst dX2_readNumber_1 (v := 0) rfl (pc' := 2) rfl ?_
  refine S_putI fl_X2_47 (by decide) rfl dX2_readNumber_2 (pc' := 5) rfl (fun h2 => ?_)
  refine Sim.sub [0] rfl ?_
  refine lq_X2_readNumber_5 Z l t _ ?_ 1000 _
  intro h5_
  exact S_vret rfl dX2_readNumber_87
theorem dX2_advance_0 : decode cX2_advance 0 = .ok (.aload_n 0, 1) := by decide +kernel
theorem dX2_advance_1 : decode cX2_advance 1 = .ok (.aload_n 0, 1) := by decide +kernel
theorem dX2_advance_2 : decode cX2_advance 2 = .ok (.getfield 22, 3) := by decide +kernel
theorem dX2_advance_5 : decode cX2_advance 5 = .ok (.putfield 58, 3) := by decide +kernel
theorem dX2_advance_8 : decode cX2_advance 8 = .ok (.aload_n 0, 1) := by decide +kernel
theorem dX2_advance_9 : decode cX2_advance 9 = .ok (.getfield 58, 3) := by decide +kernel
theorem dX2_advance_12 : decode cX2_advance 12 = .ok (.aload_n 0, 1) := by decide +kernel
theorem dX2_advance_13 : decode cX2_advance 13 = .ok (.getfield 18, 3) := by decide +kernel
theorem dX2_advance_16 : decode cX2_advance 16 = .ok (.if_icmp .ge 30, 3) := by decide +kernel
theorem dX2_advance_19 : decode cX2_advance 19 = .ok (.aload_n 0, 1) := by decide +kernel
theorem dX2_advance_20 : decode cX2_advance 20 = .ok (.getfield 9, 3) := by decide +kernel
theorem dX2_advance_23 : decode cX2_advance 23 = .ok (.aload_n 0, 1) := by decide +kernel
theorem dX2_advance_24 : decode cX2_advance 24 = .ok (.getfield 58, 3) := by decide +kernel
theorem dX2_advance_27 : decode cX2_advance 27 = .ok (.iaload, 1) := by decide +kernel
theorem dX2_advance_28 : decode cX2_advance 28 = .ok (.bipush 32, 2) := by decide +kernel
theorem dX2_advance_30 : decode cX2_advance 30 = .ok (.if_icmp .ne 16, 3) := by decide +kernel
theorem dX2_advance_33 : decode cX2_advance 33 = .ok (.aload_n 0, 1) := by decide +kernel
theorem dX2_advance_34 : decode cX2_advance 34 = .ok (.dup, 1) := by decide +kernel
theorem dX2_advance_35 : decode cX2_advance 35 = .ok (.getfield 58, 3) := by decide +kernel
theorem dX2_advance_38 : decode cX2_advance 38 = .ok (.iconst 1, 1) := by decide +kernel
theorem dX2_advance_39 : decode cX2_advance 39 = .ok (.iadd, 1) := by decide +kernel
theorem dX2_advance_40 : decode cX2_advance 40 = .ok (.putfield 58, 3) := by decide +kernel
theorem dX2_advance_43 : decode cX2_advance 43 = .ok (.goto (-35), 3) := by decide +kernel
theorem dX2_advance_46 : decode cX2_advance 46 = .ok (.aload_n 0, 1) := by decide +kernel
theorem dX2_advance_47 : decode cX2_advance 47 = .ok (.aload_n 0, 1) := by decide +kernel
theorem dX2_advance_48 : decode cX2_advance 48 = .ok (.getfield 58, 3) := by decide +kernel
theorem dX2_advance_51 : decode cX2_advance 51 = .ok (.putfield 22, 3) := by decide +kernel
theorem dX2_advance_54 : decode cX2_advance 54 = .ok (.aload_n 0, 1) := by decide +kernel
theorem dX2_advance_55 : decode cX2_advance 55 = .ok (.getfield 58, 3) := by decide +kernel
theorem dX2_advance_58 : decode cX2_advance 58 = .ok (.aload_n 0, 1) := by decide +kernel
theorem dX2_advance_59 : decode cX2_advance 59 = .ok (.getfield 18, 3) := by decide +kernel
theorem dX2_advance_62 : decode cX2_advance 62 = .ok (.if_icmp .lt 11, 3) := by decide +kernel
theorem dX2_advance_65 : decode cX2_advance 65 = .ok (.aload_n 0, 1) := by decide +kernel
theorem dX2_advance_66 : decode cX2_advance 66 = .ok (.iconst 0, 1) := by decide +kernel
theorem dX2_advance_67 : decode cX2_advance 67 = .ok (.putfield 32, 3) := by decide +kernel
theorem dX2_advance_70 : decode cX2_advance 70 = .ok (.goto 122, 3) := by decide +kernel
theorem dX2_advance_73 : decode cX2_advance 73 = .ok (.aload_n 0, 1) := by decide +kernel
theorem dX2_advance_74 : decode cX2_advance 74 = .ok (.getfield 9, 3) := by decide +kernel
theorem dX2_advance_77 : decode cX2_advance 77 = .ok (.aload_n 0, 1) := by decide +kernel
theorem dX2_advance_78 : decode cX2_advance 78 = .ok (.getfield 58, 3) := by decide +kernel
theorem dX2_advance_81 : decode cX2_advance 81 = .ok (.iaload, 1) := by decide +kernel
theorem dX2_advance_82 : decode cX2_advance 82 = .ok (.invokestatic 61, 3) := by decide +kernel
theorem dX2_advance_85 : decode cX2_advance 85 = .ok (.ifCond .eq 47, 3) := by decide +kernel
theorem dX2_advance_88 : decode cX2_advance 88 = .ok (.aload_n 0, 1) := by decide +kernel
theorem dX2_advance_89 : decode cX2_advance 89 = .ok (.iconst 1, 1) := by decide +kernel
theorem dX2_advance_90 : decode cX2_advance 90 = .ok (.putfield 32, 3) := by decide +kernel
theorem dX2_advance_93 : decode cX2_advance 93 = .ok (.aload_n 0, 1) := by decide +kernel
theorem dX2_advance_94 : decode cX2_advance 94 = .ok (.getfield 22, 3) := by decide +kernel
theorem dX2_advance_97 : decode cX2_advance 97 = .ok (.aload_n 0, 1) := by decide +kernel
theorem dX2_advance_98 : decode cX2_advance 98 = .ok (.getfield 18, 3) := by decide +kernel
theorem dX2_advance_101 : decode cX2_advance 101 = .ok (.if_icmp .ge 91, 3) := by decide +kernel
theorem dX2_advance_104 : decode cX2_advance 104 = .ok (.aload_n 0, 1) := by decide +kernel
theorem dX2_advance_105 : decode cX2_advance 105 = .ok (.getfield 9, 3) := by decide +kernel
theorem dX2_advance_108 : decode cX2_advance 108 = .ok (.aload_n 0, 1) := by decide +kernel
theorem dX2_advance_109 : decode cX2_advance 109 = .ok (.getfield 22, 3) := by decide +kernel
theorem dX2_advance_112 : decode cX2_advance 112 = .ok (.iaload, 1) := by decide +kernel
theorem dX2_advance_113 : decode cX2_advance 113 = .ok (.invokestatic 61, 3) := by decide +kernel
theorem dX2_advance_116 : decode cX2_advance 116 = .ok (.ifCond .eq 76, 3) := by decide +kernel
theorem dX2_advance_119 : decode cX2_advance 119 = .ok (.aload_n 0, 1) := by decide +kernel
theorem dX2_advance_120 : decode cX2_advance 120 = .ok (.dup, 1) := by decide +kernel
theorem dX2_advance_121 : decode cX2_advance 121 = .ok (.getfield 22, 3) := by decide +kernel
theorem dX2_advance_124 : decode cX2_advance 124 = .ok (.iconst 1, 1) := by decide +kernel
theorem dX2_advance_125 : decode cX2_advance 125 = .ok (.iadd, 1) := by decide +kernel
theorem dX2_advance_126 : decode cX2_advance 126 = .ok (.putfield 22, 3) := by decide +kernel
theorem dX2_advance_129 : decode cX2_advance 129 = .ok (.goto (-36), 3) := by decide +kernel
theorem dX2_advance_132 : decode cX2_advance 132 = .ok (.aload_n 0, 1) := by decide +kernel
theorem dX2_advance_133 : decode cX2_advance 133 = .ok (.getfield 9, 3) := by decide +kernel
theorem dX2_advance_136 : decode cX2_advance 136 = .ok (.aload_n 0, 1) := by decide +kernel
theorem dX2_advance_137 : decode cX2_advance 137 = .ok (.getfield 58, 3) := by decide +kernel
theorem dX2_advance_140 : decode cX2_advance 140 = .ok (.iaload, 1) := by decide +kernel
theorem dX2_advance_141 : decode cX2_advance 141 = .ok (.invokestatic 65, 3) := by decide +kernel
theorem dX2_advance_144 : decode cX2_advance 144 = .ok (.ifCond .eq 15, 3) := by decide +kernel
theorem dX2_advance_147 : decode cX2_advance 147 = .ok (.aload_n 0, 1) := by decide +kernel
theorem dX2_advance_148 : decode cX2_advance 148 = .ok (.iconst 2, 1) := by decide +kernel
theorem dX2_advance_149 : decode cX2_advance 149 = .ok (.putfield 32, 3) := by decide +kernel
theorem dX2_advance_152 : decode cX2_advance 152 = .ok (.aload_n 0, 1) := by decide +kernel
theorem dX2_advance_153 : decode cX2_advance 153 = .ok (.invokevirtual 68, 3) := by decide +kernel
theorem dX2_advance_156 : decode cX2_advance 156 = .ok (.goto 36, 3) := by decide +kernel
theorem dX2_advance_159 : decode cX2_advance 159 = .ok (.aload_n 0, 1) := by decide +kernel
theorem dX2_advance_160 : decode cX2_advance 160 = .ok (.aload_n 0, 1) := by decide +kernel
theorem dX2_advance_161 : decode cX2_advance 161 = .ok (.getfield 9, 3) := by decide +kernel
theorem dX2_advance_164 : decode cX2_advance 164 = .ok (.aload_n 0, 1) := by decide +kernel
theorem dX2_advance_165 : decode cX2_advance 165 = .ok (.getfield 58, 3) := by decide +kernel
theorem dX2_advance_168 : decode cX2_advance 168 = .ok (.iaload, 1) := by decide +kernel
theorem dX2_advance_169 : decode cX2_advance 169 = .ok (.bipush 59, 2) := by decide +kernel
theorem dX2_advance_171 : decode cX2_advance 171 = .ok (.if_icmp .ne 7, 3) := by decide +kernel
theorem dX2_advance_174 : decode cX2_advance 174 = .ok (.iconst 3, 1) := by decide +kernel
theorem dX2_advance_175 : decode cX2_advance 175 = .ok (.goto 4, 3) := by decide +kernel
theorem dX2_advance_178 : decode cX2_advance 178 = .ok (.iconst 4, 1) := by decide +kernel
theorem dX2_advance_179 : decode cX2_advance 179 = .ok (.putfield 32, 3) := by decide +kernel
theorem dX2_advance_182 : decode cX2_advance 182 = .ok (.aload_n 0, 1) := by decide +kernel
theorem dX2_advance_183 : decode cX2_advance 183 = .ok (.dup, 1) := by decide +kernel
theorem dX2_advance_184 : decode cX2_advance 184 = .ok (.getfield 22, 3) := by decide +kernel
theorem dX2_advance_187 : decode cX2_advance 187 = .ok (.iconst 1, 1) := by decide +kernel
theorem dX2_advance_188 : decode cX2_advance 188 = .ok (.iadd, 1) := by decide +kernel
theorem dX2_advance_189 : decode cX2_advance 189 = .ok (.putfield 22, 3) := by decide +kernel
theorem dX2_advance_192 : decode cX2_advance 192 = .ok (.return_, 1) := by decide +kernel
set_option maxRecDepth 100000 in
set_option maxHeartbeats 4000000 in
theorem lc_X2_advance_8 (Z : ZZ) (l : Launch) (a0 : Nat) {args : Array Value} {h0 h1 : HP} {v0 : Unit} (K : HP → Option (Unit × HP)) (F : HP → Option (Unit × HP))
    (hK : ∀ (h : HP), Sim Z l cX2_advance RX2 1 2 40 (none) "advance" args (Mq Z args h0 h1 (none)) h0 h1 v0 46 [(0, .ref (zb Z + a0))] [] h (K h))
    (hF : ∀ (h : HP), Sim Z l cX2_advance RX2 1 2 40 (none) "advance" args (Mq Z args h0 h1 (none)) h0 h1 v0 8 [(0, .ref (zb Z + a0))] [] h (F h)) :
    ∀ (h : HP), Sim Z l cX2_advance RX2 1 2 40 (none) "advance" args (Mq Z args h0 h1 (none)) h0 h1 v0 8 [(0, .ref (zb Z + a0))] [] h (lb_X2_advance_8 a0 K F h) := by
  intro h
  unfold lb_X2_advance_8
  refine S_aload_n dX2_advance_8 rfl 0 rfl (pc' := 9) rfl ?_
  refine S_getI fl_X2_58 rfl dX2_advance_9 (pc' := 12) rfl (fun x9 => ?_)
  refine S_aload_n dX2_advance_12 rfl 0 rfl (pc' := 13) rfl ?_
  refine S_getI fl_X2_18 rfl dX2_advance_13 (pc' := 16) rfl (fun x13 => ?_)
  refine S_icmp_ge dX2_advance_16 46 rfl (pc' := 19) rfl (fun g16 => ?_) (fun g16 => ?_)
  · refine Sim.sub [0] rfl ?_
    exact hK _
  · refine S_aload_n dX2_advance_19 rfl 0 rfl (pc' := 20) rfl ?_
    refine S_getR fl_X2_9 rfl dX2_advance_20 (pc' := 23) rfl (fun x20 => ?_)
    refine S_aload_n dX2_advance_23 rfl 0 rfl (pc' := 24) rfl ?_
    refine S_getI fl_X2_58 rfl dX2_advance_24 (pc' := 27) rfl (fun x24 => ?_)
    refine S_iaload dX2_advance_27 (pc' := 28) rfl (fun x27 => ?_)
    refine S_bipush dX2_advance_28 (v := 32) rfl (pc' := 30) rfl ?_
    refine S_icmp_ne dX2_advance_30 46 rfl (pc' := 33) rfl (fun g30 => ?_) (fun g30 => ?_)
    · refine Sim.sub [0] rfl ?_
      exact hK _
    · refine S_aload_n dX2_advance_33 rfl 0 rfl (pc' := 34) rfl ?_
      refine S_dup dX2_advance_34 rfl (pc' := 35) rfl ?_
      refine S_getI fl_X2_58 rfl dX2_advance_35 (pc' := 38) rfl (fun x35 => ?_)
      refine S_iconst dX2_advance_38 (v := 1) rfl (pc' := 39) rfl ?_
      refine S_iadd dX2_advance_39 (pc' := 40) rfl ?_
      refine S_putI fl_X2_58 (by decide) rfl dX2_advance_40 (pc' := 43) rfl (fun h40 => ?_)
      refine S_goto dX2_advance_43 8 rfl ?_
      refine Sim.sub [0] rfl ?_
      exact hF _
theorem lq_X2_advance_8 (Z : ZZ) (l : Launch) (a0 : Nat) {args : Array Value} {h0 h1 : HP} {v0 : Unit} (K : HP → Option (Unit × HP))
    (hK : ∀ (h : HP), Sim Z l cX2_advance RX2 1 2 40 (none) "advance" args (Mq Z args h0 h1 (none)) h0 h1 v0 46 [(0, .ref (zb Z + a0))] [] h (K h)) :
    ∀ (k : Nat) (h : HP), Sim Z l cX2_advance RX2 1 2 40 (none) "advance" args (Mq Z args h0 h1 (none)) h0 h1 v0 8 [(0, .ref (zb Z + a0))] [] h (lp_X2_advance_8 a0 K k h) := by
  intro k
  induction k with
  | zero => exact fun _ => Sim.none
  | succ k ih => exact lc_X2_advance_8 Z l a0 K _ hK ih
set_option maxRecDepth 100000 in
set_option maxHeartbeats 4000000 in
theorem lc_X2_advance_93 (Z : ZZ) (l : Launch) (a0 : Nat) {args : Array Value} {h0 h1 : HP} {v0 : Unit} (K : HP → Option (Unit × HP)) (F : HP → Option (Unit × HP))
    (hK : ∀ (h : HP), Sim Z l cX2_advance RX2 1 2 40 (none) "advance" args (Mq Z args h0 h1 (none)) h0 h1 v0 192 [] [] h (K h))
    (hF : ∀ (h : HP), Sim Z l cX2_advance RX2 1 2 40 (none) "advance" args (Mq Z args h0 h1 (none)) h0 h1 v0 93 [(0, .ref (zb Z + a0))] [] h (F h)) :
    ∀ (h : HP), Sim Z l cX2_advance RX2 1 2 40 (none) "advance" args (Mq Z args h0 h1 (none)) h0 h1 v0 93 [(0, .ref (zb Z + a0))] [] h (lb_X2_advance_93 a0 K F h) := by
  intro h
  unfold lb_X2_advance_93
  refine S_aload_n dX2_advance_93 rfl 0 rfl (pc' := 94) rfl ?_
  refine S_getI fl_X2_22 rfl dX2_advance_94 (pc' := 97) rfl (fun x94 => ?_)
  refine S_aload_n dX2_advance_97 rfl 0 rfl (pc' := 98) rfl ?_
  refine S_getI fl_X2_18 rfl dX2_advance_98 (pc' := 101) rfl (fun x98 => ?_)
  refine S_icmp_ge dX2_advance_101 192 rfl (pc' := 104) rfl (fun g101 => ?_) (fun g101 => ?_)
  · refine Sim.sub [] rfl ?_
    exact hK _
  · refine S_aload_n dX2_advance_104 rfl 0 rfl (pc' := 105) rfl ?_
    refine S_getR fl_X2_9 rfl dX2_advance_105 (pc' := 108) rfl (fun x105 => ?_)
    refine S_aload_n dX2_advance_108 rfl 0 rfl (pc' := 109) rfl ?_
    refine S_getI fl_X2_22 rfl dX2_advance_109 (pc' := 112) rfl (fun x109 => ?_)
    refine S_iaload dX2_advance_112 (pc' := 113) rfl (fun x112 => ?_)
    refine S_stai ml_X2_61 ms_X2_isLetter dX2_advance_113 [.int x112] rfl (fun v h2 q => c_X2_isLetter Z l _ _ q) ⟨Nat.le_of_ble_eq_true rfl, Nat.le_of_ble_eq_true rfl⟩ (rest := []) (Nat.le_of_ble_eq_true rfl) rfl (pc' := 116) rfl (fun x113 h113 => ?_)
    refine S_if_eq dX2_advance_116 192 rfl (pc' := 119) rfl (fun g116 => ?_) (fun g116 => ?_)
    · refine Sim.sub [] rfl ?_
      exact hK _
    · refine S_aload_n dX2_advance_119 rfl 0 rfl (pc' := 120) rfl ?_
      refine S_dup dX2_advance_120 rfl (pc' := 121) rfl ?_
      refine S_getI fl_X2_22 rfl dX2_advance_121 (pc' := 124) rfl (fun x121 => ?_)
      refine S_iconst dX2_advance_124 (v := 1) rfl (pc' := 125) rfl ?_
      refine S_iadd dX2_advance_125 (pc' := 126) rfl ?_
      refine S_putI fl_X2_22 (by decide) rfl dX2_advance_126 (pc' := 129) rfl (fun h126 => ?_)
      refine S_goto dX2_advance_129 93 rfl ?_
      refine Sim.sub [0] rfl ?_
      exact hF _
theorem lq_X2_advance_93 (Z : ZZ) (l : Launch) (a0 : Nat) {args : Array Value} {h0 h1 : HP} {v0 : Unit} (K : HP → Option (Unit × HP))
    (hK : ∀ (h : HP), Sim Z l cX2_advance RX2 1 2 40 (none) "advance" args (Mq Z args h0 h1 (none)) h0 h1 v0 192 [] [] h (K h)) :
    ∀ (k : Nat) (h : HP), Sim Z l cX2_advance RX2 1 2 40 (none) "advance" args (Mq Z args h0 h1 (none)) h0 h1 v0 93 [(0, .ref (zb Z + a0))] [] h (lp_X2_advance_93 a0 K k h) := by
  intro k
  induction k with
  | zero => exact fun _ => Sim.none
  | succ k ih => exact lc_X2_advance_93 Z l a0 K _ hK ih
set_option maxRecDepth 100000 in
set_option maxHeartbeats 4000000 in
theorem c_X2_advance (Z : ZZ) (l : Launch) (t : Nat) (h : HP) {v : Unit} {h1 : HP} (ho : f_X2_advance t h = some (v, h1)) : MetP Z l yX2_advance cX2_advance 1 (none) 2 40 [.ref (zb Z + t)] h (none) h1 := by
  refine MetP_of ho (by decide +kernel) (Nat.le_of_ble_eq_true rfl) [(0, .ref (zb Z + t))] rfl (own := RX2) rfl (nm := "advance") rfl ?_
  unfold f_X2_advance
  refine S_aload_n dX2_advance_0 rfl 0 rfl (pc' := 1) rfl ?_
  refine S_aload_n dX2_advance_1 rfl 0 rfl (pc' := 2) rfl ?_
  refine S_getI fl_X2_22 rfl dX2_advance_2 (pc' := 5) rfl (fun x2 => ?_)
  refine S_putI fl_X2_58 (by decide) rfl dX2_advance_5 (pc' := 8) rfl (fun h5 => ?_)
  refine Sim.sub [0] rfl ?_
  refine lq_X2_advance_8 Z l t _ ?_ 1000 _
  intro h8_
  refine S_aload_n dX2_advance_46 rfl 0 rfl (pc' := 47) rfl ?_
  refine S_aload_n dX2_advance_47 rfl 0 rfl (pc' := 48) rfl ?_
  refine S_getI fl_X2_58 rfl dX2_advance_48 (pc' := 51) rfl (fun x48 => ?_)
  refine S_putI fl_X2_22 (by decide) rfl dX2_advance_51 (pc' := 54) rfl (fun h51 => ?_)
  refine S_aload_n dX2_advance_54 rfl 0 rfl (pc' := 55) rfl ?_
  refine S_getI fl_X2_58 rfl dX2_advance_55 (pc' := 58) rfl (fun x55 => ?_)
  refine S_aload_n dX2_advance_58 rfl 0 rfl (pc' := 59) rfl ?_
  refine S_getI fl_X2_18 rfl dX2_advance_59 (pc' := 62) rfl (fun x59 => ?_)
  refine S_icmp_lt dX2_advance_62 73 rfl (pc' := 65) rfl (fun g62 => ?_) (fun g62 => ?_)
  · refine S_aload_n dX2_advance_73 rfl 0 rfl (pc' := 74) rfl ?_
    refine S_getR fl_X2_9 rfl dX2_advance_74 (pc' := 77) rfl (fun x74 => ?_)
    refine S_aload_n dX2_advance_77 rfl 0 rfl (pc' := 78) rfl ?_
    refine S_getI fl_X2_58 rfl dX2_advance_78 (pc' := 81) rfl (fun x78 => ?_)
    refine S_iaload dX2_advance_81 (pc' := 82) rfl (fun x81 => ?_)
    refine S_stai ml_X2_61 ms_X2_isLetter dX2_advance_82 [.int x81] rfl (fun v h2 q => c_X2_isLetter Z l _ _ q) ⟨Nat.le_of_ble_eq_true rfl, Nat.le_of_ble_eq_true rfl⟩ (rest := []) (Nat.le_of_ble_eq_true rfl) rfl (pc' := 85) rfl (fun x82 h82 => ?_)
    refine S_if_eq dX2_advance_85 132 rfl (pc' := 88) rfl (fun g85 => ?_) (fun g85 => ?_)
    · refine S_aload_n dX2_advance_132 rfl 0 rfl (pc' := 133) rfl ?_
      refine S_getR fl_X2_9 rfl dX2_advance_133 (pc' := 136) rfl (fun x133 => ?_)
      refine S_aload_n dX2_advance_136 rfl 0 rfl (pc' := 137) rfl ?_
      refine S_getI fl_X2_58 rfl dX2_advance_137 (pc' := 140) rfl (fun x137 => ?_)
      refine S_iaload dX2_advance_140 (pc' := 141) rfl (fun x140 => ?_)
      refine S_stai ml_X2_65 ms_X2_isDigit dX2_advance_141 [.int x140] rfl (fun v h2 q => c_X2_isDigit Z l _ _ q) ⟨Nat.le_of_ble_eq_true rfl, Nat.le_of_ble_eq_true rfl⟩ (rest := []) (Nat.le_of_ble_eq_true rfl) rfl (pc' := 144) rfl (fun x141 h141 => ?_)
      refine S_if_eq dX2_advance_144 159 rfl (pc' := 147) rfl (fun g144 => ?_) (fun g144 => ?_)
      · refine S_aload_n dX2_advance_159 rfl 0 rfl (pc' := 160) rfl ?_
        refine S_aload_n dX2_advance_160 rfl 0 rfl (pc' := 161) rfl ?_
        refine S_getR fl_X2_9 rfl dX2_advance_161 (pc' := 164) rfl (fun x161 => ?_)
        refine S_aload_n dX2_advance_164 rfl 0 rfl (pc' := 165) rfl ?_
        refine S_getI fl_X2_58 rfl dX2_advance_165 (pc' := 168) rfl (fun x165 => ?_)
        refine S_iaload dX2_advance_168 (pc' := 169) rfl (fun x168 => ?_)
        refine S_bipush dX2_advance_169 (v := 59) rfl (pc' := 171) rfl ?_
        refine S_icmp_ne dX2_advance_171 178 rfl (pc' := 174) rfl (fun g171 => ?_) (fun g171 => ?_)
        · refine S_iconst dX2_advance_178 (v := 4) rfl (pc' := 179) rfl ?_
          refine S_putI fl_X2_32 (by decide) rfl dX2_advance_179 (pc' := 182) rfl (fun h179 => ?_)
          refine S_aload_n dX2_advance_182 rfl 0 rfl (pc' := 183) rfl ?_
          refine S_dup dX2_advance_183 rfl (pc' := 184) rfl ?_
          refine S_getI fl_X2_22 rfl dX2_advance_184 (pc' := 187) rfl (fun x184 => ?_)
          refine S_iconst dX2_advance_187 (v := 1) rfl (pc' := 188) rfl ?_
          refine S_iadd dX2_advance_188 (pc' := 189) rfl ?_
          refine S_putI fl_X2_22 (by decide) rfl dX2_advance_189 (pc' := 192) rfl (fun h189 => ?_)
          exact S_vret rfl dX2_advance_192
        · refine S_iconst dX2_advance_174 (v := 3) rfl (pc' := 175) rfl ?_
          refine S_goto dX2_advance_175 179 rfl ?_
          refine S_putI fl_X2_32 (by decide) rfl dX2_advance_179 (pc' := 182) rfl (fun h179 => ?_)
          refine S_aload_n dX2_advance_182 rfl 0 rfl (pc' := 183) rfl ?_
          refine S_dup dX2_advance_183 rfl (pc' := 184) rfl ?_
          refine S_getI fl_X2_22 rfl dX2_advance_184 (pc' := 187) rfl (fun x184 => ?_)
          refine S_iconst dX2_advance_187 (v := 1) rfl (pc' := 188) rfl ?_
          refine S_iadd dX2_advance_188 (pc' := 189) rfl ?_
          refine S_putI fl_X2_22 (by decide) rfl dX2_advance_189 (pc' := 192) rfl (fun h189 => ?_)
          exact S_vret rfl dX2_advance_192
      · refine S_aload_n dX2_advance_147 rfl 0 rfl (pc' := 148) rfl ?_
        refine S_iconst dX2_advance_148 (v := 2) rfl (pc' := 149) rfl ?_
        refine S_putI fl_X2_32 (by decide) rfl dX2_advance_149 (pc' := 152) rfl (fun h149 => ?_)
        refine S_aload_n dX2_advance_152 rfl 0 rfl (pc' := 153) rfl ?_
        refine S_invv ml_X2_68 mi_X2_readNumber (ci := 2) ⟨_, rfl, rfl⟩ (by decide) dX2_advance_153 [] rfl (fun v h2 q => c_X2_readNumber Z l _ _ q) ⟨Nat.le_of_ble_eq_true rfl, Nat.le_of_ble_eq_true rfl⟩ (rest := []) (Nat.le_of_ble_eq_true rfl) rfl (pc' := 156) rfl (fun _ h153 => ?_)
        refine S_goto dX2_advance_156 192 rfl ?_
        exact S_vret rfl dX2_advance_192
    · refine S_aload_n dX2_advance_88 rfl 0 rfl (pc' := 89) rfl ?_
      refine S_iconst dX2_advance_89 (v := 1) rfl (pc' := 90) rfl ?_
      refine S_putI fl_X2_32 (by decide) rfl dX2_advance_90 (pc' := 93) rfl (fun h90 => ?_)
      refine Sim.sub [0] rfl ?_
      refine lq_X2_advance_93 Z l t _ ?_ 1000 _
      intro h93_
      exact S_vret rfl dX2_advance_192
  · refine S_aload_n dX2_advance_65 rfl 0 rfl (pc' := 66) rfl ?_
    refine S_iconst dX2_advance_66 (v := 0) rfl (pc' := 67) rfl ?_
    refine S_putI fl_X2_32 (by decide) rfl dX2_advance_67 (pc' := 70) rfl (fun h67 => ?_)
    refine S_goto dX2_advance_70 192 rfl ?_
    exact S_vret rfl dX2_advance_192
theorem dX2_wordOf_0 : decode cX2_wordOf 0 = .ok (.iload_n 0, 1) := by decide +kernel
theorem dX2_wordOf_1 : decode cX2_wordOf 1 = .ok (.tableswitch 78 0 8 #[51, 54, 57, 60, 63, 66, 69, 72, 75], 51) := by decide +kernel
theorem dX2_wordOf_52 : decode cX2_wordOf 52 = .ok (.ldc 88, 2) := by decide +kernel
theorem dX2_wordOf_54 : decode cX2_wordOf 54 = .ok (.areturn, 1) := by decide +kernel
theorem dX2_wordOf_55 : decode cX2_wordOf 55 = .ok (.ldc 90, 2) := by decide +kernel
theorem dX2_wordOf_57 : decode cX2_wordOf 57 = .ok (.areturn, 1) := by decide +kernel
theorem dX2_wordOf_58 : decode cX2_wordOf 58 = .ok (.ldc 92, 2) := by decide +kernel
theorem dX2_wordOf_60 : decode cX2_wordOf 60 = .ok (.areturn, 1) := by decide +kernel
theorem dX2_wordOf_61 : decode cX2_wordOf 61 = .ok (.ldc 94, 2) := by decide +kernel
theorem dX2_wordOf_63 : decode cX2_wordOf 63 = .ok (.areturn, 1) := by decide +kernel
theorem dX2_wordOf_64 : decode cX2_wordOf 64 = .ok (.ldc 96, 2) := by decide +kernel
theorem dX2_wordOf_66 : decode cX2_wordOf 66 = .ok (.areturn, 1) := by decide +kernel
theorem dX2_wordOf_67 : decode cX2_wordOf 67 = .ok (.ldc 98, 2) := by decide +kernel
theorem dX2_wordOf_69 : decode cX2_wordOf 69 = .ok (.areturn, 1) := by decide +kernel
theorem dX2_wordOf_70 : decode cX2_wordOf 70 = .ok (.ldc 100, 2) := by decide +kernel
theorem dX2_wordOf_72 : decode cX2_wordOf 72 = .ok (.areturn, 1) := by decide +kernel
theorem dX2_wordOf_73 : decode cX2_wordOf 73 = .ok (.ldc 102, 2) := by decide +kernel
theorem dX2_wordOf_75 : decode cX2_wordOf 75 = .ok (.areturn, 1) := by decide +kernel
theorem dX2_wordOf_76 : decode cX2_wordOf 76 = .ok (.ldc 104, 2) := by decide +kernel
theorem dX2_wordOf_78 : decode cX2_wordOf 78 = .ok (.areturn, 1) := by decide +kernel
theorem dX2_wordOf_79 : decode cX2_wordOf 79 = .ok (.ldc 106, 2) := by decide +kernel
theorem dX2_wordOf_81 : decode cX2_wordOf 81 = .ok (.areturn, 1) := by decide +kernel
set_option maxRecDepth 100000 in
set_option maxHeartbeats 4000000 in
theorem c_X2_wordOf (Z : ZZ) (l : Launch) (a0 : Int32) (h : HP) {v : Nat} {h1 : HP} (ho : f_X2_wordOf a0 h = some (v, h1)) : MetP Z l yX2_wordOf cX2_wordOf 1 (some (FieldType.object "java/lang/String")) 0 0 [.int a0] h (some (.ref (zK Z v))) h1 := by
  refine MetP_of ho (by decide +kernel) (Nat.le_of_ble_eq_true rfl) [(0, .int a0)] rfl (own := RX2) rfl (nm := "wordOf") rfl ?_
  unfold f_X2_wordOf
  refine S_iload_n dX2_wordOf_0 rfl 0 rfl (pc' := 1) rfl ?_
  refine Sim.ite (fun g1_0 => ?_) (fun g1_0 => ?_)
  · refine S_tabIn dX2_wordOf_1 g1_0 0 rfl (by decide) (off := 51) rfl 52 rfl ?_
    refine S_ldcS 0 0 rfl dX2_wordOf_52 rfl (pc' := 54) rfl ?_
    exact S_sret rfl (Or.inl ⟨_, rfl⟩) dX2_wordOf_54
  refine Sim.ite (fun g1_1 => ?_) (fun g1_1 => ?_)
  · refine S_tabIn dX2_wordOf_1 g1_1 1 rfl (by decide) (off := 54) rfl 55 rfl ?_
    refine S_ldcS 1 1 rfl dX2_wordOf_55 rfl (pc' := 57) rfl ?_
    exact S_sret rfl (Or.inl ⟨_, rfl⟩) dX2_wordOf_57
  refine Sim.ite (fun g1_2 => ?_) (fun g1_2 => ?_)
  · refine S_tabIn dX2_wordOf_1 g1_2 2 rfl (by decide) (off := 57) rfl 58 rfl ?_
    refine S_ldcS 2 2 rfl dX2_wordOf_58 rfl (pc' := 60) rfl ?_
    exact S_sret rfl (Or.inl ⟨_, rfl⟩) dX2_wordOf_60
  refine Sim.ite (fun g1_3 => ?_) (fun g1_3 => ?_)
  · refine S_tabIn dX2_wordOf_1 g1_3 3 rfl (by decide) (off := 60) rfl 61 rfl ?_
    refine S_ldcS 3 3 rfl dX2_wordOf_61 rfl (pc' := 63) rfl ?_
    exact S_sret rfl (Or.inl ⟨_, rfl⟩) dX2_wordOf_63
  refine Sim.ite (fun g1_4 => ?_) (fun g1_4 => ?_)
  · refine S_tabIn dX2_wordOf_1 g1_4 4 rfl (by decide) (off := 63) rfl 64 rfl ?_
    refine S_ldcS 4 4 rfl dX2_wordOf_64 rfl (pc' := 66) rfl ?_
    exact S_sret rfl (Or.inl ⟨_, rfl⟩) dX2_wordOf_66
  refine Sim.ite (fun g1_5 => ?_) (fun g1_5 => ?_)
  · refine S_tabIn dX2_wordOf_1 g1_5 5 rfl (by decide) (off := 66) rfl 67 rfl ?_
    refine S_ldcS 5 5 rfl dX2_wordOf_67 rfl (pc' := 69) rfl ?_
    exact S_sret rfl (Or.inl ⟨_, rfl⟩) dX2_wordOf_69
  refine Sim.ite (fun g1_6 => ?_) (fun g1_6 => ?_)
  · refine S_tabIn dX2_wordOf_1 g1_6 6 rfl (by decide) (off := 69) rfl 70 rfl ?_
    refine S_ldcS 6 6 rfl dX2_wordOf_70 rfl (pc' := 72) rfl ?_
    exact S_sret rfl (Or.inl ⟨_, rfl⟩) dX2_wordOf_72
  refine Sim.ite (fun g1_7 => ?_) (fun g1_7 => ?_)
  · refine S_tabIn dX2_wordOf_1 g1_7 7 rfl (by decide) (off := 72) rfl 73 rfl ?_
    refine S_ldcS 7 7 rfl dX2_wordOf_73 rfl (pc' := 75) rfl ?_
    exact S_sret rfl (Or.inl ⟨_, rfl⟩) dX2_wordOf_75
  refine Sim.ite (fun g1_8 => ?_) (fun g1_8 => ?_)
  · refine S_tabIn dX2_wordOf_1 g1_8 8 rfl (by decide) (off := 75) rfl 76 rfl ?_
    refine S_ldcS 8 8 rfl dX2_wordOf_76 rfl (pc' := 78) rfl ?_
    exact S_sret rfl (Or.inl ⟨_, rfl⟩) dX2_wordOf_78
  refine S_tabOut dX2_wordOf_1 (by
      have q0 := i32_ne g1_0
      have q1 := i32_ne g1_1
      have q2 := i32_ne g1_2
      have q3 := i32_ne g1_3
      have q4 := i32_ne g1_4
      have q5 := i32_ne g1_5
      have q6 := i32_ne g1_6
      have q7 := i32_ne g1_7
      have q8 := i32_ne g1_8
      simp only [show Int32.toInt 0 = 0 from rfl, show Int32.toInt 1 = 1 from rfl, show Int32.toInt 2 = 2 from rfl, show Int32.toInt 3 = 3 from rfl, show Int32.toInt 4 = 4 from rfl, show Int32.toInt 5 = 5 from rfl, show Int32.toInt 6 = 6 from rfl, show Int32.toInt 7 = 7 from rfl, show Int32.toInt 8 = 8 from rfl] at q0 q1 q2 q3 q4 q5 q6 q7 q8
      omega) 79 rfl ?_
  refine S_ldcS 9 9 rfl dX2_wordOf_79 rfl (pc' := 81) rfl ?_
  exact S_sret rfl (Or.inl ⟨_, rfl⟩) dX2_wordOf_81
theorem dX2_spells_0 : decode cX2_spells 0 = .ok (.aload_n 0, 1) := by decide +kernel
theorem dX2_spells_1 : decode cX2_spells 1 = .ok (.getfield 32, 3) := by decide +kernel
theorem dX2_spells_4 : decode cX2_spells 4 = .ok (.iconst 1, 1) := by decide +kernel
theorem dX2_spells_5 : decode cX2_spells 5 = .ok (.if_icmp .ne 19, 3) := by decide +kernel
theorem dX2_spells_8 : decode cX2_spells 8 = .ok (.aload_n 0, 1) := by decide +kernel
theorem dX2_spells_9 : decode cX2_spells 9 = .ok (.getfield 22, 3) := by decide +kernel
theorem dX2_spells_12 : decode cX2_spells 12 = .ok (.aload_n 0, 1) := by decide +kernel
theorem dX2_spells_13 : decode cX2_spells 13 = .ok (.getfield 58, 3) := by decide +kernel
theorem dX2_spells_16 : decode cX2_spells 16 = .ok (.isub, 1) := by decide +kernel
theorem dX2_spells_17 : decode cX2_spells 17 = .ok (.aload_n 1, 1) := by decide +kernel
theorem dX2_spells_18 : decode cX2_spells 18 = .ok (.invokevirtual 79, 3) := by decide +kernel
theorem dX2_spells_21 : decode cX2_spells 21 = .ok (.if_icmp .eq 5, 3) := by decide +kernel
theorem dX2_spells_24 : decode cX2_spells 24 = .ok (.iconst 0, 1) := by decide +kernel
theorem dX2_spells_25 : decode cX2_spells 25 = .ok (.ireturn, 1) := by decide +kernel
theorem dX2_spells_26 : decode cX2_spells 26 = .ok (.iconst 0, 1) := by decide +kernel
theorem dX2_spells_27 : decode cX2_spells 27 = .ok (.istore_n 2, 1) := by decide +kernel
theorem dX2_spells_28 : decode cX2_spells 28 = .ok (.iload_n 2, 1) := by decide +kernel
theorem dX2_spells_29 : decode cX2_spells 29 = .ok (.aload_n 1, 1) := by decide +kernel
theorem dX2_spells_30 : decode cX2_spells 30 = .ok (.invokevirtual 79, 3) := by decide +kernel
theorem dX2_spells_33 : decode cX2_spells 33 = .ok (.if_icmp .ge 30, 3) := by decide +kernel
theorem dX2_spells_36 : decode cX2_spells 36 = .ok (.aload_n 0, 1) := by decide +kernel
theorem dX2_spells_37 : decode cX2_spells 37 = .ok (.getfield 9, 3) := by decide +kernel
theorem dX2_spells_40 : decode cX2_spells 40 = .ok (.aload_n 0, 1) := by decide +kernel
theorem dX2_spells_41 : decode cX2_spells 41 = .ok (.getfield 58, 3) := by decide +kernel
theorem dX2_spells_44 : decode cX2_spells 44 = .ok (.iload_n 2, 1) := by decide +kernel
theorem dX2_spells_45 : decode cX2_spells 45 = .ok (.iadd, 1) := by decide +kernel
theorem dX2_spells_46 : decode cX2_spells 46 = .ok (.iaload, 1) := by decide +kernel
theorem dX2_spells_47 : decode cX2_spells 47 = .ok (.aload_n 1, 1) := by decide +kernel
theorem dX2_spells_48 : decode cX2_spells 48 = .ok (.iload_n 2, 1) := by decide +kernel
theorem dX2_spells_49 : decode cX2_spells 49 = .ok (.invokevirtual 84, 3) := by decide +kernel
theorem dX2_spells_52 : decode cX2_spells 52 = .ok (.if_icmp .eq 5, 3) := by decide +kernel
theorem dX2_spells_55 : decode cX2_spells 55 = .ok (.iconst 0, 1) := by decide +kernel
theorem dX2_spells_56 : decode cX2_spells 56 = .ok (.ireturn, 1) := by decide +kernel
theorem dX2_spells_57 : decode cX2_spells 57 = .ok (.iinc 2 1, 3) := by decide +kernel
theorem dX2_spells_60 : decode cX2_spells 60 = .ok (.goto (-32), 3) := by decide +kernel
theorem dX2_spells_63 : decode cX2_spells 63 = .ok (.iconst 1, 1) := by decide +kernel
theorem dX2_spells_64 : decode cX2_spells 64 = .ok (.ireturn, 1) := by decide +kernel
set_option maxRecDepth 100000 in
set_option maxHeartbeats 4000000 in
theorem lc_X2_spells_28 (Z : ZZ) (l : Launch) (a0 : Nat) (a1 : Nat) {args : Array Value} {h0 h1 : HP} {v0 : Int32} (K : HP → Option (Int32 × HP)) (F : Int32 → HP → Option (Int32 × HP))
    (hK : ∀ (h : HP), Sim Z l cX2_spells RX2 3 5 141 (some .boolean) "spells" args (Mq Z args h0 h1 (some (.int v0))) h0 h1 v0 63 [] [] h (K h))
    (hF : ∀ (b2 : Int32) (h : HP), Sim Z l cX2_spells RX2 3 5 141 (some .boolean) "spells" args (Mq Z args h0 h1 (some (.int v0))) h0 h1 v0 28 [(0, .ref (zb Z + a0)), (1, .ref (zK Z a1)), (2, .int b2)] [] h (F b2 h)) :
    ∀ (b2 : Int32) (h : HP), Sim Z l cX2_spells RX2 3 5 141 (some .boolean) "spells" args (Mq Z args h0 h1 (some (.int v0))) h0 h1 v0 28 [(0, .ref (zb Z + a0)), (1, .ref (zK Z a1)), (2, .int b2)] [] h (lb_X2_spells_28 a0 a1 K F b2 h) := by
  intro b2 h
  unfold lb_X2_spells_28
  refine S_iload_n dX2_spells_28 rfl 2 rfl (pc' := 29) rfl ?_
  refine S_aload_n dX2_spells_29 rfl 1 rfl (pc' := 30) rfl ?_
  refine S_strlen ml_X2_79 mi_J0_length_8abf5 dX2_spells_30 ⟨Nat.le_of_ble_eq_true rfl, Nat.le_of_ble_eq_true rfl⟩ (Nat.le_of_ble_eq_true rfl) (pc' := 33) rfl (fun x30 => ?_)
  refine S_icmp_ge dX2_spells_33 63 rfl (pc' := 36) rfl (fun g33 => ?_) (fun g33 => ?_)
  · refine Sim.sub [] rfl ?_
    exact hK _
  · refine S_aload_n dX2_spells_36 rfl 0 rfl (pc' := 37) rfl ?_
    refine S_getR fl_X2_9 rfl dX2_spells_37 (pc' := 40) rfl (fun x37 => ?_)
    refine S_aload_n dX2_spells_40 rfl 0 rfl (pc' := 41) rfl ?_
    refine S_getI fl_X2_58 rfl dX2_spells_41 (pc' := 44) rfl (fun x41 => ?_)
    refine S_iload_n dX2_spells_44 rfl 2 rfl (pc' := 45) rfl ?_
    refine S_iadd dX2_spells_45 (pc' := 46) rfl ?_
    refine S_iaload dX2_spells_46 (pc' := 47) rfl (fun x46 => ?_)
    refine S_aload_n dX2_spells_47 rfl 1 rfl (pc' := 48) rfl ?_
    refine S_iload_n dX2_spells_48 rfl 2 rfl (pc' := 49) rfl ?_
    refine S_strat ml_X2_84 mi_J0_charAt_5068e dX2_spells_49 ⟨Nat.le_of_ble_eq_true rfl, Nat.le_of_ble_eq_true rfl⟩ (Nat.le_of_ble_eq_true rfl) (pc' := 52) rfl (fun x49 => ?_)
    refine S_icmp_eq dX2_spells_52 57 rfl (pc' := 55) rfl (fun g52 => ?_) (fun g52 => ?_)
    · refine S_iinc dX2_spells_57 (q := 2) rfl (v := b2 + 1) rfl (by decide) (lo' := [(2, .int (b2 + 1)), (0, .ref (zb Z + a0)), (1, .ref (zK Z a1))]) rfl (pc' := 60) rfl ?_
      refine S_goto dX2_spells_60 28 rfl ?_
      refine Sim.sub [1, 2, 0] rfl ?_
      exact hF _ _
    · refine S_iconst dX2_spells_55 (v := 0) rfl (pc' := 56) rfl ?_
      exact S_zret rfl dX2_spells_56
theorem lq_X2_spells_28 (Z : ZZ) (l : Launch) (a0 : Nat) (a1 : Nat) {args : Array Value} {h0 h1 : HP} {v0 : Int32} (K : HP → Option (Int32 × HP))
    (hK : ∀ (h : HP), Sim Z l cX2_spells RX2 3 5 141 (some .boolean) "spells" args (Mq Z args h0 h1 (some (.int v0))) h0 h1 v0 63 [] [] h (K h)) :
    ∀ (k : Nat) (b2 : Int32) (h : HP), Sim Z l cX2_spells RX2 3 5 141 (some .boolean) "spells" args (Mq Z args h0 h1 (some (.int v0))) h0 h1 v0 28 [(0, .ref (zb Z + a0)), (1, .ref (zK Z a1)), (2, .int b2)] [] h (lp_X2_spells_28 a0 a1 K k b2 h) := by
  intro k
  induction k with
  | zero => exact fun _ _ => Sim.none
  | succ k ih => exact lc_X2_spells_28 Z l a0 a1 K _ hK ih
set_option maxRecDepth 100000 in
set_option maxHeartbeats 4000000 in
theorem c_X2_spells (Z : ZZ) (l : Launch) (t : Nat) (a1 : Nat) (h : HP) {v : Int32} {h1 : HP} (ho : f_X2_spells t a1 h = some (v, h1)) : MetP Z l yX2_spells cX2_spells 3 (some .boolean) 5 141 [.ref (zb Z + t), .ref (zK Z a1)] h (some (.int v)) h1 := by
  refine MetP_of ho (by decide +kernel) (Nat.le_of_ble_eq_true rfl) [(0, .ref (zb Z + t)), (1, .ref (zK Z a1))] rfl (own := RX2) rfl (nm := "spells") rfl ?_
  unfold f_X2_spells
  refine S_aload_n dX2_spells_0 rfl 0 rfl (pc' := 1) rfl ?_
  refine S_getI fl_X2_32 rfl dX2_spells_1 (pc' := 4) rfl (fun x1 => ?_)
  refine S_iconst dX2_spells_4 (v := 1) rfl (pc' := 5) rfl ?_
  refine S_icmp_ne dX2_spells_5 24 rfl (pc' := 8) rfl (fun g5 => ?_) (fun g5 => ?_)
  · refine S_iconst dX2_spells_24 (v := 0) rfl (pc' := 25) rfl ?_
    exact S_zret rfl dX2_spells_25
  · refine S_aload_n dX2_spells_8 rfl 0 rfl (pc' := 9) rfl ?_
    refine S_getI fl_X2_22 rfl dX2_spells_9 (pc' := 12) rfl (fun x9 => ?_)
    refine S_aload_n dX2_spells_12 rfl 0 rfl (pc' := 13) rfl ?_
    refine S_getI fl_X2_58 rfl dX2_spells_13 (pc' := 16) rfl (fun x13 => ?_)
    refine S_isub dX2_spells_16 (pc' := 17) rfl ?_
    refine S_aload_n dX2_spells_17 rfl 1 rfl (pc' := 18) rfl ?_
    refine S_strlen ml_X2_79 mi_J0_length_8abf5 dX2_spells_18 ⟨Nat.le_of_ble_eq_true rfl, Nat.le_of_ble_eq_true rfl⟩ (Nat.le_of_ble_eq_true rfl) (pc' := 21) rfl (fun x18 => ?_)
    refine S_icmp_eq dX2_spells_21 26 rfl (pc' := 24) rfl (fun g21 => ?_) (fun g21 => ?_)
    · refine S_iconst dX2_spells_26 (v := 0) rfl (pc' := 27) rfl ?_
      refine S_istore_n dX2_spells_27 rfl (by decide) (lo' := [(2, .int 0), (0, .ref (zb Z + t)), (1, .ref (zK Z a1))]) rfl (pc' := 28) rfl ?_
      refine Sim.sub [1, 2, 0] rfl ?_
      refine lq_X2_spells_28 Z l t a1 _ ?_ 1000 _ _
      intro h28_
      refine S_iconst dX2_spells_63 (v := 1) rfl (pc' := 64) rfl ?_
      exact S_zret rfl dX2_spells_64
    · refine S_iconst dX2_spells_24 (v := 0) rfl (pc' := 25) rfl ?_
      exact S_zret rfl dX2_spells_25
theorem dX2_formOfWord_0 : decode cX2_formOfWord 0 = .ok (.iconst 0, 1) := by decide +kernel
theorem dX2_formOfWord_1 : decode cX2_formOfWord 1 = .ok (.istore_n 1, 1) := by decide +kernel
theorem dX2_formOfWord_2 : decode cX2_formOfWord 2 = .ok (.iload_n 1, 1) := by decide +kernel
theorem dX2_formOfWord_3 : decode cX2_formOfWord 3 = .ok (.bipush 10, 2) := by decide +kernel
theorem dX2_formOfWord_5 : decode cX2_formOfWord 5 = .ok (.if_icmp .ge 22, 3) := by decide +kernel
theorem dX2_formOfWord_8 : decode cX2_formOfWord 8 = .ok (.aload_n 0, 1) := by decide +kernel
theorem dX2_formOfWord_9 : decode cX2_formOfWord 9 = .ok (.iload_n 1, 1) := by decide +kernel
theorem dX2_formOfWord_10 : decode cX2_formOfWord 10 = .ok (.invokestatic 71, 3) := by decide +kernel
theorem dX2_formOfWord_13 : decode cX2_formOfWord 13 = .ok (.invokevirtual 75, 3) := by decide +kernel
theorem dX2_formOfWord_16 : decode cX2_formOfWord 16 = .ok (.ifCond .eq 5, 3) := by decide +kernel
theorem dX2_formOfWord_19 : decode cX2_formOfWord 19 = .ok (.iload_n 1, 1) := by decide +kernel
theorem dX2_formOfWord_20 : decode cX2_formOfWord 20 = .ok (.ireturn, 1) := by decide +kernel
theorem dX2_formOfWord_21 : decode cX2_formOfWord 21 = .ok (.iinc 1 1, 3) := by decide +kernel
theorem dX2_formOfWord_24 : decode cX2_formOfWord 24 = .ok (.goto (-22), 3) := by decide +kernel
theorem dX2_formOfWord_27 : decode cX2_formOfWord 27 = .ok (.iconst (-1), 1) := by decide +kernel
theorem dX2_formOfWord_28 : decode cX2_formOfWord 28 = .ok (.ireturn, 1) := by decide +kernel
set_option maxRecDepth 100000 in
set_option maxHeartbeats 4000000 in
theorem lc_X2_formOfWord_2 (Z : ZZ) (l : Launch) (a0 : Nat) {args : Array Value} {h0 h1 : HP} {v0 : Int32} (K : HP → Option (Int32 × HP)) (F : Int32 → HP → Option (Int32 × HP))
    (hK : ∀ (h : HP), Sim Z l cX2_formOfWord RX2 2 6 163 (some .int) "formOfWord" args (Mq Z args h0 h1 (some (.int v0))) h0 h1 v0 27 [] [] h (K h))
    (hF : ∀ (b1 : Int32) (h : HP), Sim Z l cX2_formOfWord RX2 2 6 163 (some .int) "formOfWord" args (Mq Z args h0 h1 (some (.int v0))) h0 h1 v0 2 [(0, .ref (zb Z + a0)), (1, .int b1)] [] h (F b1 h)) :
    ∀ (b1 : Int32) (h : HP), Sim Z l cX2_formOfWord RX2 2 6 163 (some .int) "formOfWord" args (Mq Z args h0 h1 (some (.int v0))) h0 h1 v0 2 [(0, .ref (zb Z + a0)), (1, .int b1)] [] h (lb_X2_formOfWord_2 a0 K F b1 h) := by
  intro b1 h
  unfold lb_X2_formOfWord_2
  refine S_iload_n dX2_formOfWord_2 rfl 1 rfl (pc' := 3) rfl ?_
  refine S_bipush dX2_formOfWord_3 (v := 10) rfl (pc' := 5) rfl ?_
  refine S_icmp_ge dX2_formOfWord_5 27 rfl (pc' := 8) rfl (fun g5 => ?_) (fun g5 => ?_)
  · refine Sim.sub [] rfl ?_
    exact hK _
  · refine S_aload_n dX2_formOfWord_8 rfl 0 rfl (pc' := 9) rfl ?_
    refine S_iload_n dX2_formOfWord_9 rfl 1 rfl (pc' := 10) rfl ?_
    refine S_stas ml_X2_71 ms_X2_wordOf dX2_formOfWord_10 [.int b1] rfl (fun v h2 q => c_X2_wordOf Z l _ _ q) ⟨Nat.le_of_ble_eq_true rfl, Nat.le_of_ble_eq_true rfl⟩ (rest := [.ref (zb Z + a0)]) (Nat.le_of_ble_eq_true rfl) rfl (pc' := 13) rfl (fun x10 h10 => ?_)
    refine S_invi ml_X2_75 mi_X2_spells (ci := 2) ⟨_, rfl, rfl⟩ (by decide) dX2_formOfWord_13 [.ref (zK Z x10)] rfl (fun v h2 q => c_X2_spells Z l _ _ _ q) ⟨Nat.le_of_ble_eq_true rfl, Nat.le_of_ble_eq_true rfl⟩ (rest := []) (Nat.le_of_ble_eq_true rfl) rfl (pc' := 16) rfl (fun x13 h13 => ?_)
    refine S_if_eq dX2_formOfWord_16 21 rfl (pc' := 19) rfl (fun g16 => ?_) (fun g16 => ?_)
    · refine S_iinc dX2_formOfWord_21 (q := 1) rfl (v := b1 + 1) rfl (by decide) (lo' := [(1, .int (b1 + 1)), (0, .ref (zb Z + a0))]) rfl (pc' := 24) rfl ?_
      refine S_goto dX2_formOfWord_24 2 rfl ?_
      refine Sim.sub [1, 0] rfl ?_
      exact hF _ _
    · refine S_iload_n dX2_formOfWord_19 rfl 1 rfl (pc' := 20) rfl ?_
      exact S_iret rfl dX2_formOfWord_20
theorem lq_X2_formOfWord_2 (Z : ZZ) (l : Launch) (a0 : Nat) {args : Array Value} {h0 h1 : HP} {v0 : Int32} (K : HP → Option (Int32 × HP))
    (hK : ∀ (h : HP), Sim Z l cX2_formOfWord RX2 2 6 163 (some .int) "formOfWord" args (Mq Z args h0 h1 (some (.int v0))) h0 h1 v0 27 [] [] h (K h)) :
    ∀ (k : Nat) (b1 : Int32) (h : HP), Sim Z l cX2_formOfWord RX2 2 6 163 (some .int) "formOfWord" args (Mq Z args h0 h1 (some (.int v0))) h0 h1 v0 2 [(0, .ref (zb Z + a0)), (1, .int b1)] [] h (lp_X2_formOfWord_2 a0 K k b1 h) := by
  intro k
  induction k with
  | zero => exact fun _ _ => Sim.none
  | succ k ih => exact lc_X2_formOfWord_2 Z l a0 K _ hK ih
set_option maxRecDepth 100000 in
set_option maxHeartbeats 4000000 in
theorem c_X2_formOfWord (Z : ZZ) (l : Launch) (t : Nat) (h : HP) {v : Int32} {h1 : HP} (ho : f_X2_formOfWord t h = some (v, h1)) : MetP Z l yX2_formOfWord cX2_formOfWord 2 (some .int) 6 163 [.ref (zb Z + t)] h (some (.int v)) h1 := by
  refine MetP_of ho (by decide +kernel) (Nat.le_of_ble_eq_true rfl) [(0, .ref (zb Z + t))] rfl (own := RX2) rfl (nm := "formOfWord") rfl ?_
  unfold f_X2_formOfWord
  refine S_iconst dX2_formOfWord_0 (v := 0) rfl (pc' := 1) rfl ?_
  refine S_istore_n dX2_formOfWord_1 rfl (by decide) (lo' := [(1, .int 0), (0, .ref (zb Z + t))]) rfl (pc' := 2) rfl ?_
  refine Sim.sub [1, 0] rfl ?_
  refine lq_X2_formOfWord_2 Z l t _ ?_ 1000 _ _
  intro h2_
  refine S_iconst dX2_formOfWord_27 (v := (-1)) rfl (pc' := 28) rfl ?_
  exact S_iret rfl dX2_formOfWord_28
theorem dX2_hasRoom_0 : decode cX2_hasRoom 0 = .ok (.iload_n 1, 1) := by decide +kernel
theorem dX2_hasRoom_1 : decode cX2_hasRoom 1 = .ok (.ifCond .ne 12, 3) := by decide +kernel
theorem dX2_hasRoom_4 : decode cX2_hasRoom 4 = .ok (.aload_n 0, 1) := by decide +kernel
theorem dX2_hasRoom_5 : decode cX2_hasRoom 5 = .ok (.getfield 108, 3) := by decide +kernel
theorem dX2_hasRoom_8 : decode cX2_hasRoom 8 = .ok (.bipush 8, 2) := by decide +kernel
theorem dX2_hasRoom_10 : decode cX2_hasRoom 10 = .ok (.if_icmp .ge 21, 3) := by decide +kernel
theorem dX2_hasRoom_13 : decode cX2_hasRoom 13 = .ok (.iload_n 1, 1) := by decide +kernel
theorem dX2_hasRoom_14 : decode cX2_hasRoom 14 = .ok (.iconst 1, 1) := by decide +kernel
theorem dX2_hasRoom_15 : decode cX2_hasRoom 15 = .ok (.if_icmp .ne 12, 3) := by decide +kernel
theorem dX2_hasRoom_18 : decode cX2_hasRoom 18 = .ok (.aload_n 0, 1) := by decide +kernel
theorem dX2_hasRoom_19 : decode cX2_hasRoom 19 = .ok (.getfield 113, 3) := by decide +kernel
theorem dX2_hasRoom_22 : decode cX2_hasRoom 22 = .ok (.bipush 6, 2) := by decide +kernel
theorem dX2_hasRoom_24 : decode cX2_hasRoom 24 = .ok (.if_icmp .ge 7, 3) := by decide +kernel
theorem dX2_hasRoom_27 : decode cX2_hasRoom 27 = .ok (.iconst 1, 1) := by decide +kernel
theorem dX2_hasRoom_28 : decode cX2_hasRoom 28 = .ok (.goto 4, 3) := by decide +kernel
theorem dX2_hasRoom_31 : decode cX2_hasRoom 31 = .ok (.iconst 0, 1) := by decide +kernel
theorem dX2_hasRoom_32 : decode cX2_hasRoom 32 = .ok (.ireturn, 1) := by decide +kernel
set_option maxRecDepth 100000 in
set_option maxHeartbeats 4000000 in
theorem c_X2_hasRoom (Z : ZZ) (l : Launch) (a0 : Nat) (a1 : Int32) (h : HP) {v : Int32} {h1 : HP} (ho : f_X2_hasRoom a0 a1 h = some (v, h1)) : MetP Z l yX2_hasRoom cX2_hasRoom 2 (some .boolean) 0 0 [.ref (zb Z + a0), .int a1] h (some (.int v)) h1 := by
  refine MetP_of ho (by decide +kernel) (Nat.le_of_ble_eq_true rfl) [(0, .ref (zb Z + a0)), (1, .int a1)] rfl (own := RX2) rfl (nm := "hasRoom") rfl ?_
  unfold f_X2_hasRoom
  refine S_iload_n dX2_hasRoom_0 rfl 1 rfl (pc' := 1) rfl ?_
  refine S_if_ne dX2_hasRoom_1 13 rfl (pc' := 4) rfl (fun g1 => ?_) (fun g1 => ?_)
  · refine S_iload_n dX2_hasRoom_13 rfl 1 rfl (pc' := 14) rfl ?_
    refine S_iconst dX2_hasRoom_14 (v := 1) rfl (pc' := 15) rfl ?_
    refine S_icmp_ne dX2_hasRoom_15 27 rfl (pc' := 18) rfl (fun g15 => ?_) (fun g15 => ?_)
    · refine S_iconst dX2_hasRoom_27 (v := 1) rfl (pc' := 28) rfl ?_
      refine S_goto dX2_hasRoom_28 32 rfl ?_
      exact S_zret rfl dX2_hasRoom_32
    · refine S_aload_n dX2_hasRoom_18 rfl 0 rfl (pc' := 19) rfl ?_
      refine S_getI fl_X2_113 rfl dX2_hasRoom_19 (pc' := 22) rfl (fun x19 => ?_)
      refine S_bipush dX2_hasRoom_22 (v := 6) rfl (pc' := 24) rfl ?_
      refine S_icmp_ge dX2_hasRoom_24 31 rfl (pc' := 27) rfl (fun g24 => ?_) (fun g24 => ?_)
      · refine S_iconst dX2_hasRoom_31 (v := 0) rfl (pc' := 32) rfl ?_
        exact S_zret rfl dX2_hasRoom_32
      · refine S_iconst dX2_hasRoom_27 (v := 1) rfl (pc' := 28) rfl ?_
        refine S_goto dX2_hasRoom_28 32 rfl ?_
        exact S_zret rfl dX2_hasRoom_32
  · refine S_aload_n dX2_hasRoom_4 rfl 0 rfl (pc' := 5) rfl ?_
    refine S_getI fl_X2_108 rfl dX2_hasRoom_5 (pc' := 8) rfl (fun x5 => ?_)
    refine S_bipush dX2_hasRoom_8 (v := 8) rfl (pc' := 10) rfl ?_
    refine S_icmp_ge dX2_hasRoom_10 31 rfl (pc' := 13) rfl (fun g10 => ?_) (fun g10 => ?_)
    · refine S_iconst dX2_hasRoom_31 (v := 0) rfl (pc' := 32) rfl ?_
      exact S_zret rfl dX2_hasRoom_32
    · refine S_iload_n dX2_hasRoom_13 rfl 1 rfl (pc' := 14) rfl ?_
      refine S_iconst dX2_hasRoom_14 (v := 1) rfl (pc' := 15) rfl ?_
      refine S_icmp_ne_J dX2_hasRoom_15 27 rfl (pc' := 18) rfl (fun q9 => absurd (g1.symm.trans q9) (by decide)) ?_
      refine S_iconst dX2_hasRoom_27 (v := 1) rfl (pc' := 28) rfl ?_
      refine S_goto dX2_hasRoom_28 32 rfl ?_
      exact S_zret rfl dX2_hasRoom_32
theorem dX2_numbersOf_0 : decode cX2_numbersOf 0 = .ok (.iload_n 0, 1) := by decide +kernel
theorem dX2_numbersOf_1 : decode cX2_numbersOf 1 = .ok (.ifCond .ne 7, 3) := by decide +kernel
theorem dX2_numbersOf_4 : decode cX2_numbersOf 4 = .ok (.iconst 4, 1) := by decide +kernel
theorem dX2_numbersOf_5 : decode cX2_numbersOf 5 = .ok (.goto 14, 3) := by decide +kernel
theorem dX2_numbersOf_8 : decode cX2_numbersOf 8 = .ok (.iload_n 0, 1) := by decide +kernel
theorem dX2_numbersOf_9 : decode cX2_numbersOf 9 = .ok (.bipush 6, 2) := by decide +kernel
theorem dX2_numbersOf_11 : decode cX2_numbersOf 11 = .ok (.if_icmp .lt 7, 3) := by decide +kernel
theorem dX2_numbersOf_14 : decode cX2_numbersOf 14 = .ok (.iconst 1, 1) := by decide +kernel
theorem dX2_numbersOf_15 : decode cX2_numbersOf 15 = .ok (.goto 4, 3) := by decide +kernel
theorem dX2_numbersOf_18 : decode cX2_numbersOf 18 = .ok (.iconst 2, 1) := by decide +kernel
theorem dX2_numbersOf_19 : decode cX2_numbersOf 19 = .ok (.ireturn, 1) := by decide +kernel
set_option maxRecDepth 100000 in
set_option maxHeartbeats 4000000 in
theorem c_X2_numbersOf (Z : ZZ) (l : Launch) (a0 : Int32) (h : HP) {v : Int32} {h1 : HP} (ho : f_X2_numbersOf a0 h = some (v, h1)) : MetP Z l yX2_numbersOf cX2_numbersOf 1 (some .int) 0 0 [.int a0] h (some (.int v)) h1 := by
  refine MetP_of ho (by decide +kernel) (Nat.le_of_ble_eq_true rfl) [(0, .int a0)] rfl (own := RX2) rfl (nm := "numbersOf") rfl ?_
  unfold f_X2_numbersOf
  refine S_iload_n dX2_numbersOf_0 rfl 0 rfl (pc' := 1) rfl ?_
  refine S_if_ne dX2_numbersOf_1 8 rfl (pc' := 4) rfl (fun g1 => ?_) (fun g1 => ?_)
  · refine S_iload_n dX2_numbersOf_8 rfl 0 rfl (pc' := 9) rfl ?_
    refine S_bipush dX2_numbersOf_9 (v := 6) rfl (pc' := 11) rfl ?_
    refine S_icmp_lt dX2_numbersOf_11 18 rfl (pc' := 14) rfl (fun g11 => ?_) (fun g11 => ?_)
    · refine S_iconst dX2_numbersOf_18 (v := 2) rfl (pc' := 19) rfl ?_
      exact S_iret rfl dX2_numbersOf_19
    · refine S_iconst dX2_numbersOf_14 (v := 1) rfl (pc' := 15) rfl ?_
      refine S_goto dX2_numbersOf_15 19 rfl ?_
      exact S_iret rfl dX2_numbersOf_19
  · refine S_iconst dX2_numbersOf_4 (v := 4) rfl (pc' := 5) rfl ?_
    refine S_goto dX2_numbersOf_5 19 rfl ?_
    exact S_iret rfl dX2_numbersOf_19
theorem dX2_limitOf_0 : decode cX2_limitOf 0 = .ok (.iload_n 1, 1) := by decide +kernel
theorem dX2_limitOf_1 : decode cX2_limitOf 1 = .ok (.tableswitch 101 0 9 #[55, 67, 78, 78, 101, 101, 101, 101, 94, 97], 55) := by decide +kernel
theorem dX2_limitOf_56 : decode cX2_limitOf 56 = .ok (.iload_n 2, 1) := by decide +kernel
theorem dX2_limitOf_57 : decode cX2_limitOf 57 = .ok (.ifCond .ne 8, 3) := by decide +kernel
theorem dX2_limitOf_60 : decode cX2_limitOf 60 = .ok (.bipush 6, 2) := by decide +kernel
theorem dX2_limitOf_62 : decode cX2_limitOf 62 = .ok (.goto 5, 3) := by decide +kernel
theorem dX2_limitOf_65 : decode cX2_limitOf 65 = .ok (.bipush 10, 2) := by decide +kernel
theorem dX2_limitOf_67 : decode cX2_limitOf 67 = .ok (.ireturn, 1) := by decide +kernel
theorem dX2_limitOf_68 : decode cX2_limitOf 68 = .ok (.iload_n 2, 1) := by decide +kernel
theorem dX2_limitOf_69 : decode cX2_limitOf 69 = .ok (.ifCond .ne 8, 3) := by decide +kernel
theorem dX2_limitOf_72 : decode cX2_limitOf 72 = .ok (.bipush 10, 2) := by decide +kernel
theorem dX2_limitOf_74 : decode cX2_limitOf 74 = .ok (.goto 4, 3) := by decide +kernel
theorem dX2_limitOf_77 : decode cX2_limitOf 77 = .ok (.iconst 5, 1) := by decide +kernel
theorem dX2_limitOf_78 : decode cX2_limitOf 78 = .ok (.ireturn, 1) := by decide +kernel
theorem dX2_limitOf_79 : decode cX2_limitOf 79 = .ok (.iload_n 2, 1) := by decide +kernel
theorem dX2_limitOf_80 : decode cX2_limitOf 80 = .ok (.ifCond .ne 10, 3) := by decide +kernel
theorem dX2_limitOf_83 : decode cX2_limitOf 83 = .ok (.aload_n 0, 1) := by decide +kernel
theorem dX2_limitOf_84 : decode cX2_limitOf 84 = .ok (.getfield 108, 3) := by decide +kernel
theorem dX2_limitOf_87 : decode cX2_limitOf 87 = .ok (.goto 7, 3) := by decide +kernel
theorem dX2_limitOf_90 : decode cX2_limitOf 90 = .ok (.aload_n 0, 1) := by decide +kernel
theorem dX2_limitOf_91 : decode cX2_limitOf 91 = .ok (.getfield 113, 3) := by decide +kernel
theorem dX2_limitOf_94 : decode cX2_limitOf 94 = .ok (.ireturn, 1) := by decide +kernel
theorem dX2_limitOf_95 : decode cX2_limitOf 95 = .ok (.bipush 10, 2) := by decide +kernel
theorem dX2_limitOf_97 : decode cX2_limitOf 97 = .ok (.ireturn, 1) := by decide +kernel
theorem dX2_limitOf_98 : decode cX2_limitOf 98 = .ok (.sipush 1000, 3) := by decide +kernel
theorem dX2_limitOf_101 : decode cX2_limitOf 101 = .ok (.ireturn, 1) := by decide +kernel
theorem dX2_limitOf_102 : decode cX2_limitOf 102 = .ok (.aload_n 0, 1) := by decide +kernel
theorem dX2_limitOf_103 : decode cX2_limitOf 103 = .ok (.getfield 108, 3) := by decide +kernel
theorem dX2_limitOf_106 : decode cX2_limitOf 106 = .ok (.ireturn, 1) := by decide +kernel
set_option maxRecDepth 100000 in
set_option maxHeartbeats 4000000 in
theorem c_X2_limitOf (Z : ZZ) (l : Launch) (a0 : Nat) (a1 : Int32) (a2 : Int32) (h : HP) {v : Int32} {h1 : HP} (ho : f_X2_limitOf a0 a1 a2 h = some (v, h1)) : MetP Z l yX2_limitOf cX2_limitOf 3 (some .int) 0 0 [.ref (zb Z + a0), .int a1, .int a2] h (some (.int v)) h1 := by
  refine MetP_of ho (by decide +kernel) (Nat.le_of_ble_eq_true rfl) [(0, .ref (zb Z + a0)), (1, .int a1), (2, .int a2)] rfl (own := RX2) rfl (nm := "limitOf") rfl ?_
  unfold f_X2_limitOf
  refine S_iload_n dX2_limitOf_0 rfl 1 rfl (pc' := 1) rfl ?_
  refine Sim.ite (fun g1_0 => ?_) (fun g1_0 => ?_)
  · refine S_tabIn dX2_limitOf_1 g1_0 0 rfl (by decide) (off := 55) rfl 56 rfl ?_
    refine S_iload_n dX2_limitOf_56 rfl 2 rfl (pc' := 57) rfl ?_
    refine S_if_ne dX2_limitOf_57 65 rfl (pc' := 60) rfl (fun g57 => ?_) (fun g57 => ?_)
    · refine S_bipush dX2_limitOf_65 (v := 10) rfl (pc' := 67) rfl ?_
      exact S_iret rfl dX2_limitOf_67
    · refine S_bipush dX2_limitOf_60 (v := 6) rfl (pc' := 62) rfl ?_
      refine S_goto dX2_limitOf_62 67 rfl ?_
      exact S_iret rfl dX2_limitOf_67
  refine Sim.ite (fun g1_1 => ?_) (fun g1_1 => ?_)
  · refine S_tabIn dX2_limitOf_1 g1_1 1 rfl (by decide) (off := 67) rfl 68 rfl ?_
    refine S_iload_n dX2_limitOf_68 rfl 2 rfl (pc' := 69) rfl ?_
    refine S_if_ne dX2_limitOf_69 77 rfl (pc' := 72) rfl (fun g69 => ?_) (fun g69 => ?_)
    · refine S_iconst dX2_limitOf_77 (v := 5) rfl (pc' := 78) rfl ?_
      exact S_iret rfl dX2_limitOf_78
    · refine S_bipush dX2_limitOf_72 (v := 10) rfl (pc' := 74) rfl ?_
      refine S_goto dX2_limitOf_74 78 rfl ?_
      exact S_iret rfl dX2_limitOf_78
  refine Sim.ite (fun g1_2 => ?_) (fun g1_2 => ?_)
  · refine S_tabIn dX2_limitOf_1 g1_2 2 rfl (by decide) (off := 78) rfl 79 rfl ?_
    refine S_iload_n dX2_limitOf_79 rfl 2 rfl (pc' := 80) rfl ?_
    refine S_if_ne dX2_limitOf_80 90 rfl (pc' := 83) rfl (fun g80 => ?_) (fun g80 => ?_)
    · refine S_aload_n dX2_limitOf_90 rfl 0 rfl (pc' := 91) rfl ?_
      refine S_getI fl_X2_113 rfl dX2_limitOf_91 (pc' := 94) rfl (fun x91 => ?_)
      exact S_iret rfl dX2_limitOf_94
    · refine S_aload_n dX2_limitOf_83 rfl 0 rfl (pc' := 84) rfl ?_
      refine S_getI fl_X2_108 rfl dX2_limitOf_84 (pc' := 87) rfl (fun x84 => ?_)
      refine S_goto dX2_limitOf_87 94 rfl ?_
      exact S_iret rfl dX2_limitOf_94
  refine Sim.ite (fun g1_3 => ?_) (fun g1_3 => ?_)
  · refine S_tabIn dX2_limitOf_1 g1_3 3 rfl (by decide) (off := 78) rfl 79 rfl ?_
    refine S_iload_n dX2_limitOf_79 rfl 2 rfl (pc' := 80) rfl ?_
    refine S_if_ne dX2_limitOf_80 90 rfl (pc' := 83) rfl (fun g80 => ?_) (fun g80 => ?_)
    · refine S_aload_n dX2_limitOf_90 rfl 0 rfl (pc' := 91) rfl ?_
      refine S_getI fl_X2_113 rfl dX2_limitOf_91 (pc' := 94) rfl (fun x91 => ?_)
      exact S_iret rfl dX2_limitOf_94
    · refine S_aload_n dX2_limitOf_83 rfl 0 rfl (pc' := 84) rfl ?_
      refine S_getI fl_X2_108 rfl dX2_limitOf_84 (pc' := 87) rfl (fun x84 => ?_)
      refine S_goto dX2_limitOf_87 94 rfl ?_
      exact S_iret rfl dX2_limitOf_94
  refine Sim.ite (fun g1_4 => ?_) (fun g1_4 => ?_)
  · refine S_tabIn dX2_limitOf_1 g1_4 4 rfl (by decide) (off := 101) rfl 102 rfl ?_
    refine S_aload_n dX2_limitOf_102 rfl 0 rfl (pc' := 103) rfl ?_
    refine S_getI fl_X2_108 rfl dX2_limitOf_103 (pc' := 106) rfl (fun x103 => ?_)
    exact S_iret rfl dX2_limitOf_106
  refine Sim.ite (fun g1_5 => ?_) (fun g1_5 => ?_)
  · refine S_tabIn dX2_limitOf_1 g1_5 5 rfl (by decide) (off := 101) rfl 102 rfl ?_
    refine S_aload_n dX2_limitOf_102 rfl 0 rfl (pc' := 103) rfl ?_
    refine S_getI fl_X2_108 rfl dX2_limitOf_103 (pc' := 106) rfl (fun x103 => ?_)
    exact S_iret rfl dX2_limitOf_106
  refine Sim.ite (fun g1_6 => ?_) (fun g1_6 => ?_)
  · refine S_tabIn dX2_limitOf_1 g1_6 6 rfl (by decide) (off := 101) rfl 102 rfl ?_
    refine S_aload_n dX2_limitOf_102 rfl 0 rfl (pc' := 103) rfl ?_
    refine S_getI fl_X2_108 rfl dX2_limitOf_103 (pc' := 106) rfl (fun x103 => ?_)
    exact S_iret rfl dX2_limitOf_106
  refine Sim.ite (fun g1_7 => ?_) (fun g1_7 => ?_)
  · refine S_tabIn dX2_limitOf_1 g1_7 7 rfl (by decide) (off := 101) rfl 102 rfl ?_
    refine S_aload_n dX2_limitOf_102 rfl 0 rfl (pc' := 103) rfl ?_
    refine S_getI fl_X2_108 rfl dX2_limitOf_103 (pc' := 106) rfl (fun x103 => ?_)
    exact S_iret rfl dX2_limitOf_106
  refine Sim.ite (fun g1_8 => ?_) (fun g1_8 => ?_)
  · refine S_tabIn dX2_limitOf_1 g1_8 8 rfl (by decide) (off := 94) rfl 95 rfl ?_
    refine S_bipush dX2_limitOf_95 (v := 10) rfl (pc' := 97) rfl ?_
    exact S_iret rfl dX2_limitOf_97
  refine Sim.ite (fun g1_9 => ?_) (fun g1_9 => ?_)
  · refine S_tabIn dX2_limitOf_1 g1_9 9 rfl (by decide) (off := 97) rfl 98 rfl ?_
    refine S_sipush dX2_limitOf_98 (v := 1000) rfl (pc' := 101) rfl ?_
    exact S_iret rfl dX2_limitOf_101
  refine S_tabOut dX2_limitOf_1 (by
      have q0 := i32_ne g1_0
      have q1 := i32_ne g1_1
      have q2 := i32_ne g1_2
      have q3 := i32_ne g1_3
      have q4 := i32_ne g1_4
      have q5 := i32_ne g1_5
      have q6 := i32_ne g1_6
      have q7 := i32_ne g1_7
      have q8 := i32_ne g1_8
      have q9 := i32_ne g1_9
      simp only [show Int32.toInt 0 = 0 from rfl, show Int32.toInt 1 = 1 from rfl, show Int32.toInt 2 = 2 from rfl, show Int32.toInt 3 = 3 from rfl, show Int32.toInt 4 = 4 from rfl, show Int32.toInt 5 = 5 from rfl, show Int32.toInt 6 = 6 from rfl, show Int32.toInt 7 = 7 from rfl, show Int32.toInt 8 = 8 from rfl, show Int32.toInt 9 = 9 from rfl] at q0 q1 q2 q3 q4 q5 q6 q7 q8 q9
      omega) 102 rfl ?_
  refine S_aload_n dX2_limitOf_102 rfl 0 rfl (pc' := 103) rfl ?_
  refine S_getI fl_X2_108 rfl dX2_limitOf_103 (pc' := 106) rfl (fun x103 => ?_)
  exact S_iret rfl dX2_limitOf_106
theorem dX2_apply_0 : decode cX2_apply 0 = .ok (.iload_n 2, 1) := by decide +kernel
theorem dX2_apply_1 : decode cX2_apply 1 = .ok (.tableswitch 198 0 8 #[51, 83, 103, 103, 132, 132, 161, 161, 185], 51) := by decide +kernel
theorem dX2_apply_52 : decode cX2_apply 52 = .ok (.aload_n 1, 1) := by decide +kernel
theorem dX2_apply_53 : decode cX2_apply 53 = .ok (.aload_n 0, 1) := by decide +kernel
theorem dX2_apply_54 : decode cX2_apply 54 = .ok (.getfield 15, 3) := by decide +kernel
theorem dX2_apply_57 : decode cX2_apply 57 = .ok (.iconst 0, 1) := by decide +kernel
theorem dX2_apply_58 : decode cX2_apply 58 = .ok (.iaload, 1) := by decide +kernel
theorem dX2_apply_59 : decode cX2_apply 59 = .ok (.aload_n 0, 1) := by decide +kernel
theorem dX2_apply_60 : decode cX2_apply 60 = .ok (.getfield 15, 3) := by decide +kernel
theorem dX2_apply_63 : decode cX2_apply 63 = .ok (.iconst 1, 1) := by decide +kernel
theorem dX2_apply_64 : decode cX2_apply 64 = .ok (.iaload, 1) := by decide +kernel
theorem dX2_apply_65 : decode cX2_apply 65 = .ok (.aload_n 0, 1) := by decide +kernel
theorem dX2_apply_66 : decode cX2_apply 66 = .ok (.getfield 15, 3) := by decide +kernel
theorem dX2_apply_69 : decode cX2_apply 69 = .ok (.iconst 2, 1) := by decide +kernel
theorem dX2_apply_70 : decode cX2_apply 70 = .ok (.iaload, 1) := by decide +kernel
theorem dX2_apply_71 : decode cX2_apply 71 = .ok (.aload_n 0, 1) := by decide +kernel
theorem dX2_apply_72 : decode cX2_apply 72 = .ok (.getfield 15, 3) := by decide +kernel
theorem dX2_apply_75 : decode cX2_apply 75 = .ok (.iconst 3, 1) := by decide +kernel
theorem dX2_apply_76 : decode cX2_apply 76 = .ok (.iaload, 1) := by decide +kernel
theorem dX2_apply_77 : decode cX2_apply 77 = .ok (.invokevirtual 116, 3) := by decide +kernel
theorem dX2_apply_80 : decode cX2_apply 80 = .ok (.pop, 1) := by decide +kernel
theorem dX2_apply_81 : decode cX2_apply 81 = .ok (.goto 128, 3) := by decide +kernel
theorem dX2_apply_84 : decode cX2_apply 84 = .ok (.aload_n 1, 1) := by decide +kernel
theorem dX2_apply_85 : decode cX2_apply 85 = .ok (.aload_n 0, 1) := by decide +kernel
theorem dX2_apply_86 : decode cX2_apply 86 = .ok (.getfield 15, 3) := by decide +kernel
theorem dX2_apply_89 : decode cX2_apply 89 = .ok (.iconst 0, 1) := by decide +kernel
theorem dX2_apply_90 : decode cX2_apply 90 = .ok (.iaload, 1) := by decide +kernel
theorem dX2_apply_91 : decode cX2_apply 91 = .ok (.aload_n 0, 1) := by decide +kernel
theorem dX2_apply_92 : decode cX2_apply 92 = .ok (.getfield 15, 3) := by decide +kernel
theorem dX2_apply_95 : decode cX2_apply 95 = .ok (.iconst 1, 1) := by decide +kernel
theorem dX2_apply_96 : decode cX2_apply 96 = .ok (.iaload, 1) := by decide +kernel
theorem dX2_apply_97 : decode cX2_apply 97 = .ok (.invokevirtual 120, 3) := by decide +kernel
theorem dX2_apply_100 : decode cX2_apply 100 = .ok (.pop, 1) := by decide +kernel
theorem dX2_apply_101 : decode cX2_apply 101 = .ok (.goto 108, 3) := by decide +kernel
theorem dX2_apply_104 : decode cX2_apply 104 = .ok (.aload_n 1, 1) := by decide +kernel
theorem dX2_apply_105 : decode cX2_apply 105 = .ok (.aload_n 0, 1) := by decide +kernel
theorem dX2_apply_106 : decode cX2_apply 106 = .ok (.getfield 15, 3) := by decide +kernel
theorem dX2_apply_109 : decode cX2_apply 109 = .ok (.iconst 0, 1) := by decide +kernel
theorem dX2_apply_110 : decode cX2_apply 110 = .ok (.iaload, 1) := by decide +kernel
theorem dX2_apply_111 : decode cX2_apply 111 = .ok (.aload_n 0, 1) := by decide +kernel
theorem dX2_apply_112 : decode cX2_apply 112 = .ok (.getfield 15, 3) := by decide +kernel
theorem dX2_apply_115 : decode cX2_apply 115 = .ok (.iconst 1, 1) := by decide +kernel
theorem dX2_apply_116 : decode cX2_apply 116 = .ok (.iaload, 1) := by decide +kernel
theorem dX2_apply_117 : decode cX2_apply 117 = .ok (.iload_n 2, 1) := by decide +kernel
theorem dX2_apply_118 : decode cX2_apply 118 = .ok (.iconst 2, 1) := by decide +kernel
theorem dX2_apply_119 : decode cX2_apply 119 = .ok (.if_icmp .ne 7, 3) := by decide +kernel
theorem dX2_apply_122 : decode cX2_apply 122 = .ok (.iconst 0, 1) := by decide +kernel
theorem dX2_apply_123 : decode cX2_apply 123 = .ok (.goto 4, 3) := by decide +kernel
theorem dX2_apply_126 : decode cX2_apply 126 = .ok (.iconst (-1), 1) := by decide +kernel
theorem dX2_apply_127 : decode cX2_apply 127 = .ok (.invokevirtual 124, 3) := by decide +kernel
theorem dX2_apply_130 : decode cX2_apply 130 = .ok (.goto 79, 3) := by decide +kernel
theorem dX2_apply_133 : decode cX2_apply 133 = .ok (.aload_n 1, 1) := by decide +kernel
theorem dX2_apply_134 : decode cX2_apply 134 = .ok (.aload_n 0, 1) := by decide +kernel
theorem dX2_apply_135 : decode cX2_apply 135 = .ok (.getfield 15, 3) := by decide +kernel
theorem dX2_apply_138 : decode cX2_apply 138 = .ok (.iconst 0, 1) := by decide +kernel
theorem dX2_apply_139 : decode cX2_apply 139 = .ok (.iaload, 1) := by decide +kernel
theorem dX2_apply_140 : decode cX2_apply 140 = .ok (.aload_n 0, 1) := by decide +kernel
theorem dX2_apply_141 : decode cX2_apply 141 = .ok (.getfield 15, 3) := by decide +kernel
theorem dX2_apply_144 : decode cX2_apply 144 = .ok (.iconst 1, 1) := by decide +kernel
theorem dX2_apply_145 : decode cX2_apply 145 = .ok (.iaload, 1) := by decide +kernel
theorem dX2_apply_146 : decode cX2_apply 146 = .ok (.iload_n 2, 1) := by decide +kernel
theorem dX2_apply_147 : decode cX2_apply 147 = .ok (.iconst 4, 1) := by decide +kernel
theorem dX2_apply_148 : decode cX2_apply 148 = .ok (.if_icmp .ne 7, 3) := by decide +kernel
theorem dX2_apply_151 : decode cX2_apply 151 = .ok (.iconst 1, 1) := by decide +kernel
theorem dX2_apply_152 : decode cX2_apply 152 = .ok (.goto 4, 3) := by decide +kernel
theorem dX2_apply_155 : decode cX2_apply 155 = .ok (.iconst 0, 1) := by decide +kernel
theorem dX2_apply_156 : decode cX2_apply 156 = .ok (.invokevirtual 128, 3) := by decide +kernel
theorem dX2_apply_159 : decode cX2_apply 159 = .ok (.goto 50, 3) := by decide +kernel
theorem dX2_apply_162 : decode cX2_apply 162 = .ok (.aload_n 1, 1) := by decide +kernel
theorem dX2_apply_163 : decode cX2_apply 163 = .ok (.aload_n 0, 1) := by decide +kernel
theorem dX2_apply_164 : decode cX2_apply 164 = .ok (.getfield 15, 3) := by decide +kernel
theorem dX2_apply_167 : decode cX2_apply 167 = .ok (.iconst 0, 1) := by decide +kernel
theorem dX2_apply_168 : decode cX2_apply 168 = .ok (.iaload, 1) := by decide +kernel
theorem dX2_apply_169 : decode cX2_apply 169 = .ok (.iload_n 2, 1) := by decide +kernel
theorem dX2_apply_170 : decode cX2_apply 170 = .ok (.bipush 6, 2) := by decide +kernel
theorem dX2_apply_172 : decode cX2_apply 172 = .ok (.if_icmp .ne 7, 3) := by decide +kernel
theorem dX2_apply_175 : decode cX2_apply 175 = .ok (.iconst 1, 1) := by decide +kernel
theorem dX2_apply_176 : decode cX2_apply 176 = .ok (.goto 4, 3) := by decide +kernel
theorem dX2_apply_179 : decode cX2_apply 179 = .ok (.iconst 0, 1) := by decide +kernel
theorem dX2_apply_180 : decode cX2_apply 180 = .ok (.invokevirtual 132, 3) := by decide +kernel
theorem dX2_apply_183 : decode cX2_apply 183 = .ok (.goto 26, 3) := by decide +kernel
theorem dX2_apply_186 : decode cX2_apply 186 = .ok (.aload_n 1, 1) := by decide +kernel
theorem dX2_apply_187 : decode cX2_apply 187 = .ok (.aload_n 0, 1) := by decide +kernel
theorem dX2_apply_188 : decode cX2_apply 188 = .ok (.getfield 15, 3) := by decide +kernel
theorem dX2_apply_191 : decode cX2_apply 191 = .ok (.iconst 0, 1) := by decide +kernel
theorem dX2_apply_192 : decode cX2_apply 192 = .ok (.iaload, 1) := by decide +kernel
theorem dX2_apply_193 : decode cX2_apply 193 = .ok (.putfield 136, 3) := by decide +kernel
theorem dX2_apply_196 : decode cX2_apply 196 = .ok (.goto 13, 3) := by decide +kernel
theorem dX2_apply_199 : decode cX2_apply 199 = .ok (.aload_n 1, 1) := by decide +kernel
theorem dX2_apply_200 : decode cX2_apply 200 = .ok (.aload_n 0, 1) := by decide +kernel
theorem dX2_apply_201 : decode cX2_apply 201 = .ok (.getfield 15, 3) := by decide +kernel
theorem dX2_apply_204 : decode cX2_apply 204 = .ok (.iconst 0, 1) := by decide +kernel
theorem dX2_apply_205 : decode cX2_apply 205 = .ok (.iaload, 1) := by decide +kernel
theorem dX2_apply_206 : decode cX2_apply 206 = .ok (.putfield 138, 3) := by decide +kernel
theorem dX2_apply_209 : decode cX2_apply 209 = .ok (.return_, 1) := by decide +kernel
set_option maxRecDepth 100000 in
set_option maxHeartbeats 4000000 in
theorem c_X2_apply (Z : ZZ) (l : Launch) (t : Nat) (a1 : Nat) (a2 : Int32) (h : HP) {v : Unit} {h1 : HP} (ho : f_X2_apply t a1 a2 h = some (v, h1)) : MetP Z l yX2_apply cX2_apply 3 (none) 3 70 [.ref (zb Z + t), .ref (zb Z + a1), .int a2] h (none) h1 := by
  refine MetP_of ho (by decide +kernel) (Nat.le_of_ble_eq_true rfl) [(0, .ref (zb Z + t)), (1, .ref (zb Z + a1)), (2, .int a2)] rfl (own := RX2) rfl (nm := "apply") rfl ?_
  unfold f_X2_apply
  refine S_iload_n dX2_apply_0 rfl 2 rfl (pc' := 1) rfl ?_
  refine Sim.ite (fun g1_0 => ?_) (fun g1_0 => ?_)
  · refine S_tabIn dX2_apply_1 g1_0 0 rfl (by decide) (off := 51) rfl 52 rfl ?_
    refine S_aload_n dX2_apply_52 rfl 1 rfl (pc' := 53) rfl ?_
    refine S_aload_n dX2_apply_53 rfl 0 rfl (pc' := 54) rfl ?_
    refine S_getR fl_X2_15 rfl dX2_apply_54 (pc' := 57) rfl (fun x54 => ?_)
    refine S_iconst dX2_apply_57 (v := 0) rfl (pc' := 58) rfl ?_
    refine S_iaload dX2_apply_58 (pc' := 59) rfl (fun x58 => ?_)
    refine S_aload_n dX2_apply_59 rfl 0 rfl (pc' := 60) rfl ?_
    refine S_getR fl_X2_15 rfl dX2_apply_60 (pc' := 63) rfl (fun x60 => ?_)
    refine S_iconst dX2_apply_63 (v := 1) rfl (pc' := 64) rfl ?_
    refine S_iaload dX2_apply_64 (pc' := 65) rfl (fun x64 => ?_)
    refine S_aload_n dX2_apply_65 rfl 0 rfl (pc' := 66) rfl ?_
    refine S_getR fl_X2_15 rfl dX2_apply_66 (pc' := 69) rfl (fun x66 => ?_)
    refine S_iconst dX2_apply_69 (v := 2) rfl (pc' := 70) rfl ?_
    refine S_iaload dX2_apply_70 (pc' := 71) rfl (fun x70 => ?_)
    refine S_aload_n dX2_apply_71 rfl 0 rfl (pc' := 72) rfl ?_
    refine S_getR fl_X2_15 rfl dX2_apply_72 (pc' := 75) rfl (fun x72 => ?_)
    refine S_iconst dX2_apply_75 (v := 3) rfl (pc' := 76) rfl ?_
    refine S_iaload dX2_apply_76 (pc' := 77) rfl (fun x76 => ?_)
    refine S_invi ml_X2_116 mi_X0_addPerson (ci := 0) ⟨_, rfl, rfl⟩ (by decide) dX2_apply_77 [.int x58, .int x64, .int x70, .int x76] rfl (fun v h2 q => c_X0_addPerson Z l _ _ _ _ _ _ q) ⟨Nat.le_of_ble_eq_true rfl, Nat.le_of_ble_eq_true rfl⟩ (rest := []) (Nat.le_of_ble_eq_true rfl) rfl (pc' := 80) rfl (fun x77 h77 => ?_)
    refine S_pop dX2_apply_80 rfl (pc' := 81) rfl ?_
    refine S_goto dX2_apply_81 209 rfl ?_
    exact S_vret rfl dX2_apply_209
  refine Sim.ite (fun g1_1 => ?_) (fun g1_1 => ?_)
  · refine S_tabIn dX2_apply_1 g1_1 1 rfl (by decide) (off := 83) rfl 84 rfl ?_
    refine S_aload_n dX2_apply_84 rfl 1 rfl (pc' := 85) rfl ?_
    refine S_aload_n dX2_apply_85 rfl 0 rfl (pc' := 86) rfl ?_
    refine S_getR fl_X2_15 rfl dX2_apply_86 (pc' := 89) rfl (fun x86 => ?_)
    refine S_iconst dX2_apply_89 (v := 0) rfl (pc' := 90) rfl ?_
    refine S_iaload dX2_apply_90 (pc' := 91) rfl (fun x90 => ?_)
    refine S_aload_n dX2_apply_91 rfl 0 rfl (pc' := 92) rfl ?_
    refine S_getR fl_X2_15 rfl dX2_apply_92 (pc' := 95) rfl (fun x92 => ?_)
    refine S_iconst dX2_apply_95 (v := 1) rfl (pc' := 96) rfl ?_
    refine S_iaload dX2_apply_96 (pc' := 97) rfl (fun x96 => ?_)
    refine S_invi ml_X2_120 mi_X0_addSong (ci := 0) ⟨_, rfl, rfl⟩ (by decide) dX2_apply_97 [.int x90, .int x96] rfl (fun v h2 q => c_X0_addSong Z l _ _ _ _ q) ⟨Nat.le_of_ble_eq_true rfl, Nat.le_of_ble_eq_true rfl⟩ (rest := []) (Nat.le_of_ble_eq_true rfl) rfl (pc' := 100) rfl (fun x97 h97 => ?_)
    refine S_pop dX2_apply_100 rfl (pc' := 101) rfl ?_
    refine S_goto dX2_apply_101 209 rfl ?_
    exact S_vret rfl dX2_apply_209
  refine Sim.ite (fun g1_2 => ?_) (fun g1_2 => ?_)
  · refine S_tabIn dX2_apply_1 g1_2 2 rfl (by decide) (off := 103) rfl 104 rfl ?_
    refine S_aload_n dX2_apply_104 rfl 1 rfl (pc' := 105) rfl ?_
    refine S_aload_n dX2_apply_105 rfl 0 rfl (pc' := 106) rfl ?_
    refine S_getR fl_X2_15 rfl dX2_apply_106 (pc' := 109) rfl (fun x106 => ?_)
    refine S_iconst dX2_apply_109 (v := 0) rfl (pc' := 110) rfl ?_
    refine S_iaload dX2_apply_110 (pc' := 111) rfl (fun x110 => ?_)
    refine S_aload_n dX2_apply_111 rfl 0 rfl (pc' := 112) rfl ?_
    refine S_getR fl_X2_15 rfl dX2_apply_112 (pc' := 115) rfl (fun x112 => ?_)
    refine S_iconst dX2_apply_115 (v := 1) rfl (pc' := 116) rfl ?_
    refine S_iaload dX2_apply_116 (pc' := 117) rfl (fun x116 => ?_)
    refine S_iload_n dX2_apply_117 rfl 2 rfl (pc' := 118) rfl ?_
    refine S_iconst dX2_apply_118 (v := 2) rfl (pc' := 119) rfl ?_
    refine S_icmp_ne dX2_apply_119 126 rfl (pc' := 122) rfl (fun g119 => ?_) (fun g119 => ?_)
    · refine S_iconst dX2_apply_126 (v := (-1)) rfl (pc' := 127) rfl ?_
      refine S_invv ml_X2_124 mi_X0_setHeld (ci := 0) ⟨_, rfl, rfl⟩ (by decide) dX2_apply_127 [.int x110, .int x116, .int (-1)] rfl (fun v h2 q => c_X0_setHeld Z l _ _ _ _ _ q) ⟨Nat.le_of_ble_eq_true rfl, Nat.le_of_ble_eq_true rfl⟩ (rest := []) (Nat.le_of_ble_eq_true rfl) rfl (pc' := 130) rfl (fun _ h127 => ?_)
      refine S_goto dX2_apply_130 209 rfl ?_
      exact S_vret rfl dX2_apply_209
    · refine S_iconst dX2_apply_122 (v := 0) rfl (pc' := 123) rfl ?_
      refine S_goto dX2_apply_123 127 rfl ?_
      refine S_invv ml_X2_124 mi_X0_setHeld (ci := 0) ⟨_, rfl, rfl⟩ (by decide) dX2_apply_127 [.int x110, .int x116, .int 0] rfl (fun v h2 q => c_X0_setHeld Z l _ _ _ _ _ q) ⟨Nat.le_of_ble_eq_true rfl, Nat.le_of_ble_eq_true rfl⟩ (rest := []) (Nat.le_of_ble_eq_true rfl) rfl (pc' := 130) rfl (fun _ h127 => ?_)
      refine S_goto dX2_apply_130 209 rfl ?_
      exact S_vret rfl dX2_apply_209
  refine Sim.ite (fun g1_3 => ?_) (fun g1_3 => ?_)
  · refine S_tabIn dX2_apply_1 g1_3 3 rfl (by decide) (off := 103) rfl 104 rfl ?_
    refine S_aload_n dX2_apply_104 rfl 1 rfl (pc' := 105) rfl ?_
    refine S_aload_n dX2_apply_105 rfl 0 rfl (pc' := 106) rfl ?_
    refine S_getR fl_X2_15 rfl dX2_apply_106 (pc' := 109) rfl (fun x106 => ?_)
    refine S_iconst dX2_apply_109 (v := 0) rfl (pc' := 110) rfl ?_
    refine S_iaload dX2_apply_110 (pc' := 111) rfl (fun x110 => ?_)
    refine S_aload_n dX2_apply_111 rfl 0 rfl (pc' := 112) rfl ?_
    refine S_getR fl_X2_15 rfl dX2_apply_112 (pc' := 115) rfl (fun x112 => ?_)
    refine S_iconst dX2_apply_115 (v := 1) rfl (pc' := 116) rfl ?_
    refine S_iaload dX2_apply_116 (pc' := 117) rfl (fun x116 => ?_)
    refine S_iload_n dX2_apply_117 rfl 2 rfl (pc' := 118) rfl ?_
    refine S_iconst dX2_apply_118 (v := 2) rfl (pc' := 119) rfl ?_
    refine S_icmp_ne dX2_apply_119 126 rfl (pc' := 122) rfl (fun g119 => ?_) (fun g119 => ?_)
    · refine S_iconst dX2_apply_126 (v := (-1)) rfl (pc' := 127) rfl ?_
      refine S_invv ml_X2_124 mi_X0_setHeld (ci := 0) ⟨_, rfl, rfl⟩ (by decide) dX2_apply_127 [.int x110, .int x116, .int (-1)] rfl (fun v h2 q => c_X0_setHeld Z l _ _ _ _ _ q) ⟨Nat.le_of_ble_eq_true rfl, Nat.le_of_ble_eq_true rfl⟩ (rest := []) (Nat.le_of_ble_eq_true rfl) rfl (pc' := 130) rfl (fun _ h127 => ?_)
      refine S_goto dX2_apply_130 209 rfl ?_
      exact S_vret rfl dX2_apply_209
    · refine S_iconst dX2_apply_122 (v := 0) rfl (pc' := 123) rfl ?_
      refine S_goto dX2_apply_123 127 rfl ?_
      refine S_invv ml_X2_124 mi_X0_setHeld (ci := 0) ⟨_, rfl, rfl⟩ (by decide) dX2_apply_127 [.int x110, .int x116, .int 0] rfl (fun v h2 q => c_X0_setHeld Z l _ _ _ _ _ q) ⟨Nat.le_of_ble_eq_true rfl, Nat.le_of_ble_eq_true rfl⟩ (rest := []) (Nat.le_of_ble_eq_true rfl) rfl (pc' := 130) rfl (fun _ h127 => ?_)
      refine S_goto dX2_apply_130 209 rfl ?_
      exact S_vret rfl dX2_apply_209
  refine Sim.ite (fun g1_4 => ?_) (fun g1_4 => ?_)
  · refine S_tabIn dX2_apply_1 g1_4 4 rfl (by decide) (off := 132) rfl 133 rfl ?_
    refine S_aload_n dX2_apply_133 rfl 1 rfl (pc' := 134) rfl ?_
    refine S_aload_n dX2_apply_134 rfl 0 rfl (pc' := 135) rfl ?_
    refine S_getR fl_X2_15 rfl dX2_apply_135 (pc' := 138) rfl (fun x135 => ?_)
    refine S_iconst dX2_apply_138 (v := 0) rfl (pc' := 139) rfl ?_
    refine S_iaload dX2_apply_139 (pc' := 140) rfl (fun x139 => ?_)
    refine S_aload_n dX2_apply_140 rfl 0 rfl (pc' := 141) rfl ?_
    refine S_getR fl_X2_15 rfl dX2_apply_141 (pc' := 144) rfl (fun x141 => ?_)
    refine S_iconst dX2_apply_144 (v := 1) rfl (pc' := 145) rfl ?_
    refine S_iaload dX2_apply_145 (pc' := 146) rfl (fun x145 => ?_)
    refine S_iload_n dX2_apply_146 rfl 2 rfl (pc' := 147) rfl ?_
    refine S_iconst dX2_apply_147 (v := 4) rfl (pc' := 148) rfl ?_
    refine S_icmp_ne dX2_apply_148 155 rfl (pc' := 151) rfl (fun g148 => ?_) (fun g148 => ?_)
    · refine S_iconst dX2_apply_155 (v := 0) rfl (pc' := 156) rfl ?_
      refine S_invv ml_X2_128 mi_X0_setBeside (ci := 0) ⟨_, rfl, rfl⟩ (by decide) dX2_apply_156 [.int x139, .int x145, .int 0] rfl (fun v h2 q => c_X0_setBeside Z l _ _ _ _ _ q) ⟨Nat.le_of_ble_eq_true rfl, Nat.le_of_ble_eq_true rfl⟩ (rest := []) (Nat.le_of_ble_eq_true rfl) rfl (pc' := 159) rfl (fun _ h156 => ?_)
      refine S_goto dX2_apply_159 209 rfl ?_
      exact S_vret rfl dX2_apply_209
    · refine S_iconst dX2_apply_151 (v := 1) rfl (pc' := 152) rfl ?_
      refine S_goto dX2_apply_152 156 rfl ?_
      refine S_invv ml_X2_128 mi_X0_setBeside (ci := 0) ⟨_, rfl, rfl⟩ (by decide) dX2_apply_156 [.int x139, .int x145, .int 1] rfl (fun v h2 q => c_X0_setBeside Z l _ _ _ _ _ q) ⟨Nat.le_of_ble_eq_true rfl, Nat.le_of_ble_eq_true rfl⟩ (rest := []) (Nat.le_of_ble_eq_true rfl) rfl (pc' := 159) rfl (fun _ h156 => ?_)
      refine S_goto dX2_apply_159 209 rfl ?_
      exact S_vret rfl dX2_apply_209
  refine Sim.ite (fun g1_5 => ?_) (fun g1_5 => ?_)
  · refine S_tabIn dX2_apply_1 g1_5 5 rfl (by decide) (off := 132) rfl 133 rfl ?_
    refine S_aload_n dX2_apply_133 rfl 1 rfl (pc' := 134) rfl ?_
    refine S_aload_n dX2_apply_134 rfl 0 rfl (pc' := 135) rfl ?_
    refine S_getR fl_X2_15 rfl dX2_apply_135 (pc' := 138) rfl (fun x135 => ?_)
    refine S_iconst dX2_apply_138 (v := 0) rfl (pc' := 139) rfl ?_
    refine S_iaload dX2_apply_139 (pc' := 140) rfl (fun x139 => ?_)
    refine S_aload_n dX2_apply_140 rfl 0 rfl (pc' := 141) rfl ?_
    refine S_getR fl_X2_15 rfl dX2_apply_141 (pc' := 144) rfl (fun x141 => ?_)
    refine S_iconst dX2_apply_144 (v := 1) rfl (pc' := 145) rfl ?_
    refine S_iaload dX2_apply_145 (pc' := 146) rfl (fun x145 => ?_)
    refine S_iload_n dX2_apply_146 rfl 2 rfl (pc' := 147) rfl ?_
    refine S_iconst dX2_apply_147 (v := 4) rfl (pc' := 148) rfl ?_
    refine S_icmp_ne dX2_apply_148 155 rfl (pc' := 151) rfl (fun g148 => ?_) (fun g148 => ?_)
    · refine S_iconst dX2_apply_155 (v := 0) rfl (pc' := 156) rfl ?_
      refine S_invv ml_X2_128 mi_X0_setBeside (ci := 0) ⟨_, rfl, rfl⟩ (by decide) dX2_apply_156 [.int x139, .int x145, .int 0] rfl (fun v h2 q => c_X0_setBeside Z l _ _ _ _ _ q) ⟨Nat.le_of_ble_eq_true rfl, Nat.le_of_ble_eq_true rfl⟩ (rest := []) (Nat.le_of_ble_eq_true rfl) rfl (pc' := 159) rfl (fun _ h156 => ?_)
      refine S_goto dX2_apply_159 209 rfl ?_
      exact S_vret rfl dX2_apply_209
    · refine S_iconst dX2_apply_151 (v := 1) rfl (pc' := 152) rfl ?_
      refine S_goto dX2_apply_152 156 rfl ?_
      refine S_invv ml_X2_128 mi_X0_setBeside (ci := 0) ⟨_, rfl, rfl⟩ (by decide) dX2_apply_156 [.int x139, .int x145, .int 1] rfl (fun v h2 q => c_X0_setBeside Z l _ _ _ _ _ q) ⟨Nat.le_of_ble_eq_true rfl, Nat.le_of_ble_eq_true rfl⟩ (rest := []) (Nat.le_of_ble_eq_true rfl) rfl (pc' := 159) rfl (fun _ h156 => ?_)
      refine S_goto dX2_apply_159 209 rfl ?_
      exact S_vret rfl dX2_apply_209
  refine Sim.ite (fun g1_6 => ?_) (fun g1_6 => ?_)
  · refine S_tabIn dX2_apply_1 g1_6 6 rfl (by decide) (off := 161) rfl 162 rfl ?_
    refine S_aload_n dX2_apply_162 rfl 1 rfl (pc' := 163) rfl ?_
    refine S_aload_n dX2_apply_163 rfl 0 rfl (pc' := 164) rfl ?_
    refine S_getR fl_X2_15 rfl dX2_apply_164 (pc' := 167) rfl (fun x164 => ?_)
    refine S_iconst dX2_apply_167 (v := 0) rfl (pc' := 168) rfl ?_
    refine S_iaload dX2_apply_168 (pc' := 169) rfl (fun x168 => ?_)
    refine S_iload_n dX2_apply_169 rfl 2 rfl (pc' := 170) rfl ?_
    refine S_bipush dX2_apply_170 (v := 6) rfl (pc' := 172) rfl ?_
    refine S_icmp_ne dX2_apply_172 179 rfl (pc' := 175) rfl (fun g172 => ?_) (fun g172 => ?_)
    · refine S_iconst dX2_apply_179 (v := 0) rfl (pc' := 180) rfl ?_
      refine S_invv ml_X2_132 mi_X0_setHums (ci := 0) ⟨_, rfl, rfl⟩ (by decide) dX2_apply_180 [.int x168, .int 0] rfl (fun v h2 q => c_X0_setHums Z l _ _ _ _ q) ⟨Nat.le_of_ble_eq_true rfl, Nat.le_of_ble_eq_true rfl⟩ (rest := []) (Nat.le_of_ble_eq_true rfl) rfl (pc' := 183) rfl (fun _ h180 => ?_)
      refine S_goto dX2_apply_183 209 rfl ?_
      exact S_vret rfl dX2_apply_209
    · refine S_iconst dX2_apply_175 (v := 1) rfl (pc' := 176) rfl ?_
      refine S_goto dX2_apply_176 180 rfl ?_
      refine S_invv ml_X2_132 mi_X0_setHums (ci := 0) ⟨_, rfl, rfl⟩ (by decide) dX2_apply_180 [.int x168, .int 1] rfl (fun v h2 q => c_X0_setHums Z l _ _ _ _ q) ⟨Nat.le_of_ble_eq_true rfl, Nat.le_of_ble_eq_true rfl⟩ (rest := []) (Nat.le_of_ble_eq_true rfl) rfl (pc' := 183) rfl (fun _ h180 => ?_)
      refine S_goto dX2_apply_183 209 rfl ?_
      exact S_vret rfl dX2_apply_209
  refine Sim.ite (fun g1_7 => ?_) (fun g1_7 => ?_)
  · refine S_tabIn dX2_apply_1 g1_7 7 rfl (by decide) (off := 161) rfl 162 rfl ?_
    refine S_aload_n dX2_apply_162 rfl 1 rfl (pc' := 163) rfl ?_
    refine S_aload_n dX2_apply_163 rfl 0 rfl (pc' := 164) rfl ?_
    refine S_getR fl_X2_15 rfl dX2_apply_164 (pc' := 167) rfl (fun x164 => ?_)
    refine S_iconst dX2_apply_167 (v := 0) rfl (pc' := 168) rfl ?_
    refine S_iaload dX2_apply_168 (pc' := 169) rfl (fun x168 => ?_)
    refine S_iload_n dX2_apply_169 rfl 2 rfl (pc' := 170) rfl ?_
    refine S_bipush dX2_apply_170 (v := 6) rfl (pc' := 172) rfl ?_
    refine S_icmp_ne dX2_apply_172 179 rfl (pc' := 175) rfl (fun g172 => ?_) (fun g172 => ?_)
    · refine S_iconst dX2_apply_179 (v := 0) rfl (pc' := 180) rfl ?_
      refine S_invv ml_X2_132 mi_X0_setHums (ci := 0) ⟨_, rfl, rfl⟩ (by decide) dX2_apply_180 [.int x168, .int 0] rfl (fun v h2 q => c_X0_setHums Z l _ _ _ _ q) ⟨Nat.le_of_ble_eq_true rfl, Nat.le_of_ble_eq_true rfl⟩ (rest := []) (Nat.le_of_ble_eq_true rfl) rfl (pc' := 183) rfl (fun _ h180 => ?_)
      refine S_goto dX2_apply_183 209 rfl ?_
      exact S_vret rfl dX2_apply_209
    · refine S_iconst dX2_apply_175 (v := 1) rfl (pc' := 176) rfl ?_
      refine S_goto dX2_apply_176 180 rfl ?_
      refine S_invv ml_X2_132 mi_X0_setHums (ci := 0) ⟨_, rfl, rfl⟩ (by decide) dX2_apply_180 [.int x168, .int 1] rfl (fun v h2 q => c_X0_setHums Z l _ _ _ _ q) ⟨Nat.le_of_ble_eq_true rfl, Nat.le_of_ble_eq_true rfl⟩ (rest := []) (Nat.le_of_ble_eq_true rfl) rfl (pc' := 183) rfl (fun _ h180 => ?_)
      refine S_goto dX2_apply_183 209 rfl ?_
      exact S_vret rfl dX2_apply_209
  refine Sim.ite (fun g1_8 => ?_) (fun g1_8 => ?_)
  · refine S_tabIn dX2_apply_1 g1_8 8 rfl (by decide) (off := 185) rfl 186 rfl ?_
    refine S_aload_n dX2_apply_186 rfl 1 rfl (pc' := 187) rfl ?_
    refine S_aload_n dX2_apply_187 rfl 0 rfl (pc' := 188) rfl ?_
    refine S_getR fl_X2_15 rfl dX2_apply_188 (pc' := 191) rfl (fun x188 => ?_)
    refine S_iconst dX2_apply_191 (v := 0) rfl (pc' := 192) rfl ?_
    refine S_iaload dX2_apply_192 (pc' := 193) rfl (fun x192 => ?_)
    refine S_putI fl_X2_136 (by decide) rfl dX2_apply_193 (pc' := 196) rfl (fun h193 => ?_)
    refine S_goto dX2_apply_196 209 rfl ?_
    exact S_vret rfl dX2_apply_209
  refine S_tabOut dX2_apply_1 (by
      have q0 := i32_ne g1_0
      have q1 := i32_ne g1_1
      have q2 := i32_ne g1_2
      have q3 := i32_ne g1_3
      have q4 := i32_ne g1_4
      have q5 := i32_ne g1_5
      have q6 := i32_ne g1_6
      have q7 := i32_ne g1_7
      have q8 := i32_ne g1_8
      simp only [show Int32.toInt 0 = 0 from rfl, show Int32.toInt 1 = 1 from rfl, show Int32.toInt 2 = 2 from rfl, show Int32.toInt 3 = 3 from rfl, show Int32.toInt 4 = 4 from rfl, show Int32.toInt 5 = 5 from rfl, show Int32.toInt 6 = 6 from rfl, show Int32.toInt 7 = 7 from rfl, show Int32.toInt 8 = 8 from rfl] at q0 q1 q2 q3 q4 q5 q6 q7 q8
      omega) 199 rfl ?_
  refine S_aload_n dX2_apply_199 rfl 1 rfl (pc' := 200) rfl ?_
  refine S_aload_n dX2_apply_200 rfl 0 rfl (pc' := 201) rfl ?_
  refine S_getR fl_X2_15 rfl dX2_apply_201 (pc' := 204) rfl (fun x201 => ?_)
  refine S_iconst dX2_apply_204 (v := 0) rfl (pc' := 205) rfl ?_
  refine S_iaload dX2_apply_205 (pc' := 206) rfl (fun x205 => ?_)
  refine S_putI fl_X2_138 (by decide) rfl dX2_apply_206 (pc' := 209) rfl (fun h206 => ?_)
  exact S_vret rfl dX2_apply_209
theorem dX2_readStatement_0 : decode cX2_readStatement 0 = .ok (.aload_n 0, 1) := by decide +kernel
theorem dX2_readStatement_1 : decode cX2_readStatement 1 = .ok (.invokevirtual 35, 3) := by decide +kernel
theorem dX2_readStatement_4 : decode cX2_readStatement 4 = .ok (.istore_n 2, 1) := by decide +kernel
theorem dX2_readStatement_5 : decode cX2_readStatement 5 = .ok (.iload_n 2, 1) := by decide +kernel
theorem dX2_readStatement_6 : decode cX2_readStatement 6 = .ok (.iconst (-1), 1) := by decide +kernel
theorem dX2_readStatement_7 : decode cX2_readStatement 7 = .ok (.if_icmp .eq 11, 3) := by decide +kernel
theorem dX2_readStatement_10 : decode cX2_readStatement 10 = .ok (.aload_n 1, 1) := by decide +kernel
theorem dX2_readStatement_11 : decode cX2_readStatement 11 = .ok (.iload_n 2, 1) := by decide +kernel
theorem dX2_readStatement_12 : decode cX2_readStatement 12 = .ok (.invokestatic 39, 3) := by decide +kernel
theorem dX2_readStatement_15 : decode cX2_readStatement 15 = .ok (.ifCond .ne 5, 3) := by decide +kernel
theorem dX2_readStatement_18 : decode cX2_readStatement 18 = .ok (.iconst 0, 1) := by decide +kernel
theorem dX2_readStatement_19 : decode cX2_readStatement 19 = .ok (.ireturn, 1) := by decide +kernel
theorem dX2_readStatement_20 : decode cX2_readStatement 20 = .ok (.aload_n 0, 1) := by decide +kernel
theorem dX2_readStatement_21 : decode cX2_readStatement 21 = .ok (.invokevirtual 25, 3) := by decide +kernel
theorem dX2_readStatement_24 : decode cX2_readStatement 24 = .ok (.iload_n 2, 1) := by decide +kernel
theorem dX2_readStatement_25 : decode cX2_readStatement 25 = .ok (.invokestatic 43, 3) := by decide +kernel
theorem dX2_readStatement_28 : decode cX2_readStatement 28 = .ok (.istore_n 3, 1) := by decide +kernel
theorem dX2_readStatement_29 : decode cX2_readStatement 29 = .ok (.iconst 0, 1) := by decide +kernel
theorem dX2_readStatement_30 : decode cX2_readStatement 30 = .ok (.istore 4, 2) := by decide +kernel
theorem dX2_readStatement_32 : decode cX2_readStatement 32 = .ok (.iload 4, 2) := by decide +kernel
theorem dX2_readStatement_34 : decode cX2_readStatement 34 = .ok (.iload_n 3, 1) := by decide +kernel
theorem dX2_readStatement_35 : decode cX2_readStatement 35 = .ok (.if_icmp .ge 79, 3) := by decide +kernel
theorem dX2_readStatement_38 : decode cX2_readStatement 38 = .ok (.aload_n 0, 1) := by decide +kernel
theorem dX2_readStatement_39 : decode cX2_readStatement 39 = .ok (.getfield 32, 3) := by decide +kernel
theorem dX2_readStatement_42 : decode cX2_readStatement 42 = .ok (.iconst 2, 1) := by decide +kernel
theorem dX2_readStatement_43 : decode cX2_readStatement 43 = .ok (.if_icmp .ne 17, 3) := by decide +kernel
theorem dX2_readStatement_46 : decode cX2_readStatement 46 = .ok (.aload_n 0, 1) := by decide +kernel
theorem dX2_readStatement_47 : decode cX2_readStatement 47 = .ok (.getfield 47, 3) := by decide +kernel
theorem dX2_readStatement_50 : decode cX2_readStatement 50 = .ok (.aload_n 1, 1) := by decide +kernel
theorem dX2_readStatement_51 : decode cX2_readStatement 51 = .ok (.iload_n 2, 1) := by decide +kernel
theorem dX2_readStatement_52 : decode cX2_readStatement 52 = .ok (.iload 4, 2) := by decide +kernel
theorem dX2_readStatement_54 : decode cX2_readStatement 54 = .ok (.invokestatic 50, 3) := by decide +kernel
theorem dX2_readStatement_57 : decode cX2_readStatement 57 = .ok (.if_icmp .lt 5, 3) := by decide +kernel
theorem dX2_readStatement_60 : decode cX2_readStatement 60 = .ok (.iconst 0, 1) := by decide +kernel
theorem dX2_readStatement_61 : decode cX2_readStatement 61 = .ok (.ireturn, 1) := by decide +kernel
theorem dX2_readStatement_62 : decode cX2_readStatement 62 = .ok (.iload_n 2, 1) := by decide +kernel
theorem dX2_readStatement_63 : decode cX2_readStatement 63 = .ok (.iconst 4, 1) := by decide +kernel
theorem dX2_readStatement_64 : decode cX2_readStatement 64 = .ok (.if_icmp .eq 8, 3) := by decide +kernel
theorem dX2_readStatement_67 : decode cX2_readStatement 67 = .ok (.iload_n 2, 1) := by decide +kernel
theorem dX2_readStatement_68 : decode cX2_readStatement 68 = .ok (.iconst 5, 1) := by decide +kernel
theorem dX2_readStatement_69 : decode cX2_readStatement 69 = .ok (.if_icmp .ne 24, 3) := by decide +kernel
theorem dX2_readStatement_72 : decode cX2_readStatement 72 = .ok (.iload 4, 2) := by decide +kernel
theorem dX2_readStatement_74 : decode cX2_readStatement 74 = .ok (.iconst 1, 1) := by decide +kernel
theorem dX2_readStatement_75 : decode cX2_readStatement 75 = .ok (.if_icmp .ne 18, 3) := by decide +kernel
theorem dX2_readStatement_78 : decode cX2_readStatement 78 = .ok (.aload_n 0, 1) := by decide +kernel
theorem dX2_readStatement_79 : decode cX2_readStatement 79 = .ok (.getfield 47, 3) := by decide +kernel
theorem dX2_readStatement_82 : decode cX2_readStatement 82 = .ok (.aload_n 0, 1) := by decide +kernel
theorem dX2_readStatement_83 : decode cX2_readStatement 83 = .ok (.getfield 15, 3) := by decide +kernel
theorem dX2_readStatement_86 : decode cX2_readStatement 86 = .ok (.iconst 0, 1) := by decide +kernel
theorem dX2_readStatement_87 : decode cX2_readStatement 87 = .ok (.iaload, 1) := by decide +kernel
theorem dX2_readStatement_88 : decode cX2_readStatement 88 = .ok (.if_icmp .ne 5, 3) := by decide +kernel
theorem dX2_readStatement_91 : decode cX2_readStatement 91 = .ok (.iconst 0, 1) := by decide +kernel
theorem dX2_readStatement_92 : decode cX2_readStatement 92 = .ok (.ireturn, 1) := by decide +kernel
theorem dX2_readStatement_93 : decode cX2_readStatement 93 = .ok (.aload_n 0, 1) := by decide +kernel
theorem dX2_readStatement_94 : decode cX2_readStatement 94 = .ok (.getfield 15, 3) := by decide +kernel
theorem dX2_readStatement_97 : decode cX2_readStatement 97 = .ok (.iload 4, 2) := by decide +kernel
theorem dX2_readStatement_99 : decode cX2_readStatement 99 = .ok (.aload_n 0, 1) := by decide +kernel
theorem dX2_readStatement_100 : decode cX2_readStatement 100 = .ok (.getfield 47, 3) := by decide +kernel
theorem dX2_readStatement_103 : decode cX2_readStatement 103 = .ok (.iastore, 1) := by decide +kernel
theorem dX2_readStatement_104 : decode cX2_readStatement 104 = .ok (.aload_n 0, 1) := by decide +kernel
theorem dX2_readStatement_105 : decode cX2_readStatement 105 = .ok (.invokevirtual 25, 3) := by decide +kernel
theorem dX2_readStatement_108 : decode cX2_readStatement 108 = .ok (.iinc 4 1, 3) := by decide +kernel
theorem dX2_readStatement_111 : decode cX2_readStatement 111 = .ok (.goto (-79), 3) := by decide +kernel
theorem dX2_readStatement_114 : decode cX2_readStatement 114 = .ok (.aload_n 0, 1) := by decide +kernel
theorem dX2_readStatement_115 : decode cX2_readStatement 115 = .ok (.aload_n 1, 1) := by decide +kernel
theorem dX2_readStatement_116 : decode cX2_readStatement 116 = .ok (.iload_n 2, 1) := by decide +kernel
theorem dX2_readStatement_117 : decode cX2_readStatement 117 = .ok (.invokevirtual 54, 3) := by decide +kernel
theorem dX2_readStatement_120 : decode cX2_readStatement 120 = .ok (.iconst 1, 1) := by decide +kernel
theorem dX2_readStatement_121 : decode cX2_readStatement 121 = .ok (.ireturn, 1) := by decide +kernel
set_option maxRecDepth 100000 in
set_option maxHeartbeats 4000000 in
theorem lc_X2_readStatement_32 (Z : ZZ) (l : Launch) (a0 : Nat) (a1 : Nat) (a2 : Int32) (a3 : Int32) {args : Array Value} {h0 h1 : HP} {v0 : Int32} (K : HP → Option (Int32 × HP)) (F : Int32 → HP → Option (Int32 × HP))
    (hK : ∀ (h : HP), Sim Z l cX2_readStatement RX2 5 7 184 (some .boolean) "readStatement" args (Mq Z args h0 h1 (some (.int v0))) h0 h1 v0 114 [(0, .ref (zb Z + a0)), (1, .ref (zb Z + a1)), (2, .int a2)] [] h (K h))
    (hF : ∀ (b4 : Int32) (h : HP), Sim Z l cX2_readStatement RX2 5 7 184 (some .boolean) "readStatement" args (Mq Z args h0 h1 (some (.int v0))) h0 h1 v0 32 [(0, .ref (zb Z + a0)), (1, .ref (zb Z + a1)), (2, .int a2), (3, .int a3), (4, .int b4)] [] h (F b4 h)) :
    ∀ (b4 : Int32) (h : HP), Sim Z l cX2_readStatement RX2 5 7 184 (some .boolean) "readStatement" args (Mq Z args h0 h1 (some (.int v0))) h0 h1 v0 32 [(0, .ref (zb Z + a0)), (1, .ref (zb Z + a1)), (2, .int a2), (3, .int a3), (4, .int b4)] [] h (lb_X2_readStatement_32 a0 a1 a2 a3 K F b4 h) := by
  intro b4 h
  unfold lb_X2_readStatement_32
  refine S_iload dX2_readStatement_32 4 rfl (pc' := 34) rfl ?_
  refine S_iload_n dX2_readStatement_34 rfl 3 rfl (pc' := 35) rfl ?_
  refine S_icmp_ge dX2_readStatement_35 114 rfl (pc' := 38) rfl (fun g35 => ?_) (fun g35 => ?_)
  · refine Sim.sub [0, 1, 2] rfl ?_
    exact hK _
  · refine S_aload_n dX2_readStatement_38 rfl 0 rfl (pc' := 39) rfl ?_
    refine S_getI fl_X2_32 rfl dX2_readStatement_39 (pc' := 42) rfl (fun x39 => ?_)
    refine S_iconst dX2_readStatement_42 (v := 2) rfl (pc' := 43) rfl ?_
    refine S_icmp_ne dX2_readStatement_43 60 rfl (pc' := 46) rfl (fun g43 => ?_) (fun g43 => ?_)
    · refine S_iconst dX2_readStatement_60 (v := 0) rfl (pc' := 61) rfl ?_
      exact S_zret rfl dX2_readStatement_61
    · refine S_aload_n dX2_readStatement_46 rfl 0 rfl (pc' := 47) rfl ?_
      refine S_getI fl_X2_47 rfl dX2_readStatement_47 (pc' := 50) rfl (fun x47 => ?_)
      refine S_aload_n dX2_readStatement_50 rfl 1 rfl (pc' := 51) rfl ?_
      refine S_iload_n dX2_readStatement_51 rfl 2 rfl (pc' := 52) rfl ?_
      refine S_iload dX2_readStatement_52 4 rfl (pc' := 54) rfl ?_
      refine S_stai ml_X2_50 ms_X2_limitOf dX2_readStatement_54 [.ref (zb Z + a1), .int a2, .int b4] rfl (fun v h2 q => c_X2_limitOf Z l _ _ _ _ q) ⟨Nat.le_of_ble_eq_true rfl, Nat.le_of_ble_eq_true rfl⟩ (rest := [.int x47]) (Nat.le_of_ble_eq_true rfl) rfl (pc' := 57) rfl (fun x54 h54 => ?_)
      refine S_icmp_lt dX2_readStatement_57 62 rfl (pc' := 60) rfl (fun g57 => ?_) (fun g57 => ?_)
      · refine S_iload_n dX2_readStatement_62 rfl 2 rfl (pc' := 63) rfl ?_
        refine S_iconst dX2_readStatement_63 (v := 4) rfl (pc' := 64) rfl ?_
        refine S_icmp_eq dX2_readStatement_64 72 rfl (pc' := 67) rfl (fun g64 => ?_) (fun g64 => ?_)
        · refine S_iload dX2_readStatement_72 4 rfl (pc' := 74) rfl ?_
          refine S_iconst dX2_readStatement_74 (v := 1) rfl (pc' := 75) rfl ?_
          refine S_icmp_ne dX2_readStatement_75 93 rfl (pc' := 78) rfl (fun g75 => ?_) (fun g75 => ?_)
          · refine S_aload_n dX2_readStatement_93 rfl 0 rfl (pc' := 94) rfl ?_
            refine S_getR fl_X2_15 rfl dX2_readStatement_94 (pc' := 97) rfl (fun x94 => ?_)
            refine S_iload dX2_readStatement_97 4 rfl (pc' := 99) rfl ?_
            refine S_aload_n dX2_readStatement_99 rfl 0 rfl (pc' := 100) rfl ?_
            refine S_getI fl_X2_47 rfl dX2_readStatement_100 (pc' := 103) rfl (fun x100 => ?_)
            refine S_iastore dX2_readStatement_103 (pc' := 104) rfl (fun h103 => ?_)
            refine S_aload_n dX2_readStatement_104 rfl 0 rfl (pc' := 105) rfl ?_
            refine S_invv ml_X2_25 mi_X2_advance (ci := 2) ⟨_, rfl, rfl⟩ (by decide) dX2_readStatement_105 [] rfl (fun v h2 q => c_X2_advance Z l _ _ q) ⟨Nat.le_of_ble_eq_true rfl, Nat.le_of_ble_eq_true rfl⟩ (rest := []) (Nat.le_of_ble_eq_true rfl) rfl (pc' := 108) rfl (fun _ h105 => ?_)
            refine S_iinc dX2_readStatement_108 (q := 4) rfl (v := b4 + 1) rfl (by decide) (lo' := [(4, .int (b4 + 1)), (0, .ref (zb Z + a0)), (1, .ref (zb Z + a1)), (2, .int a2), (3, .int a3)]) rfl (pc' := 111) rfl ?_
            refine S_goto dX2_readStatement_111 32 rfl ?_
            refine Sim.sub [1, 2, 3, 4, 0] rfl ?_
            exact hF _ _
          · refine S_aload_n dX2_readStatement_78 rfl 0 rfl (pc' := 79) rfl ?_
            refine S_getI fl_X2_47 rfl dX2_readStatement_79 (pc' := 82) rfl (fun x79 => ?_)
            refine S_aload_n dX2_readStatement_82 rfl 0 rfl (pc' := 83) rfl ?_
            refine S_getR fl_X2_15 rfl dX2_readStatement_83 (pc' := 86) rfl (fun x83 => ?_)
            refine S_iconst dX2_readStatement_86 (v := 0) rfl (pc' := 87) rfl ?_
            refine S_iaload dX2_readStatement_87 (pc' := 88) rfl (fun x87 => ?_)
            refine S_icmp_ne dX2_readStatement_88 93 rfl (pc' := 91) rfl (fun g88 => ?_) (fun g88 => ?_)
            · refine S_aload_n dX2_readStatement_93 rfl 0 rfl (pc' := 94) rfl ?_
              refine S_getR fl_X2_15 rfl dX2_readStatement_94 (pc' := 97) rfl (fun x94 => ?_)
              refine S_iload dX2_readStatement_97 4 rfl (pc' := 99) rfl ?_
              refine S_aload_n dX2_readStatement_99 rfl 0 rfl (pc' := 100) rfl ?_
              refine S_getI fl_X2_47 rfl dX2_readStatement_100 (pc' := 103) rfl (fun x100 => ?_)
              refine S_iastore dX2_readStatement_103 (pc' := 104) rfl (fun h103 => ?_)
              refine S_aload_n dX2_readStatement_104 rfl 0 rfl (pc' := 105) rfl ?_
              refine S_invv ml_X2_25 mi_X2_advance (ci := 2) ⟨_, rfl, rfl⟩ (by decide) dX2_readStatement_105 [] rfl (fun v h2 q => c_X2_advance Z l _ _ q) ⟨Nat.le_of_ble_eq_true rfl, Nat.le_of_ble_eq_true rfl⟩ (rest := []) (Nat.le_of_ble_eq_true rfl) rfl (pc' := 108) rfl (fun _ h105 => ?_)
              refine S_iinc dX2_readStatement_108 (q := 4) rfl (v := b4 + 1) rfl (by decide) (lo' := [(4, .int (b4 + 1)), (0, .ref (zb Z + a0)), (1, .ref (zb Z + a1)), (2, .int a2), (3, .int a3)]) rfl (pc' := 111) rfl ?_
              refine S_goto dX2_readStatement_111 32 rfl ?_
              refine Sim.sub [1, 2, 3, 4, 0] rfl ?_
              exact hF _ _
            · refine S_iconst dX2_readStatement_91 (v := 0) rfl (pc' := 92) rfl ?_
              exact S_zret rfl dX2_readStatement_92
        · refine S_iload_n dX2_readStatement_67 rfl 2 rfl (pc' := 68) rfl ?_
          refine S_iconst dX2_readStatement_68 (v := 5) rfl (pc' := 69) rfl ?_
          refine S_icmp_ne dX2_readStatement_69 93 rfl (pc' := 72) rfl (fun g69 => ?_) (fun g69 => ?_)
          · refine S_aload_n dX2_readStatement_93 rfl 0 rfl (pc' := 94) rfl ?_
            refine S_getR fl_X2_15 rfl dX2_readStatement_94 (pc' := 97) rfl (fun x94 => ?_)
            refine S_iload dX2_readStatement_97 4 rfl (pc' := 99) rfl ?_
            refine S_aload_n dX2_readStatement_99 rfl 0 rfl (pc' := 100) rfl ?_
            refine S_getI fl_X2_47 rfl dX2_readStatement_100 (pc' := 103) rfl (fun x100 => ?_)
            refine S_iastore dX2_readStatement_103 (pc' := 104) rfl (fun h103 => ?_)
            refine S_aload_n dX2_readStatement_104 rfl 0 rfl (pc' := 105) rfl ?_
            refine S_invv ml_X2_25 mi_X2_advance (ci := 2) ⟨_, rfl, rfl⟩ (by decide) dX2_readStatement_105 [] rfl (fun v h2 q => c_X2_advance Z l _ _ q) ⟨Nat.le_of_ble_eq_true rfl, Nat.le_of_ble_eq_true rfl⟩ (rest := []) (Nat.le_of_ble_eq_true rfl) rfl (pc' := 108) rfl (fun _ h105 => ?_)
            refine S_iinc dX2_readStatement_108 (q := 4) rfl (v := b4 + 1) rfl (by decide) (lo' := [(4, .int (b4 + 1)), (0, .ref (zb Z + a0)), (1, .ref (zb Z + a1)), (2, .int a2), (3, .int a3)]) rfl (pc' := 111) rfl ?_
            refine S_goto dX2_readStatement_111 32 rfl ?_
            refine Sim.sub [1, 2, 3, 4, 0] rfl ?_
            exact hF _ _
          · refine S_iload dX2_readStatement_72 4 rfl (pc' := 74) rfl ?_
            refine S_iconst dX2_readStatement_74 (v := 1) rfl (pc' := 75) rfl ?_
            refine S_icmp_ne dX2_readStatement_75 93 rfl (pc' := 78) rfl (fun g75 => ?_) (fun g75 => ?_)
            · refine S_aload_n dX2_readStatement_93 rfl 0 rfl (pc' := 94) rfl ?_
              refine S_getR fl_X2_15 rfl dX2_readStatement_94 (pc' := 97) rfl (fun x94 => ?_)
              refine S_iload dX2_readStatement_97 4 rfl (pc' := 99) rfl ?_
              refine S_aload_n dX2_readStatement_99 rfl 0 rfl (pc' := 100) rfl ?_
              refine S_getI fl_X2_47 rfl dX2_readStatement_100 (pc' := 103) rfl (fun x100 => ?_)
              refine S_iastore dX2_readStatement_103 (pc' := 104) rfl (fun h103 => ?_)
              refine S_aload_n dX2_readStatement_104 rfl 0 rfl (pc' := 105) rfl ?_
              refine S_invv ml_X2_25 mi_X2_advance (ci := 2) ⟨_, rfl, rfl⟩ (by decide) dX2_readStatement_105 [] rfl (fun v h2 q => c_X2_advance Z l _ _ q) ⟨Nat.le_of_ble_eq_true rfl, Nat.le_of_ble_eq_true rfl⟩ (rest := []) (Nat.le_of_ble_eq_true rfl) rfl (pc' := 108) rfl (fun _ h105 => ?_)
              refine S_iinc dX2_readStatement_108 (q := 4) rfl (v := b4 + 1) rfl (by decide) (lo' := [(4, .int (b4 + 1)), (0, .ref (zb Z + a0)), (1, .ref (zb Z + a1)), (2, .int a2), (3, .int a3)]) rfl (pc' := 111) rfl ?_
              refine S_goto dX2_readStatement_111 32 rfl ?_
              refine Sim.sub [1, 2, 3, 4, 0] rfl ?_
              exact hF _ _
            · refine S_aload_n dX2_readStatement_78 rfl 0 rfl (pc' := 79) rfl ?_
              refine S_getI fl_X2_47 rfl dX2_readStatement_79 (pc' := 82) rfl (fun x79 => ?_)
              refine S_aload_n dX2_readStatement_82 rfl 0 rfl (pc' := 83) rfl ?_
              refine S_getR fl_X2_15 rfl dX2_readStatement_83 (pc' := 86) rfl (fun x83 => ?_)
              refine S_iconst dX2_readStatement_86 (v := 0) rfl (pc' := 87) rfl ?_
              refine S_iaload dX2_readStatement_87 (pc' := 88) rfl (fun x87 => ?_)
              refine S_icmp_ne dX2_readStatement_88 93 rfl (pc' := 91) rfl (fun g88 => ?_) (fun g88 => ?_)
              · refine S_aload_n dX2_readStatement_93 rfl 0 rfl (pc' := 94) rfl ?_
                refine S_getR fl_X2_15 rfl dX2_readStatement_94 (pc' := 97) rfl (fun x94 => ?_)
                refine S_iload dX2_readStatement_97 4 rfl (pc' := 99) rfl ?_
                refine S_aload_n dX2_readStatement_99 rfl 0 rfl (pc' := 100) rfl ?_
                refine S_getI fl_X2_47 rfl dX2_readStatement_100 (pc' := 103) rfl (fun x100 => ?_)
                refine S_iastore dX2_readStatement_103 (pc' := 104) rfl (fun h103 => ?_)
                refine S_aload_n dX2_readStatement_104 rfl 0 rfl (pc' := 105) rfl ?_
                refine S_invv ml_X2_25 mi_X2_advance (ci := 2) ⟨_, rfl, rfl⟩ (by decide) dX2_readStatement_105 [] rfl (fun v h2 q => c_X2_advance Z l _ _ q) ⟨Nat.le_of_ble_eq_true rfl, Nat.le_of_ble_eq_true rfl⟩ (rest := []) (Nat.le_of_ble_eq_true rfl) rfl (pc' := 108) rfl (fun _ h105 => ?_)
                refine S_iinc dX2_readStatement_108 (q := 4) rfl (v := b4 + 1) rfl (by decide) (lo' := [(4, .int (b4 + 1)), (0, .ref (zb Z + a0)), (1, .ref (zb Z + a1)), (2, .int a2), (3, .int a3)]) rfl (pc' := 111) rfl ?_
                refine S_goto dX2_readStatement_111 32 rfl ?_
                refine Sim.sub [1, 2, 3, 4, 0] rfl ?_
                exact hF _ _
              · refine S_iconst dX2_readStatement_91 (v := 0) rfl (pc' := 92) rfl ?_
                exact S_zret rfl dX2_readStatement_92
      · refine S_iconst dX2_readStatement_60 (v := 0) rfl (pc' := 61) rfl ?_
        exact S_zret rfl dX2_readStatement_61
theorem lq_X2_readStatement_32 (Z : ZZ) (l : Launch) (a0 : Nat) (a1 : Nat) (a2 : Int32) (a3 : Int32) {args : Array Value} {h0 h1 : HP} {v0 : Int32} (K : HP → Option (Int32 × HP))
    (hK : ∀ (h : HP), Sim Z l cX2_readStatement RX2 5 7 184 (some .boolean) "readStatement" args (Mq Z args h0 h1 (some (.int v0))) h0 h1 v0 114 [(0, .ref (zb Z + a0)), (1, .ref (zb Z + a1)), (2, .int a2)] [] h (K h)) :
    ∀ (k : Nat) (b4 : Int32) (h : HP), Sim Z l cX2_readStatement RX2 5 7 184 (some .boolean) "readStatement" args (Mq Z args h0 h1 (some (.int v0))) h0 h1 v0 32 [(0, .ref (zb Z + a0)), (1, .ref (zb Z + a1)), (2, .int a2), (3, .int a3), (4, .int b4)] [] h (lp_X2_readStatement_32 a0 a1 a2 a3 K k b4 h) := by
  intro k
  induction k with
  | zero => exact fun _ _ => Sim.none
  | succ k ih => exact lc_X2_readStatement_32 Z l a0 a1 a2 a3 K _ hK ih
set_option maxRecDepth 100000 in
set_option maxHeartbeats 4000000 in
theorem c_X2_readStatement (Z : ZZ) (l : Launch) (t : Nat) (a1 : Nat) (h : HP) {v : Int32} {h1 : HP} (ho : f_X2_readStatement t a1 h = some (v, h1)) : MetP Z l yX2_readStatement cX2_readStatement 5 (some .boolean) 7 184 [.ref (zb Z + t), .ref (zb Z + a1)] h (some (.int v)) h1 := by
  refine MetP_of ho (by decide +kernel) (Nat.le_of_ble_eq_true rfl) [(0, .ref (zb Z + t)), (1, .ref (zb Z + a1))] rfl (own := RX2) rfl (nm := "readStatement") rfl ?_
  unfold f_X2_readStatement
  refine S_aload_n dX2_readStatement_0 rfl 0 rfl (pc' := 1) rfl ?_
  refine S_invi ml_X2_35 mi_X2_formOfWord (ci := 2) ⟨_, rfl, rfl⟩ (by decide) dX2_readStatement_1 [] rfl (fun v h2 q => c_X2_formOfWord Z l _ _ q) ⟨Nat.le_of_ble_eq_true rfl, Nat.le_of_ble_eq_true rfl⟩ (rest := []) (Nat.le_of_ble_eq_true rfl) rfl (pc' := 4) rfl (fun x1 h1 => ?_)
  refine S_istore_n dX2_readStatement_4 rfl (by decide) (lo' := [(2, .int x1), (0, .ref (zb Z + t)), (1, .ref (zb Z + a1))]) rfl (pc' := 5) rfl ?_
  refine S_iload_n dX2_readStatement_5 rfl 0 rfl (pc' := 6) rfl ?_
  refine S_iconst dX2_readStatement_6 (v := (-1)) rfl (pc' := 7) rfl ?_
  refine S_icmp_eq dX2_readStatement_7 18 rfl (pc' := 10) rfl (fun g7 => ?_) (fun g7 => ?_)
  · refine S_iconst dX2_readStatement_18 (v := 0) rfl (pc' := 19) rfl ?_
    exact S_zret rfl dX2_readStatement_19
  · refine S_aload_n dX2_readStatement_10 rfl 2 rfl (pc' := 11) rfl ?_
    refine S_iload_n dX2_readStatement_11 rfl 0 rfl (pc' := 12) rfl ?_
    refine S_stai ml_X2_39 ms_X2_hasRoom dX2_readStatement_12 [.ref (zb Z + a1), .int x1] rfl (fun v h2 q => c_X2_hasRoom Z l _ _ _ q) ⟨Nat.le_of_ble_eq_true rfl, Nat.le_of_ble_eq_true rfl⟩ (rest := []) (Nat.le_of_ble_eq_true rfl) rfl (pc' := 15) rfl (fun x12 h12 => ?_)
    refine S_if_ne dX2_readStatement_15 20 rfl (pc' := 18) rfl (fun g15 => ?_) (fun g15 => ?_)
    · refine S_aload_n dX2_readStatement_20 rfl 1 rfl (pc' := 21) rfl ?_
      refine S_invv ml_X2_25 mi_X2_advance (ci := 2) ⟨_, rfl, rfl⟩ (by decide) dX2_readStatement_21 [] rfl (fun v h2 q => c_X2_advance Z l _ _ q) ⟨Nat.le_of_ble_eq_true rfl, Nat.le_of_ble_eq_true rfl⟩ (rest := []) (Nat.le_of_ble_eq_true rfl) rfl (pc' := 24) rfl (fun _ h21 => ?_)
      refine S_iload_n dX2_readStatement_24 rfl 0 rfl (pc' := 25) rfl ?_
      refine S_stai ml_X2_43 ms_X2_numbersOf dX2_readStatement_25 [.int x1] rfl (fun v h2 q => c_X2_numbersOf Z l _ _ q) ⟨Nat.le_of_ble_eq_true rfl, Nat.le_of_ble_eq_true rfl⟩ (rest := []) (Nat.le_of_ble_eq_true rfl) rfl (pc' := 28) rfl (fun x25 h25 => ?_)
      refine S_istore_n dX2_readStatement_28 rfl (by decide) (lo' := [(3, .int x25), (2, .int x1), (0, .ref (zb Z + t)), (1, .ref (zb Z + a1))]) rfl (pc' := 29) rfl ?_
      refine S_iconst dX2_readStatement_29 (v := 0) rfl (pc' := 30) rfl ?_
      refine S_istore dX2_readStatement_30 (by decide) (lo' := [(4, .int 0), (3, .int x25), (2, .int x1), (0, .ref (zb Z + t)), (1, .ref (zb Z + a1))]) rfl (pc' := 32) rfl ?_
      refine Sim.sub [3, 4, 2, 1, 0] rfl ?_
      refine lq_X2_readStatement_32 Z l t a1 x1 x25 _ ?_ 1000 _ _
      intro h32_
      refine S_aload_n dX2_readStatement_114 rfl 0 rfl (pc' := 115) rfl ?_
      refine S_aload_n dX2_readStatement_115 rfl 1 rfl (pc' := 116) rfl ?_
      refine S_iload_n dX2_readStatement_116 rfl 2 rfl (pc' := 117) rfl ?_
      refine S_invv ml_X2_54 mi_X2_apply (ci := 2) ⟨_, rfl, rfl⟩ (by decide) dX2_readStatement_117 [.ref (zb Z + a1), .int x1] rfl (fun v h2 q => c_X2_apply Z l _ _ _ _ q) ⟨Nat.le_of_ble_eq_true rfl, Nat.le_of_ble_eq_true rfl⟩ (rest := []) (Nat.le_of_ble_eq_true rfl) rfl (pc' := 120) rfl (fun _ h117 => ?_)
      refine S_iconst dX2_readStatement_120 (v := 1) rfl (pc' := 121) rfl ?_
      exact S_zret rfl dX2_readStatement_121
    · refine S_iconst dX2_readStatement_18 (v := 0) rfl (pc' := 19) rfl ?_
      exact S_zret rfl dX2_readStatement_19
theorem dX2_read_0 : decode cX2_read 0 = .ok (.aload_n 0, 1) := by decide +kernel
theorem dX2_read_1 : decode cX2_read 1 = .ok (.iconst 0, 1) := by decide +kernel
theorem dX2_read_2 : decode cX2_read 2 = .ok (.putfield 22, 3) := by decide +kernel
theorem dX2_read_5 : decode cX2_read 5 = .ok (.aload_n 0, 1) := by decide +kernel
theorem dX2_read_6 : decode cX2_read 6 = .ok (.invokevirtual 25, 3) := by decide +kernel
theorem dX2_read_9 : decode cX2_read 9 = .ok (.iconst 1, 1) := by decide +kernel
theorem dX2_read_10 : decode cX2_read 10 = .ok (.istore_n 2, 1) := by decide +kernel
theorem dX2_read_11 : decode cX2_read 11 = .ok (.iload_n 2, 1) := by decide +kernel
theorem dX2_read_12 : decode cX2_read 12 = .ok (.sipush 250, 3) := by decide +kernel
theorem dX2_read_15 : decode cX2_read 15 = .ok (.if_icmp .gt 42, 3) := by decide +kernel
theorem dX2_read_18 : decode cX2_read 18 = .ok (.aload_n 0, 1) := by decide +kernel
theorem dX2_read_19 : decode cX2_read 19 = .ok (.aload_n 1, 1) := by decide +kernel
theorem dX2_read_20 : decode cX2_read 20 = .ok (.invokevirtual 28, 3) := by decide +kernel
theorem dX2_read_23 : decode cX2_read 23 = .ok (.ifCond .ne 5, 3) := by decide +kernel
theorem dX2_read_26 : decode cX2_read 26 = .ok (.iconst (-1), 1) := by decide +kernel
theorem dX2_read_27 : decode cX2_read 27 = .ok (.ireturn, 1) := by decide +kernel
theorem dX2_read_28 : decode cX2_read 28 = .ok (.aload_n 0, 1) := by decide +kernel
theorem dX2_read_29 : decode cX2_read 29 = .ok (.getfield 32, 3) := by decide +kernel
theorem dX2_read_32 : decode cX2_read 32 = .ok (.ifCond .ne 5, 3) := by decide +kernel
theorem dX2_read_35 : decode cX2_read 35 = .ok (.iload_n 2, 1) := by decide +kernel
theorem dX2_read_36 : decode cX2_read 36 = .ok (.ireturn, 1) := by decide +kernel
theorem dX2_read_37 : decode cX2_read 37 = .ok (.aload_n 0, 1) := by decide +kernel
theorem dX2_read_38 : decode cX2_read 38 = .ok (.getfield 32, 3) := by decide +kernel
theorem dX2_read_41 : decode cX2_read 41 = .ok (.iconst 3, 1) := by decide +kernel
theorem dX2_read_42 : decode cX2_read 42 = .ok (.if_icmp .eq 5, 3) := by decide +kernel
theorem dX2_read_45 : decode cX2_read 45 = .ok (.iconst (-1), 1) := by decide +kernel
theorem dX2_read_46 : decode cX2_read 46 = .ok (.ireturn, 1) := by decide +kernel
theorem dX2_read_47 : decode cX2_read 47 = .ok (.aload_n 0, 1) := by decide +kernel
theorem dX2_read_48 : decode cX2_read 48 = .ok (.invokevirtual 25, 3) := by decide +kernel
theorem dX2_read_51 : decode cX2_read 51 = .ok (.iinc 2 1, 3) := by decide +kernel
theorem dX2_read_54 : decode cX2_read 54 = .ok (.goto (-43), 3) := by decide +kernel
theorem dX2_read_57 : decode cX2_read 57 = .ok (.iconst (-1), 1) := by decide +kernel
theorem dX2_read_58 : decode cX2_read 58 = .ok (.ireturn, 1) := by decide +kernel
set_option maxRecDepth 100000 in
set_option maxHeartbeats 4000000 in
theorem lc_X2_read_11 (Z : ZZ) (l : Launch) (a0 : Nat) (a1 : Nat) {args : Array Value} {h0 h1 : HP} {v0 : Int32} (K : HP → Option (Int32 × HP)) (F : Int32 → HP → Option (Int32 × HP))
    (hK : ∀ (h : HP), Sim Z l cX2_read RX2 3 8 208 (some .int) "read" args (Mq Z args h0 h1 (some (.int v0))) h0 h1 v0 57 [] [] h (K h))
    (hF : ∀ (b2 : Int32) (h : HP), Sim Z l cX2_read RX2 3 8 208 (some .int) "read" args (Mq Z args h0 h1 (some (.int v0))) h0 h1 v0 11 [(0, .ref (zb Z + a0)), (1, .ref (zb Z + a1)), (2, .int b2)] [] h (F b2 h)) :
    ∀ (b2 : Int32) (h : HP), Sim Z l cX2_read RX2 3 8 208 (some .int) "read" args (Mq Z args h0 h1 (some (.int v0))) h0 h1 v0 11 [(0, .ref (zb Z + a0)), (1, .ref (zb Z + a1)), (2, .int b2)] [] h (lb_X2_read_11 a0 a1 K F b2 h) := by
  intro b2 h
  unfold lb_X2_read_11
  refine S_iload_n dX2_read_11 rfl 2 rfl (pc' := 12) rfl ?_
  refine S_sipush dX2_read_12 (v := 250) rfl (pc' := 15) rfl ?_
  refine S_icmp_gt dX2_read_15 57 rfl (pc' := 18) rfl (fun g15 => ?_) (fun g15 => ?_)
  · refine Sim.sub [] rfl ?_
    exact hK _
  · refine S_aload_n dX2_read_18 rfl 0 rfl (pc' := 19) rfl ?_
    refine S_aload_n dX2_read_19 rfl 1 rfl (pc' := 20) rfl ?_
    refine S_invi ml_X2_28 mi_X2_readStatement (ci := 2) ⟨_, rfl, rfl⟩ (by decide) dX2_read_20 [.ref (zb Z + a1)] rfl (fun v h2 q => c_X2_readStatement Z l _ _ _ q) ⟨Nat.le_of_ble_eq_true rfl, Nat.le_of_ble_eq_true rfl⟩ (rest := []) (Nat.le_of_ble_eq_true rfl) rfl (pc' := 23) rfl (fun x20 h20 => ?_)
    refine S_if_ne dX2_read_23 28 rfl (pc' := 26) rfl (fun g23 => ?_) (fun g23 => ?_)
    · refine S_aload_n dX2_read_28 rfl 0 rfl (pc' := 29) rfl ?_
      refine S_getI fl_X2_32 rfl dX2_read_29 (pc' := 32) rfl (fun x29 => ?_)
      refine S_if_ne dX2_read_32 37 rfl (pc' := 35) rfl (fun g32 => ?_) (fun g32 => ?_)
      · refine S_aload_n dX2_read_37 rfl 0 rfl (pc' := 38) rfl ?_
        refine S_getI fl_X2_32 rfl dX2_read_38 (pc' := 41) rfl (fun x38 => ?_)
        refine S_iconst dX2_read_41 (v := 3) rfl (pc' := 42) rfl ?_
        refine S_icmp_eq dX2_read_42 47 rfl (pc' := 45) rfl (fun g42 => ?_) (fun g42 => ?_)
        · refine S_aload_n dX2_read_47 rfl 0 rfl (pc' := 48) rfl ?_
          refine S_invv ml_X2_25 mi_X2_advance (ci := 2) ⟨_, rfl, rfl⟩ (by decide) dX2_read_48 [] rfl (fun v h2 q => c_X2_advance Z l _ _ q) ⟨Nat.le_of_ble_eq_true rfl, Nat.le_of_ble_eq_true rfl⟩ (rest := []) (Nat.le_of_ble_eq_true rfl) rfl (pc' := 51) rfl (fun _ h48 => ?_)
          refine S_iinc dX2_read_51 (q := 2) rfl (v := b2 + 1) rfl (by decide) (lo' := [(2, .int (b2 + 1)), (0, .ref (zb Z + a0)), (1, .ref (zb Z + a1))]) rfl (pc' := 54) rfl ?_
          refine S_goto dX2_read_54 11 rfl ?_
          refine Sim.sub [1, 2, 0] rfl ?_
          exact hF _ _
        · refine S_iconst dX2_read_45 (v := (-1)) rfl (pc' := 46) rfl ?_
          exact S_iret rfl dX2_read_46
      · refine S_iload_n dX2_read_35 rfl 2 rfl (pc' := 36) rfl ?_
        exact S_iret rfl dX2_read_36
    · refine S_iconst dX2_read_26 (v := (-1)) rfl (pc' := 27) rfl ?_
      exact S_iret rfl dX2_read_27
theorem lq_X2_read_11 (Z : ZZ) (l : Launch) (a0 : Nat) (a1 : Nat) {args : Array Value} {h0 h1 : HP} {v0 : Int32} (K : HP → Option (Int32 × HP))
    (hK : ∀ (h : HP), Sim Z l cX2_read RX2 3 8 208 (some .int) "read" args (Mq Z args h0 h1 (some (.int v0))) h0 h1 v0 57 [] [] h (K h)) :
    ∀ (k : Nat) (b2 : Int32) (h : HP), Sim Z l cX2_read RX2 3 8 208 (some .int) "read" args (Mq Z args h0 h1 (some (.int v0))) h0 h1 v0 11 [(0, .ref (zb Z + a0)), (1, .ref (zb Z + a1)), (2, .int b2)] [] h (lp_X2_read_11 a0 a1 K k b2 h) := by
  intro k
  induction k with
  | zero => exact fun _ _ => Sim.none
  | succ k ih => exact lc_X2_read_11 Z l a0 a1 K _ hK ih
set_option maxRecDepth 100000 in
set_option maxHeartbeats 4000000 in
theorem c_X2_read (Z : ZZ) (l : Launch) (t : Nat) (a1 : Nat) (h : HP) {v : Int32} {h1 : HP} (ho : f_X2_read t a1 h = some (v, h1)) : MetP Z l yX2_read cX2_read 3 (some .int) 8 208 [.ref (zb Z + t), .ref (zb Z + a1)] h (some (.int v)) h1 := by
  refine MetP_of ho (by decide +kernel) (Nat.le_of_ble_eq_true rfl) [(0, .ref (zb Z + t)), (1, .ref (zb Z + a1))] rfl (own := RX2) rfl (nm := "read") rfl ?_
  unfold f_X2_read
  refine S_aload_n dX2_read_0 rfl 0 rfl (pc' := 1) rfl ?_
  refine S_iconst dX2_read_1 (v := 0) rfl (pc' := 2) rfl ?_
  refine S_putI fl_X2_22 (by decide) rfl dX2_read_2 (pc' := 5) rfl (fun h2 => ?_)
  refine S_aload_n dX2_read_5 rfl 0 rfl (pc' := 6) rfl ?_
  refine S_invv ml_X2_25 mi_X2_advance (ci := 2) ⟨_, rfl, rfl⟩ (by decide) dX2_read_6 [] rfl (fun v h2 q => c_X2_advance Z l _ _ q) ⟨Nat.le_of_ble_eq_true rfl, Nat.le_of_ble_eq_true rfl⟩ (rest := []) (Nat.le_of_ble_eq_true rfl) rfl (pc' := 9) rfl (fun _ h6 => ?_)
  refine S_iconst dX2_read_9 (v := 1) rfl (pc' := 10) rfl ?_
  refine S_istore_n dX2_read_10 rfl (by decide) (lo' := [(2, .int 1), (0, .ref (zb Z + t)), (1, .ref (zb Z + a1))]) rfl (pc' := 11) rfl ?_
  refine Sim.sub [1, 2, 0] rfl ?_
  refine lq_X2_read_11 Z l t a1 _ ?_ 1000 _ _
  intro h11_
  refine S_iconst dX2_read_57 (v := (-1)) rfl (pc' := 58) rfl ?_
  exact S_iret rfl dX2_read_58
