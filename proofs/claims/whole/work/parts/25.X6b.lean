theorem dX6_tell_0 : decode cX6_tell 0 = .ok (.iload_n 1, 1) := by decide +kernel
theorem dX6_tell_1 : decode cX6_tell 1 = .ok (.i2l, 1) := by decide +kernel
theorem dX6_tell_2 : decode cX6_tell 2 = .ok (.lconst 0, 1) := by decide +kernel
theorem dX6_tell_3 : decode cX6_tell 3 = .ok (.lconst 1, 1) := by decide +kernel
theorem dX6_tell_4 : decode cX6_tell 4 = .ok (.invokestatic 95, 3) := by decide +kernel
theorem dX6_tell_7 : decode cX6_tell 7 = .ok (.ifCond .eq 25, 3) := by decide +kernel
theorem dX6_tell_10 : decode cX6_tell 10 = .ok (.iload_n 2, 1) := by decide +kernel
theorem dX6_tell_11 : decode cX6_tell 11 = .ok (.i2l, 1) := by decide +kernel
theorem dX6_tell_12 : decode cX6_tell 12 = .ok (.lconst 0, 1) := by decide +kernel
theorem dX6_tell_13 : decode cX6_tell 13 = .ok (.iload_n 1, 1) := by decide +kernel
theorem dX6_tell_14 : decode cX6_tell 14 = .ok (.ifCond .ne 9, 3) := by decide +kernel
theorem dX6_tell_17 : decode cX6_tell 17 = .ok (.ldc2_w 136, 3) := by decide +kernel
theorem dX6_tell_20 : decode cX6_tell 20 = .ok (.goto 6, 3) := by decide +kernel
theorem dX6_tell_23 : decode cX6_tell 23 = .ok (.ldc2_w 159, 3) := by decide +kernel
theorem dX6_tell_26 : decode cX6_tell 26 = .ok (.invokestatic 95, 3) := by decide +kernel
theorem dX6_tell_29 : decode cX6_tell 29 = .ok (.ifCond .ne 10, 3) := by decide +kernel
theorem dX6_tell_32 : decode cX6_tell 32 = .ok (.aload_n 0, 1) := by decide +kernel
theorem dX6_tell_33 : decode cX6_tell 33 = .ok (.bipush (-2), 2) := by decide +kernel
theorem dX6_tell_35 : decode cX6_tell 35 = .ok (.invokevirtual 108, 3) := by decide +kernel
theorem dX6_tell_38 : decode cX6_tell 38 = .ok (.ireturn, 1) := by decide +kernel
theorem dX6_tell_39 : decode cX6_tell 39 = .ok (.iload_n 1, 1) := by decide +kernel
theorem dX6_tell_40 : decode cX6_tell 40 = .ok (.ifCond .ne 10, 3) := by decide +kernel
theorem dX6_tell_43 : decode cX6_tell 43 = .ok (.aload_n 0, 1) := by decide +kernel
theorem dX6_tell_44 : decode cX6_tell 44 = .ok (.getfield 37, 3) := by decide +kernel
theorem dX6_tell_47 : decode cX6_tell 47 = .ok (.goto 7, 3) := by decide +kernel
theorem dX6_tell_50 : decode cX6_tell 50 = .ok (.aload_n 0, 1) := by decide +kernel
theorem dX6_tell_51 : decode cX6_tell 51 = .ok (.getfield 161, 3) := by decide +kernel
theorem dX6_tell_54 : decode cX6_tell 54 = .ok (.istore_n 3, 1) := by decide +kernel
theorem dX6_tell_55 : decode cX6_tell 55 = .ok (.aload_n 0, 1) := by decide +kernel
theorem dX6_tell_56 : decode cX6_tell 56 = .ok (.iload_n 1, 1) := by decide +kernel
theorem dX6_tell_57 : decode cX6_tell 57 = .ok (.ifCond .ne 7, 3) := by decide +kernel
theorem dX6_tell_60 : decode cX6_tell 60 = .ok (.iload_n 2, 1) := by decide +kernel
theorem dX6_tell_61 : decode cX6_tell 61 = .ok (.goto 7, 3) := by decide +kernel
theorem dX6_tell_64 : decode cX6_tell 64 = .ok (.aload_n 0, 1) := by decide +kernel
theorem dX6_tell_65 : decode cX6_tell 65 = .ok (.getfield 37, 3) := by decide +kernel
theorem dX6_tell_68 : decode cX6_tell 68 = .ok (.putfield 37, 3) := by decide +kernel
theorem dX6_tell_71 : decode cX6_tell 71 = .ok (.aload_n 0, 1) := by decide +kernel
theorem dX6_tell_72 : decode cX6_tell 72 = .ok (.iload_n 1, 1) := by decide +kernel
theorem dX6_tell_73 : decode cX6_tell 73 = .ok (.iconst 1, 1) := by decide +kernel
theorem dX6_tell_74 : decode cX6_tell 74 = .ok (.if_icmp .ne 7, 3) := by decide +kernel
theorem dX6_tell_77 : decode cX6_tell 77 = .ok (.iload_n 2, 1) := by decide +kernel
theorem dX6_tell_78 : decode cX6_tell 78 = .ok (.goto 7, 3) := by decide +kernel
theorem dX6_tell_81 : decode cX6_tell 81 = .ok (.aload_n 0, 1) := by decide +kernel
theorem dX6_tell_82 : decode cX6_tell 82 = .ok (.getfield 161, 3) := by decide +kernel
theorem dX6_tell_85 : decode cX6_tell 85 = .ok (.putfield 161, 3) := by decide +kernel
theorem dX6_tell_88 : decode cX6_tell 88 = .ok (.iload_n 3, 1) := by decide +kernel
theorem dX6_tell_89 : decode cX6_tell 89 = .ok (.ireturn, 1) := by decide +kernel
set_option maxRecDepth 100000 in
set_option maxHeartbeats 4000000 in
theorem c_X6_tell (Z : ZZ) (l : Launch) (t : Nat) (a1 : Int32) (a2 : Int32) (h : HP) {v : Int32} {h1 : HP} (ho : f_X6_tell t a1 a2 h = some (v, h1)) : MetP Z l yX6_tell cX6_tell 4 (some .int) 1 25 [.ref (zb Z + t), .int a1, .int a2] h (some (.int v)) h1 := by
  refine MetP_of ho (by decide +kernel) (Nat.le_of_ble_eq_true rfl) [(0, .ref (zb Z + t)), (1, .int a1), (2, .int a2)] rfl (own := RX6) rfl (nm := "tell") rfl ?_
  unfold f_X6_tell
  refine S_iload_n dX6_tell_0 rfl 1 rfl (pc' := 1) rfl ?_
  refine S_i2l dX6_tell_1 (pc' := 2) rfl ?_
  refine S_lconst dX6_tell_2 (v := 0) rfl (pc' := 3) rfl ?_
  refine S_lconst dX6_tell_3 (v := 1) rfl (pc' := 4) rfl ?_
  refine S_stai ml_X6_95 ms_X6_in dX6_tell_4 [.long a1.toInt64, .long 0, .long 1] rfl (fun v h2 q => c_X6_in Z l _ _ _ _ q) ⟨Nat.le_of_ble_eq_true rfl, Nat.le_of_ble_eq_true rfl⟩ (rest := []) (Nat.le_of_ble_eq_true rfl) rfl (pc' := 7) rfl (fun x4 h4 => ?_)
  refine S_if_eq dX6_tell_7 32 rfl (pc' := 10) rfl (fun g7 => ?_) (fun g7 => ?_)
  · refine S_aload_n dX6_tell_32 rfl 0 rfl (pc' := 33) rfl ?_
    refine S_bipush dX6_tell_33 (v := (-2)) rfl (pc' := 35) rfl ?_
    refine S_invi ml_X6_108 mi_X6_refuse (ci := 6) ⟨_, rfl, rfl⟩ (by decide) dX6_tell_35 [.int (-2)] rfl (fun v h2 q => c_X6_refuse Z l _ _ _ q) ⟨Nat.le_of_ble_eq_true rfl, Nat.le_of_ble_eq_true rfl⟩ (rest := []) (Nat.le_of_ble_eq_true rfl) rfl (pc' := 38) rfl (fun x35 h35 => ?_)
    exact S_iret rfl dX6_tell_38
  · refine S_iload_n dX6_tell_10 rfl 2 rfl (pc' := 11) rfl ?_
    refine S_i2l dX6_tell_11 (pc' := 12) rfl ?_
    refine S_lconst dX6_tell_12 (v := 0) rfl (pc' := 13) rfl ?_
    refine S_iload_n dX6_tell_13 rfl 1 rfl (pc' := 14) rfl ?_
    refine S_if_ne dX6_tell_14 23 rfl (pc' := 17) rfl (fun g14 => ?_) (fun g14 => ?_)
    · refine S_ldc2 dX6_tell_23 kc_X6_159 (pc' := 26) rfl ?_
      refine S_stai ml_X6_95 ms_X6_in dX6_tell_26 [.long a2.toInt64, .long 0, .long 999] rfl (fun v h2 q => c_X6_in Z l _ _ _ _ q) ⟨Nat.le_of_ble_eq_true rfl, Nat.le_of_ble_eq_true rfl⟩ (rest := []) (Nat.le_of_ble_eq_true rfl) rfl (pc' := 29) rfl (fun x26 h26 => ?_)
      refine S_if_ne dX6_tell_29 39 rfl (pc' := 32) rfl (fun g29 => ?_) (fun g29 => ?_)
      · refine S_iload_n dX6_tell_39 rfl 1 rfl (pc' := 40) rfl ?_
        refine S_if_ne_J dX6_tell_40 50 rfl (pc' := 43) rfl g14 ?_
        refine S_aload_n dX6_tell_50 rfl 0 rfl (pc' := 51) rfl ?_
        refine S_getI fl_X6_161 rfl dX6_tell_51 (pc' := 54) rfl (fun x51 => ?_)
        refine S_istore_n dX6_tell_54 rfl (by decide) (lo' := [(3, .int x51), (0, .ref (zb Z + t)), (1, .int a1), (2, .int a2)]) rfl (pc' := 55) rfl ?_
        refine S_aload_n dX6_tell_55 rfl 1 rfl (pc' := 56) rfl ?_
        refine S_iload_n dX6_tell_56 rfl 2 rfl (pc' := 57) rfl ?_
        refine S_if_ne_J dX6_tell_57 64 rfl (pc' := 60) rfl g14 ?_
        refine S_aload_n dX6_tell_64 rfl 1 rfl (pc' := 65) rfl ?_
        refine S_getI fl_X6_37 rfl dX6_tell_65 (pc' := 68) rfl (fun x65 => ?_)
        refine S_putI fl_X6_37 (by decide) rfl dX6_tell_68 (pc' := 71) rfl (fun h68 => ?_)
        refine S_aload_n dX6_tell_71 rfl 1 rfl (pc' := 72) rfl ?_
        refine S_iload_n dX6_tell_72 rfl 2 rfl (pc' := 73) rfl ?_
        refine S_iconst dX6_tell_73 (v := 1) rfl (pc' := 74) rfl ?_
        refine S_icmp_ne dX6_tell_74 81 rfl (pc' := 77) rfl (fun g74 => ?_) (fun g74 => ?_)
        · refine S_aload_n dX6_tell_81 rfl 1 rfl (pc' := 82) rfl ?_
          refine S_getI fl_X6_161 rfl dX6_tell_82 (pc' := 85) rfl (fun x82 => ?_)
          refine S_putI fl_X6_161 (by decide) rfl dX6_tell_85 (pc' := 88) rfl (fun h85 => ?_)
          refine S_iload_n dX6_tell_88 rfl 0 rfl (pc' := 89) rfl ?_
          exact S_iret rfl dX6_tell_89
        · refine S_iload_n dX6_tell_77 rfl 3 rfl (pc' := 78) rfl ?_
          refine S_goto dX6_tell_78 85 rfl ?_
          refine S_putI fl_X6_161 (by decide) rfl dX6_tell_85 (pc' := 88) rfl (fun h85 => ?_)
          refine S_iload_n dX6_tell_88 rfl 0 rfl (pc' := 89) rfl ?_
          exact S_iret rfl dX6_tell_89
      · refine S_aload_n dX6_tell_32 rfl 0 rfl (pc' := 33) rfl ?_
        refine S_bipush dX6_tell_33 (v := (-2)) rfl (pc' := 35) rfl ?_
        refine S_invi ml_X6_108 mi_X6_refuse (ci := 6) ⟨_, rfl, rfl⟩ (by decide) dX6_tell_35 [.int (-2)] rfl (fun v h2 q => c_X6_refuse Z l _ _ _ q) ⟨Nat.le_of_ble_eq_true rfl, Nat.le_of_ble_eq_true rfl⟩ (rest := []) (Nat.le_of_ble_eq_true rfl) rfl (pc' := 38) rfl (fun x35 h35 => ?_)
        exact S_iret rfl dX6_tell_38
    · refine S_ldc2 dX6_tell_17 kc_X6_136 (pc' := 20) rfl ?_
      refine S_goto dX6_tell_20 26 rfl ?_
      refine S_stai ml_X6_95 ms_X6_in dX6_tell_26 [.long a2.toInt64, .long 0, .long 9] rfl (fun v h2 q => c_X6_in Z l _ _ _ _ q) ⟨Nat.le_of_ble_eq_true rfl, Nat.le_of_ble_eq_true rfl⟩ (rest := []) (Nat.le_of_ble_eq_true rfl) rfl (pc' := 29) rfl (fun x26 h26 => ?_)
      refine S_if_ne dX6_tell_29 39 rfl (pc' := 32) rfl (fun g29 => ?_) (fun g29 => ?_)
      · refine S_iload_n dX6_tell_39 rfl 1 rfl (pc' := 40) rfl ?_
        refine S_if_ne_N dX6_tell_40 50 rfl (pc' := 43) rfl g14 ?_
        refine S_aload_n dX6_tell_43 rfl 0 rfl (pc' := 44) rfl ?_
        refine S_getI fl_X6_37 rfl dX6_tell_44 (pc' := 47) rfl (fun x44 => ?_)
        refine S_goto dX6_tell_47 54 rfl ?_
        refine S_istore_n dX6_tell_54 rfl (by decide) (lo' := [(3, .int x44), (0, .ref (zb Z + t)), (1, .int a1), (2, .int a2)]) rfl (pc' := 55) rfl ?_
        refine S_aload_n dX6_tell_55 rfl 1 rfl (pc' := 56) rfl ?_
        refine S_iload_n dX6_tell_56 rfl 2 rfl (pc' := 57) rfl ?_
        refine S_if_ne_N dX6_tell_57 64 rfl (pc' := 60) rfl g14 ?_
        refine S_iload_n dX6_tell_60 rfl 3 rfl (pc' := 61) rfl ?_
        refine S_goto dX6_tell_61 68 rfl ?_
        refine S_putI fl_X6_37 (by decide) rfl dX6_tell_68 (pc' := 71) rfl (fun h68 => ?_)
        refine S_aload_n dX6_tell_71 rfl 1 rfl (pc' := 72) rfl ?_
        refine S_iload_n dX6_tell_72 rfl 2 rfl (pc' := 73) rfl ?_
        refine S_iconst dX6_tell_73 (v := 1) rfl (pc' := 74) rfl ?_
        refine S_icmp_ne_J dX6_tell_74 81 rfl (pc' := 77) rfl (fun q9 => absurd (g14.symm.trans q9) (by decide)) ?_
        refine S_aload_n dX6_tell_81 rfl 1 rfl (pc' := 82) rfl ?_
        refine S_getI fl_X6_161 rfl dX6_tell_82 (pc' := 85) rfl (fun x82 => ?_)
        refine S_putI fl_X6_161 (by decide) rfl dX6_tell_85 (pc' := 88) rfl (fun h85 => ?_)
        refine S_iload_n dX6_tell_88 rfl 0 rfl (pc' := 89) rfl ?_
        exact S_iret rfl dX6_tell_89
      · refine S_aload_n dX6_tell_32 rfl 0 rfl (pc' := 33) rfl ?_
        refine S_bipush dX6_tell_33 (v := (-2)) rfl (pc' := 35) rfl ?_
        refine S_invi ml_X6_108 mi_X6_refuse (ci := 6) ⟨_, rfl, rfl⟩ (by decide) dX6_tell_35 [.int (-2)] rfl (fun v h2 q => c_X6_refuse Z l _ _ _ q) ⟨Nat.le_of_ble_eq_true rfl, Nat.le_of_ble_eq_true rfl⟩ (rest := []) (Nat.le_of_ble_eq_true rfl) rfl (pc' := 38) rfl (fun x35 h35 => ?_)
        exact S_iret rfl dX6_tell_38
theorem dX6_feed_0 : decode cX6_feed 0 = .ok (.iload_n 1, 1) := by decide +kernel
theorem dX6_feed_1 : decode cX6_feed 1 = .ok (.i2l, 1) := by decide +kernel
theorem dX6_feed_2 : decode cX6_feed 2 = .ok (.lconst 0, 1) := by decide +kernel
theorem dX6_feed_3 : decode cX6_feed 3 = .ok (.ldc2_w 164, 3) := by decide +kernel
theorem dX6_feed_6 : decode cX6_feed 6 = .ok (.invokestatic 95, 3) := by decide +kernel
theorem dX6_feed_9 : decode cX6_feed 9 = .ok (.ifCond .ne 10, 3) := by decide +kernel
theorem dX6_feed_12 : decode cX6_feed 12 = .ok (.aload_n 0, 1) := by decide +kernel
theorem dX6_feed_13 : decode cX6_feed 13 = .ok (.bipush (-2), 2) := by decide +kernel
theorem dX6_feed_15 : decode cX6_feed 15 = .ok (.invokevirtual 108, 3) := by decide +kernel
theorem dX6_feed_18 : decode cX6_feed 18 = .ok (.ireturn, 1) := by decide +kernel
theorem dX6_feed_19 : decode cX6_feed 19 = .ok (.aload_n 0, 1) := by decide +kernel
theorem dX6_feed_20 : decode cX6_feed 20 = .ok (.getfield 166, 3) := by decide +kernel
theorem dX6_feed_23 : decode cX6_feed 23 = .ok (.sipush 250, 3) := by decide +kernel
theorem dX6_feed_26 : decode cX6_feed 26 = .ok (.if_icmp .ne 10, 3) := by decide +kernel
theorem dX6_feed_29 : decode cX6_feed 29 = .ok (.aload_n 0, 1) := by decide +kernel
theorem dX6_feed_30 : decode cX6_feed 30 = .ok (.bipush (-6), 2) := by decide +kernel
theorem dX6_feed_32 : decode cX6_feed 32 = .ok (.invokevirtual 108, 3) := by decide +kernel
theorem dX6_feed_35 : decode cX6_feed 35 = .ok (.ireturn, 1) := by decide +kernel
theorem dX6_feed_36 : decode cX6_feed 36 = .ok (.aload_n 0, 1) := by decide +kernel
theorem dX6_feed_37 : decode cX6_feed 37 = .ok (.getfield 31, 3) := by decide +kernel
theorem dX6_feed_40 : decode cX6_feed 40 = .ok (.aload_n 0, 1) := by decide +kernel
theorem dX6_feed_41 : decode cX6_feed 41 = .ok (.dup, 1) := by decide +kernel
theorem dX6_feed_42 : decode cX6_feed 42 = .ok (.getfield 166, 3) := by decide +kernel
theorem dX6_feed_45 : decode cX6_feed 45 = .ok (.dup_x1, 1) := by decide +kernel
theorem dX6_feed_46 : decode cX6_feed 46 = .ok (.iconst 1, 1) := by decide +kernel
theorem dX6_feed_47 : decode cX6_feed 47 = .ok (.iadd, 1) := by decide +kernel
theorem dX6_feed_48 : decode cX6_feed 48 = .ok (.putfield 166, 3) := by decide +kernel
theorem dX6_feed_51 : decode cX6_feed 51 = .ok (.iload_n 1, 1) := by decide +kernel
theorem dX6_feed_52 : decode cX6_feed 52 = .ok (.iastore, 1) := by decide +kernel
theorem dX6_feed_53 : decode cX6_feed 53 = .ok (.aload_n 0, 1) := by decide +kernel
theorem dX6_feed_54 : decode cX6_feed 54 = .ok (.getfield 166, 3) := by decide +kernel
theorem dX6_feed_57 : decode cX6_feed 57 = .ok (.ireturn, 1) := by decide +kernel
set_option maxRecDepth 100000 in
set_option maxHeartbeats 4000000 in
theorem c_X6_feed (Z : ZZ) (l : Launch) (t : Nat) (a1 : Int32) (h : HP) {v : Int32} {h1 : HP} (ho : f_X6_feed t a1 h = some (v, h1)) : MetP Z l yX6_feed cX6_feed 2 (some .int) 1 25 [.ref (zb Z + t), .int a1] h (some (.int v)) h1 := by
  refine MetP_of ho (by decide +kernel) (Nat.le_of_ble_eq_true rfl) [(0, .ref (zb Z + t)), (1, .int a1)] rfl (own := RX6) rfl (nm := "feed") rfl ?_
  unfold f_X6_feed
  refine S_iload_n dX6_feed_0 rfl 1 rfl (pc' := 1) rfl ?_
  refine S_i2l dX6_feed_1 (pc' := 2) rfl ?_
  refine S_lconst dX6_feed_2 (v := 0) rfl (pc' := 3) rfl ?_
  refine S_ldc2 dX6_feed_3 kc_X6_164 (pc' := 6) rfl ?_
  refine S_stai ml_X6_95 ms_X6_in dX6_feed_6 [.long a1.toInt64, .long 0, .long 255] rfl (fun v h2 q => c_X6_in Z l _ _ _ _ q) ⟨Nat.le_of_ble_eq_true rfl, Nat.le_of_ble_eq_true rfl⟩ (rest := []) (Nat.le_of_ble_eq_true rfl) rfl (pc' := 9) rfl (fun x6 h6 => ?_)
  refine S_if_ne dX6_feed_9 19 rfl (pc' := 12) rfl (fun g9 => ?_) (fun g9 => ?_)
  · refine S_aload_n dX6_feed_19 rfl 0 rfl (pc' := 20) rfl ?_
    refine S_getI fl_X6_166 rfl dX6_feed_20 (pc' := 23) rfl (fun x20 => ?_)
    refine S_sipush dX6_feed_23 (v := 250) rfl (pc' := 26) rfl ?_
    refine S_icmp_ne dX6_feed_26 36 rfl (pc' := 29) rfl (fun g26 => ?_) (fun g26 => ?_)
    · refine S_aload_n dX6_feed_36 rfl 0 rfl (pc' := 37) rfl ?_
      refine S_getR fl_X6_31 rfl dX6_feed_37 (pc' := 40) rfl (fun x37 => ?_)
      refine S_aload_n dX6_feed_40 rfl 0 rfl (pc' := 41) rfl ?_
      refine S_dup dX6_feed_41 rfl (pc' := 42) rfl ?_
      refine S_getI fl_X6_166 rfl dX6_feed_42 (pc' := 45) rfl (fun x42 => ?_)
      refine S_dup_x1 dX6_feed_45 rfl rfl (pc' := 46) rfl ?_
      refine S_iconst dX6_feed_46 (v := 1) rfl (pc' := 47) rfl ?_
      refine S_iadd dX6_feed_47 (pc' := 48) rfl ?_
      refine S_putI fl_X6_166 (by decide) rfl dX6_feed_48 (pc' := 51) rfl (fun h48 => ?_)
      refine S_iload_n dX6_feed_51 rfl 1 rfl (pc' := 52) rfl ?_
      refine S_iastore dX6_feed_52 (pc' := 53) rfl (fun h52 => ?_)
      refine S_aload_n dX6_feed_53 rfl 0 rfl (pc' := 54) rfl ?_
      refine S_getI fl_X6_166 rfl dX6_feed_54 (pc' := 57) rfl (fun x54 => ?_)
      exact S_iret rfl dX6_feed_57
    · refine S_aload_n dX6_feed_29 rfl 0 rfl (pc' := 30) rfl ?_
      refine S_bipush dX6_feed_30 (v := (-6)) rfl (pc' := 32) rfl ?_
      refine S_invi ml_X6_108 mi_X6_refuse (ci := 6) ⟨_, rfl, rfl⟩ (by decide) dX6_feed_32 [.int (-6)] rfl (fun v h2 q => c_X6_refuse Z l _ _ _ q) ⟨Nat.le_of_ble_eq_true rfl, Nat.le_of_ble_eq_true rfl⟩ (rest := []) (Nat.le_of_ble_eq_true rfl) rfl (pc' := 35) rfl (fun x32 h32 => ?_)
      exact S_iret rfl dX6_feed_35
  · refine S_aload_n dX6_feed_12 rfl 0 rfl (pc' := 13) rfl ?_
    refine S_bipush dX6_feed_13 (v := (-2)) rfl (pc' := 15) rfl ?_
    refine S_invi ml_X6_108 mi_X6_refuse (ci := 6) ⟨_, rfl, rfl⟩ (by decide) dX6_feed_15 [.int (-2)] rfl (fun v h2 q => c_X6_refuse Z l _ _ _ q) ⟨Nat.le_of_ble_eq_true rfl, Nat.le_of_ble_eq_true rfl⟩ (rest := []) (Nat.le_of_ble_eq_true rfl) rfl (pc' := 18) rfl (fun x15 h15 => ?_)
    exact S_iret rfl dX6_feed_18
theorem dX6_wipe_0 : decode cX6_wipe 0 = .ok (.aload_n 0, 1) := by decide +kernel
theorem dX6_wipe_1 : decode cX6_wipe 1 = .ok (.getfield 166, 3) := by decide +kernel
theorem dX6_wipe_4 : decode cX6_wipe 4 = .ok (.istore_n 1, 1) := by decide +kernel
theorem dX6_wipe_5 : decode cX6_wipe 5 = .ok (.aload_n 0, 1) := by decide +kernel
theorem dX6_wipe_6 : decode cX6_wipe 6 = .ok (.iconst 0, 1) := by decide +kernel
theorem dX6_wipe_7 : decode cX6_wipe 7 = .ok (.putfield 166, 3) := by decide +kernel
theorem dX6_wipe_10 : decode cX6_wipe 10 = .ok (.iload_n 1, 1) := by decide +kernel
theorem dX6_wipe_11 : decode cX6_wipe 11 = .ok (.ireturn, 1) := by decide +kernel
set_option maxRecDepth 100000 in
set_option maxHeartbeats 4000000 in
theorem c_X6_wipe (Z : ZZ) (l : Launch) (t : Nat) (h : HP) {v : Int32} {h1 : HP} (ho : f_X6_wipe t h = some (v, h1)) : MetP Z l yX6_wipe cX6_wipe 2 (some .int) 0 0 [.ref (zb Z + t)] h (some (.int v)) h1 := by
  refine MetP_of ho (by decide +kernel) (Nat.le_of_ble_eq_true rfl) [(0, .ref (zb Z + t))] rfl (own := RX6) rfl (nm := "wipe") rfl ?_
  unfold f_X6_wipe
  refine S_aload_n dX6_wipe_0 rfl 0 rfl (pc' := 1) rfl ?_
  refine S_getI fl_X6_166 rfl dX6_wipe_1 (pc' := 4) rfl (fun x1 => ?_)
  refine S_istore_n dX6_wipe_4 rfl (by decide) (lo' := [(1, .int x1), (0, .ref (zb Z + t))]) rfl (pc' := 5) rfl ?_
  refine S_aload_n dX6_wipe_5 rfl 1 rfl (pc' := 6) rfl ?_
  refine S_iconst dX6_wipe_6 (v := 0) rfl (pc' := 7) rfl ?_
  refine S_putI fl_X6_166 (by decide) rfl dX6_wipe_7 (pc' := 10) rfl (fun h7 => ?_)
  refine S_iload_n dX6_wipe_10 rfl 0 rfl (pc' := 11) rfl ?_
  exact S_iret rfl dX6_wipe_11
theorem dX6_isLetter_0 : decode cX6_isLetter 0 = .ok (.iload_n 0, 1) := by decide +kernel
theorem dX6_isLetter_1 : decode cX6_isLetter 1 = .ok (.bipush 97, 2) := by decide +kernel
theorem dX6_isLetter_3 : decode cX6_isLetter 3 = .ok (.if_icmp .lt 13, 3) := by decide +kernel
theorem dX6_isLetter_6 : decode cX6_isLetter 6 = .ok (.iload_n 0, 1) := by decide +kernel
theorem dX6_isLetter_7 : decode cX6_isLetter 7 = .ok (.bipush 122, 2) := by decide +kernel
theorem dX6_isLetter_9 : decode cX6_isLetter 9 = .ok (.if_icmp .gt 7, 3) := by decide +kernel
theorem dX6_isLetter_12 : decode cX6_isLetter 12 = .ok (.iconst 1, 1) := by decide +kernel
theorem dX6_isLetter_13 : decode cX6_isLetter 13 = .ok (.goto 4, 3) := by decide +kernel
theorem dX6_isLetter_16 : decode cX6_isLetter 16 = .ok (.iconst 0, 1) := by decide +kernel
theorem dX6_isLetter_17 : decode cX6_isLetter 17 = .ok (.ireturn, 1) := by decide +kernel
set_option maxRecDepth 100000 in
set_option maxHeartbeats 4000000 in
theorem c_X6_isLetter (Z : ZZ) (l : Launch) (a0 : Int32) (h : HP) {v : Int32} {h1 : HP} (ho : f_X6_isLetter a0 h = some (v, h1)) : MetP Z l yX6_isLetter cX6_isLetter 1 (some .boolean) 0 0 [.int a0] h (some (.int v)) h1 := by
  refine MetP_of ho (by decide +kernel) (Nat.le_of_ble_eq_true rfl) [(0, .int a0)] rfl (own := RX6) rfl (nm := "isLetter") rfl ?_
  unfold f_X6_isLetter
  refine S_iload_n dX6_isLetter_0 rfl 0 rfl (pc' := 1) rfl ?_
  refine S_bipush dX6_isLetter_1 (v := 97) rfl (pc' := 3) rfl ?_
  refine S_icmp_lt dX6_isLetter_3 16 rfl (pc' := 6) rfl (fun g3 => ?_) (fun g3 => ?_)
  · refine S_iconst dX6_isLetter_16 (v := 0) rfl (pc' := 17) rfl ?_
    exact S_zret rfl dX6_isLetter_17
  · refine S_iload_n dX6_isLetter_6 rfl 0 rfl (pc' := 7) rfl ?_
    refine S_bipush dX6_isLetter_7 (v := 122) rfl (pc' := 9) rfl ?_
    refine S_icmp_gt dX6_isLetter_9 16 rfl (pc' := 12) rfl (fun g9 => ?_) (fun g9 => ?_)
    · refine S_iconst dX6_isLetter_16 (v := 0) rfl (pc' := 17) rfl ?_
      exact S_zret rfl dX6_isLetter_17
    · refine S_iconst dX6_isLetter_12 (v := 1) rfl (pc' := 13) rfl ?_
      refine S_goto dX6_isLetter_13 17 rfl ?_
      exact S_zret rfl dX6_isLetter_17
theorem dX6_isDigit_0 : decode cX6_isDigit 0 = .ok (.iload_n 0, 1) := by decide +kernel
theorem dX6_isDigit_1 : decode cX6_isDigit 1 = .ok (.bipush 48, 2) := by decide +kernel
theorem dX6_isDigit_3 : decode cX6_isDigit 3 = .ok (.if_icmp .lt 13, 3) := by decide +kernel
theorem dX6_isDigit_6 : decode cX6_isDigit 6 = .ok (.iload_n 0, 1) := by decide +kernel
theorem dX6_isDigit_7 : decode cX6_isDigit 7 = .ok (.bipush 57, 2) := by decide +kernel
theorem dX6_isDigit_9 : decode cX6_isDigit 9 = .ok (.if_icmp .gt 7, 3) := by decide +kernel
theorem dX6_isDigit_12 : decode cX6_isDigit 12 = .ok (.iconst 1, 1) := by decide +kernel
theorem dX6_isDigit_13 : decode cX6_isDigit 13 = .ok (.goto 4, 3) := by decide +kernel
theorem dX6_isDigit_16 : decode cX6_isDigit 16 = .ok (.iconst 0, 1) := by decide +kernel
theorem dX6_isDigit_17 : decode cX6_isDigit 17 = .ok (.ireturn, 1) := by decide +kernel
set_option maxRecDepth 100000 in
set_option maxHeartbeats 4000000 in
theorem c_X6_isDigit (Z : ZZ) (l : Launch) (a0 : Int32) (h : HP) {v : Int32} {h1 : HP} (ho : f_X6_isDigit a0 h = some (v, h1)) : MetP Z l yX6_isDigit cX6_isDigit 1 (some .boolean) 0 0 [.int a0] h (some (.int v)) h1 := by
  refine MetP_of ho (by decide +kernel) (Nat.le_of_ble_eq_true rfl) [(0, .int a0)] rfl (own := RX6) rfl (nm := "isDigit") rfl ?_
  unfold f_X6_isDigit
  refine S_iload_n dX6_isDigit_0 rfl 0 rfl (pc' := 1) rfl ?_
  refine S_bipush dX6_isDigit_1 (v := 48) rfl (pc' := 3) rfl ?_
  refine S_icmp_lt dX6_isDigit_3 16 rfl (pc' := 6) rfl (fun g3 => ?_) (fun g3 => ?_)
  · refine S_iconst dX6_isDigit_16 (v := 0) rfl (pc' := 17) rfl ?_
    exact S_zret rfl dX6_isDigit_17
  · refine S_iload_n dX6_isDigit_6 rfl 0 rfl (pc' := 7) rfl ?_
    refine S_bipush dX6_isDigit_7 (v := 57) rfl (pc' := 9) rfl ?_
    refine S_icmp_gt dX6_isDigit_9 16 rfl (pc' := 12) rfl (fun g9 => ?_) (fun g9 => ?_)
    · refine S_iconst dX6_isDigit_16 (v := 0) rfl (pc' := 17) rfl ?_
      exact S_zret rfl dX6_isDigit_17
    · refine S_iconst dX6_isDigit_12 (v := 1) rfl (pc' := 13) rfl ?_
      refine S_goto dX6_isDigit_13 17 rfl ?_
      exact S_zret rfl dX6_isDigit_17
theorem dX6_look_0 : decode cX6_look 0 = .ok (.aload_n 0, 1) := by decide +kernel
theorem dX6_look_1 : decode cX6_look 1 = .ok (.getfield 169, 3) := by decide +kernel
theorem dX6_look_4 : decode cX6_look 4 = .ok (.aload_n 0, 1) := by decide +kernel
theorem dX6_look_5 : decode cX6_look 5 = .ok (.getfield 166, 3) := by decide +kernel
theorem dX6_look_8 : decode cX6_look 8 = .ok (.if_icmp .ge 30, 3) := by decide +kernel
theorem dX6_look_11 : decode cX6_look 11 = .ok (.aload_n 0, 1) := by decide +kernel
theorem dX6_look_12 : decode cX6_look 12 = .ok (.getfield 31, 3) := by decide +kernel
theorem dX6_look_15 : decode cX6_look 15 = .ok (.aload_n 0, 1) := by decide +kernel
theorem dX6_look_16 : decode cX6_look 16 = .ok (.getfield 169, 3) := by decide +kernel
theorem dX6_look_19 : decode cX6_look 19 = .ok (.iaload, 1) := by decide +kernel
theorem dX6_look_20 : decode cX6_look 20 = .ok (.bipush 32, 2) := by decide +kernel
theorem dX6_look_22 : decode cX6_look 22 = .ok (.if_icmp .ne 16, 3) := by decide +kernel
theorem dX6_look_25 : decode cX6_look 25 = .ok (.aload_n 0, 1) := by decide +kernel
theorem dX6_look_26 : decode cX6_look 26 = .ok (.dup, 1) := by decide +kernel
theorem dX6_look_27 : decode cX6_look 27 = .ok (.getfield 169, 3) := by decide +kernel
theorem dX6_look_30 : decode cX6_look 30 = .ok (.iconst 1, 1) := by decide +kernel
theorem dX6_look_31 : decode cX6_look 31 = .ok (.iadd, 1) := by decide +kernel
theorem dX6_look_32 : decode cX6_look 32 = .ok (.putfield 169, 3) := by decide +kernel
theorem dX6_look_35 : decode cX6_look 35 = .ok (.goto (-35), 3) := by decide +kernel
theorem dX6_look_38 : decode cX6_look 38 = .ok (.aload_n 0, 1) := by decide +kernel
theorem dX6_look_39 : decode cX6_look 39 = .ok (.aload_n 0, 1) := by decide +kernel
theorem dX6_look_40 : decode cX6_look 40 = .ok (.getfield 169, 3) := by decide +kernel
theorem dX6_look_43 : decode cX6_look 43 = .ok (.putfield 172, 3) := by decide +kernel
theorem dX6_look_46 : decode cX6_look 46 = .ok (.aload_n 0, 1) := by decide +kernel
theorem dX6_look_47 : decode cX6_look 47 = .ok (.iconst 0, 1) := by decide +kernel
theorem dX6_look_48 : decode cX6_look 48 = .ok (.putfield 175, 3) := by decide +kernel
theorem dX6_look_51 : decode cX6_look 51 = .ok (.aload_n 0, 1) := by decide +kernel
theorem dX6_look_52 : decode cX6_look 52 = .ok (.getfield 169, 3) := by decide +kernel
theorem dX6_look_55 : decode cX6_look 55 = .ok (.aload_n 0, 1) := by decide +kernel
theorem dX6_look_56 : decode cX6_look 56 = .ok (.getfield 166, 3) := by decide +kernel
theorem dX6_look_59 : decode cX6_look 59 = .ok (.if_icmp .ne 11, 3) := by decide +kernel
theorem dX6_look_62 : decode cX6_look 62 = .ok (.aload_n 0, 1) := by decide +kernel
theorem dX6_look_63 : decode cX6_look 63 = .ok (.iconst 0, 1) := by decide +kernel
theorem dX6_look_64 : decode cX6_look 64 = .ok (.putfield 178, 3) := by decide +kernel
theorem dX6_look_67 : decode cX6_look 67 = .ok (.goto 197, 3) := by decide +kernel
theorem dX6_look_70 : decode cX6_look 70 = .ok (.aload_n 0, 1) := by decide +kernel
theorem dX6_look_71 : decode cX6_look 71 = .ok (.getfield 31, 3) := by decide +kernel
theorem dX6_look_74 : decode cX6_look 74 = .ok (.aload_n 0, 1) := by decide +kernel
theorem dX6_look_75 : decode cX6_look 75 = .ok (.getfield 169, 3) := by decide +kernel
theorem dX6_look_78 : decode cX6_look 78 = .ok (.iaload, 1) := by decide +kernel
theorem dX6_look_79 : decode cX6_look 79 = .ok (.invokestatic 181, 3) := by decide +kernel
theorem dX6_look_82 : decode cX6_look 82 = .ok (.ifCond .eq 47, 3) := by decide +kernel
theorem dX6_look_85 : decode cX6_look 85 = .ok (.aload_n 0, 1) := by decide +kernel
theorem dX6_look_86 : decode cX6_look 86 = .ok (.iconst 1, 1) := by decide +kernel
theorem dX6_look_87 : decode cX6_look 87 = .ok (.putfield 178, 3) := by decide +kernel
theorem dX6_look_90 : decode cX6_look 90 = .ok (.aload_n 0, 1) := by decide +kernel
theorem dX6_look_91 : decode cX6_look 91 = .ok (.getfield 169, 3) := by decide +kernel
theorem dX6_look_94 : decode cX6_look 94 = .ok (.aload_n 0, 1) := by decide +kernel
theorem dX6_look_95 : decode cX6_look 95 = .ok (.getfield 166, 3) := by decide +kernel
theorem dX6_look_98 : decode cX6_look 98 = .ok (.if_icmp .ge 166, 3) := by decide +kernel
theorem dX6_look_101 : decode cX6_look 101 = .ok (.aload_n 0, 1) := by decide +kernel
theorem dX6_look_102 : decode cX6_look 102 = .ok (.getfield 31, 3) := by decide +kernel
theorem dX6_look_105 : decode cX6_look 105 = .ok (.aload_n 0, 1) := by decide +kernel
theorem dX6_look_106 : decode cX6_look 106 = .ok (.getfield 169, 3) := by decide +kernel
theorem dX6_look_109 : decode cX6_look 109 = .ok (.iaload, 1) := by decide +kernel
theorem dX6_look_110 : decode cX6_look 110 = .ok (.invokestatic 181, 3) := by decide +kernel
theorem dX6_look_113 : decode cX6_look 113 = .ok (.ifCond .eq 151, 3) := by decide +kernel
theorem dX6_look_116 : decode cX6_look 116 = .ok (.aload_n 0, 1) := by decide +kernel
theorem dX6_look_117 : decode cX6_look 117 = .ok (.dup, 1) := by decide +kernel
theorem dX6_look_118 : decode cX6_look 118 = .ok (.getfield 169, 3) := by decide +kernel
theorem dX6_look_121 : decode cX6_look 121 = .ok (.iconst 1, 1) := by decide +kernel
theorem dX6_look_122 : decode cX6_look 122 = .ok (.iadd, 1) := by decide +kernel
theorem dX6_look_123 : decode cX6_look 123 = .ok (.putfield 169, 3) := by decide +kernel
theorem dX6_look_126 : decode cX6_look 126 = .ok (.goto (-36), 3) := by decide +kernel
theorem dX6_look_129 : decode cX6_look 129 = .ok (.aload_n 0, 1) := by decide +kernel
theorem dX6_look_130 : decode cX6_look 130 = .ok (.getfield 31, 3) := by decide +kernel
theorem dX6_look_133 : decode cX6_look 133 = .ok (.aload_n 0, 1) := by decide +kernel
theorem dX6_look_134 : decode cX6_look 134 = .ok (.getfield 169, 3) := by decide +kernel
theorem dX6_look_137 : decode cX6_look 137 = .ok (.iaload, 1) := by decide +kernel
theorem dX6_look_138 : decode cX6_look 138 = .ok (.invokestatic 184, 3) := by decide +kernel
theorem dX6_look_141 : decode cX6_look 141 = .ok (.ifCond .eq 90, 3) := by decide +kernel
theorem dX6_look_144 : decode cX6_look 144 = .ok (.aload_n 0, 1) := by decide +kernel
theorem dX6_look_145 : decode cX6_look 145 = .ok (.iconst 2, 1) := by decide +kernel
theorem dX6_look_146 : decode cX6_look 146 = .ok (.putfield 178, 3) := by decide +kernel
theorem dX6_look_149 : decode cX6_look 149 = .ok (.aload_n 0, 1) := by decide +kernel
theorem dX6_look_150 : decode cX6_look 150 = .ok (.getfield 169, 3) := by decide +kernel
theorem dX6_look_153 : decode cX6_look 153 = .ok (.aload_n 0, 1) := by decide +kernel
theorem dX6_look_154 : decode cX6_look 154 = .ok (.getfield 166, 3) := by decide +kernel
theorem dX6_look_157 : decode cX6_look 157 = .ok (.if_icmp .ge 107, 3) := by decide +kernel
theorem dX6_look_160 : decode cX6_look 160 = .ok (.aload_n 0, 1) := by decide +kernel
theorem dX6_look_161 : decode cX6_look 161 = .ok (.getfield 31, 3) := by decide +kernel
theorem dX6_look_164 : decode cX6_look 164 = .ok (.aload_n 0, 1) := by decide +kernel
theorem dX6_look_165 : decode cX6_look 165 = .ok (.getfield 169, 3) := by decide +kernel
theorem dX6_look_168 : decode cX6_look 168 = .ok (.iaload, 1) := by decide +kernel
theorem dX6_look_169 : decode cX6_look 169 = .ok (.invokestatic 184, 3) := by decide +kernel
theorem dX6_look_172 : decode cX6_look 172 = .ok (.ifCond .eq 92, 3) := by decide +kernel
theorem dX6_look_175 : decode cX6_look 175 = .ok (.aload_n 0, 1) := by decide +kernel
theorem dX6_look_176 : decode cX6_look 176 = .ok (.aload_n 0, 1) := by decide +kernel
theorem dX6_look_177 : decode cX6_look 177 = .ok (.getfield 169, 3) := by decide +kernel
theorem dX6_look_180 : decode cX6_look 180 = .ok (.aload_n 0, 1) := by decide +kernel
theorem dX6_look_181 : decode cX6_look 181 = .ok (.getfield 172, 3) := by decide +kernel
theorem dX6_look_184 : decode cX6_look 184 = .ok (.isub, 1) := by decide +kernel
theorem dX6_look_185 : decode cX6_look 185 = .ok (.iconst 3, 1) := by decide +kernel
theorem dX6_look_186 : decode cX6_look 186 = .ok (.if_icmp .ge 26, 3) := by decide +kernel
theorem dX6_look_189 : decode cX6_look 189 = .ok (.aload_n 0, 1) := by decide +kernel
theorem dX6_look_190 : decode cX6_look 190 = .ok (.getfield 175, 3) := by decide +kernel
theorem dX6_look_193 : decode cX6_look 193 = .ok (.bipush 10, 2) := by decide +kernel
theorem dX6_look_195 : decode cX6_look 195 = .ok (.imul, 1) := by decide +kernel
theorem dX6_look_196 : decode cX6_look 196 = .ok (.aload_n 0, 1) := by decide +kernel
theorem dX6_look_197 : decode cX6_look 197 = .ok (.getfield 31, 3) := by decide +kernel
theorem dX6_look_200 : decode cX6_look 200 = .ok (.aload_n 0, 1) := by decide +kernel
theorem dX6_look_201 : decode cX6_look 201 = .ok (.getfield 169, 3) := by decide +kernel
theorem dX6_look_204 : decode cX6_look 204 = .ok (.iaload, 1) := by decide +kernel
theorem dX6_look_205 : decode cX6_look 205 = .ok (.iadd, 1) := by decide +kernel
theorem dX6_look_206 : decode cX6_look 206 = .ok (.bipush 48, 2) := by decide +kernel
theorem dX6_look_208 : decode cX6_look 208 = .ok (.isub, 1) := by decide +kernel
theorem dX6_look_209 : decode cX6_look 209 = .ok (.goto 6, 3) := by decide +kernel
theorem dX6_look_212 : decode cX6_look 212 = .ok (.sipush 1000, 3) := by decide +kernel
theorem dX6_look_215 : decode cX6_look 215 = .ok (.putfield 175, 3) := by decide +kernel
theorem dX6_look_218 : decode cX6_look 218 = .ok (.aload_n 0, 1) := by decide +kernel
theorem dX6_look_219 : decode cX6_look 219 = .ok (.dup, 1) := by decide +kernel
theorem dX6_look_220 : decode cX6_look 220 = .ok (.getfield 169, 3) := by decide +kernel
theorem dX6_look_223 : decode cX6_look 223 = .ok (.iconst 1, 1) := by decide +kernel
theorem dX6_look_224 : decode cX6_look 224 = .ok (.iadd, 1) := by decide +kernel
theorem dX6_look_225 : decode cX6_look 225 = .ok (.putfield 169, 3) := by decide +kernel
theorem dX6_look_228 : decode cX6_look 228 = .ok (.goto (-79), 3) := by decide +kernel
theorem dX6_look_231 : decode cX6_look 231 = .ok (.aload_n 0, 1) := by decide +kernel
theorem dX6_look_232 : decode cX6_look 232 = .ok (.aload_n 0, 1) := by decide +kernel
theorem dX6_look_233 : decode cX6_look 233 = .ok (.getfield 31, 3) := by decide +kernel
theorem dX6_look_236 : decode cX6_look 236 = .ok (.aload_n 0, 1) := by decide +kernel
theorem dX6_look_237 : decode cX6_look 237 = .ok (.getfield 169, 3) := by decide +kernel
theorem dX6_look_240 : decode cX6_look 240 = .ok (.iaload, 1) := by decide +kernel
theorem dX6_look_241 : decode cX6_look 241 = .ok (.bipush 59, 2) := by decide +kernel
theorem dX6_look_243 : decode cX6_look 243 = .ok (.if_icmp .ne 7, 3) := by decide +kernel
theorem dX6_look_246 : decode cX6_look 246 = .ok (.iconst 3, 1) := by decide +kernel
theorem dX6_look_247 : decode cX6_look 247 = .ok (.goto 4, 3) := by decide +kernel
theorem dX6_look_250 : decode cX6_look 250 = .ok (.iconst 4, 1) := by decide +kernel
theorem dX6_look_251 : decode cX6_look 251 = .ok (.putfield 178, 3) := by decide +kernel
theorem dX6_look_254 : decode cX6_look 254 = .ok (.aload_n 0, 1) := by decide +kernel
theorem dX6_look_255 : decode cX6_look 255 = .ok (.dup, 1) := by decide +kernel
theorem dX6_look_256 : decode cX6_look 256 = .ok (.getfield 169, 3) := by decide +kernel
theorem dX6_look_259 : decode cX6_look 259 = .ok (.iconst 1, 1) := by decide +kernel
theorem dX6_look_260 : decode cX6_look 260 = .ok (.iadd, 1) := by decide +kernel
theorem dX6_look_261 : decode cX6_look 261 = .ok (.putfield 169, 3) := by decide +kernel
theorem dX6_look_264 : decode cX6_look 264 = .ok (.return_, 1) := by decide +kernel
set_option maxRecDepth 100000 in
set_option maxHeartbeats 4000000 in
theorem lc_X6_look_0 (Z : ZZ) (l : Launch) (a0 : Nat) {args : Array Value} {h0 h1 : HP} {v0 : Unit} (K : HP → Option (Unit × HP)) (F : HP → Option (Unit × HP))
    (hK : ∀ (h : HP), Sim Z l cX6_look RX6 1 1 20 (none) "look" args (Mq Z args h0 h1 (none)) h0 h1 v0 38 [(0, .ref (zb Z + a0))] [] h (K h))
    (hF : ∀ (h : HP), Sim Z l cX6_look RX6 1 1 20 (none) "look" args (Mq Z args h0 h1 (none)) h0 h1 v0 0 [(0, .ref (zb Z + a0))] [] h (F h)) :
    ∀ (h : HP), Sim Z l cX6_look RX6 1 1 20 (none) "look" args (Mq Z args h0 h1 (none)) h0 h1 v0 0 [(0, .ref (zb Z + a0))] [] h (lb_X6_look_0 a0 K F h) := by
  intro h
  unfold lb_X6_look_0
  refine S_aload_n dX6_look_0 rfl 0 rfl (pc' := 1) rfl ?_
  refine S_getI fl_X6_169 rfl dX6_look_1 (pc' := 4) rfl (fun x1 => ?_)
  refine S_aload_n dX6_look_4 rfl 0 rfl (pc' := 5) rfl ?_
  refine S_getI fl_X6_166 rfl dX6_look_5 (pc' := 8) rfl (fun x5 => ?_)
  refine S_icmp_ge dX6_look_8 38 rfl (pc' := 11) rfl (fun g8 => ?_) (fun g8 => ?_)
  · refine Sim.sub [0] rfl ?_
    exact hK _
  · refine S_aload_n dX6_look_11 rfl 0 rfl (pc' := 12) rfl ?_
    refine S_getR fl_X6_31 rfl dX6_look_12 (pc' := 15) rfl (fun x12 => ?_)
    refine S_aload_n dX6_look_15 rfl 0 rfl (pc' := 16) rfl ?_
    refine S_getI fl_X6_169 rfl dX6_look_16 (pc' := 19) rfl (fun x16 => ?_)
    refine S_iaload dX6_look_19 (pc' := 20) rfl (fun x19 => ?_)
    refine S_bipush dX6_look_20 (v := 32) rfl (pc' := 22) rfl ?_
    refine S_icmp_ne dX6_look_22 38 rfl (pc' := 25) rfl (fun g22 => ?_) (fun g22 => ?_)
    · refine Sim.sub [0] rfl ?_
      exact hK _
    · refine S_aload_n dX6_look_25 rfl 0 rfl (pc' := 26) rfl ?_
      refine S_dup dX6_look_26 rfl (pc' := 27) rfl ?_
      refine S_getI fl_X6_169 rfl dX6_look_27 (pc' := 30) rfl (fun x27 => ?_)
      refine S_iconst dX6_look_30 (v := 1) rfl (pc' := 31) rfl ?_
      refine S_iadd dX6_look_31 (pc' := 32) rfl ?_
      refine S_putI fl_X6_169 (by decide) rfl dX6_look_32 (pc' := 35) rfl (fun h32 => ?_)
      refine S_goto dX6_look_35 0 rfl ?_
      refine Sim.sub [0] rfl ?_
      exact hF _
theorem lq_X6_look_0 (Z : ZZ) (l : Launch) (a0 : Nat) {args : Array Value} {h0 h1 : HP} {v0 : Unit} (K : HP → Option (Unit × HP))
    (hK : ∀ (h : HP), Sim Z l cX6_look RX6 1 1 20 (none) "look" args (Mq Z args h0 h1 (none)) h0 h1 v0 38 [(0, .ref (zb Z + a0))] [] h (K h)) :
    ∀ (k : Nat) (h : HP), Sim Z l cX6_look RX6 1 1 20 (none) "look" args (Mq Z args h0 h1 (none)) h0 h1 v0 0 [(0, .ref (zb Z + a0))] [] h (lp_X6_look_0 a0 K k h) := by
  intro k
  induction k with
  | zero => exact fun _ => Sim.none
  | succ k ih => exact lc_X6_look_0 Z l a0 K _ hK ih
set_option maxRecDepth 100000 in
set_option maxHeartbeats 4000000 in
theorem lc_X6_look_149 (Z : ZZ) (l : Launch) (a0 : Nat) {args : Array Value} {h0 h1 : HP} {v0 : Unit} (K : HP → Option (Unit × HP)) (F : HP → Option (Unit × HP))
    (hK : ∀ (h : HP), Sim Z l cX6_look RX6 1 1 20 (none) "look" args (Mq Z args h0 h1 (none)) h0 h1 v0 264 [] [] h (K h))
    (hF : ∀ (h : HP), Sim Z l cX6_look RX6 1 1 20 (none) "look" args (Mq Z args h0 h1 (none)) h0 h1 v0 149 [(0, .ref (zb Z + a0))] [] h (F h)) :
    ∀ (h : HP), Sim Z l cX6_look RX6 1 1 20 (none) "look" args (Mq Z args h0 h1 (none)) h0 h1 v0 149 [(0, .ref (zb Z + a0))] [] h (lb_X6_look_149 a0 K F h) := by
  intro h
  unfold lb_X6_look_149
  refine S_aload_n dX6_look_149 rfl 0 rfl (pc' := 150) rfl ?_
  refine S_getI fl_X6_169 rfl dX6_look_150 (pc' := 153) rfl (fun x150 => ?_)
  refine S_aload_n dX6_look_153 rfl 0 rfl (pc' := 154) rfl ?_
  refine S_getI fl_X6_166 rfl dX6_look_154 (pc' := 157) rfl (fun x154 => ?_)
  refine S_icmp_ge dX6_look_157 264 rfl (pc' := 160) rfl (fun g157 => ?_) (fun g157 => ?_)
  · refine Sim.sub [] rfl ?_
    exact hK _
  · refine S_aload_n dX6_look_160 rfl 0 rfl (pc' := 161) rfl ?_
    refine S_getR fl_X6_31 rfl dX6_look_161 (pc' := 164) rfl (fun x161 => ?_)
    refine S_aload_n dX6_look_164 rfl 0 rfl (pc' := 165) rfl ?_
    refine S_getI fl_X6_169 rfl dX6_look_165 (pc' := 168) rfl (fun x165 => ?_)
    refine S_iaload dX6_look_168 (pc' := 169) rfl (fun x168 => ?_)
    refine S_stai ml_X6_184 ms_X6_isDigit dX6_look_169 [.int x168] rfl (fun v h2 q => c_X6_isDigit Z l _ _ q) ⟨Nat.le_of_ble_eq_true rfl, Nat.le_of_ble_eq_true rfl⟩ (rest := []) (Nat.le_of_ble_eq_true rfl) rfl (pc' := 172) rfl (fun x169 h169 => ?_)
    refine S_if_eq dX6_look_172 264 rfl (pc' := 175) rfl (fun g172 => ?_) (fun g172 => ?_)
    · refine Sim.sub [] rfl ?_
      exact hK _
    · refine S_aload_n dX6_look_175 rfl 0 rfl (pc' := 176) rfl ?_
      refine S_aload_n dX6_look_176 rfl 0 rfl (pc' := 177) rfl ?_
      refine S_getI fl_X6_169 rfl dX6_look_177 (pc' := 180) rfl (fun x177 => ?_)
      refine S_aload_n dX6_look_180 rfl 0 rfl (pc' := 181) rfl ?_
      refine S_getI fl_X6_172 rfl dX6_look_181 (pc' := 184) rfl (fun x181 => ?_)
      refine S_isub dX6_look_184 (pc' := 185) rfl ?_
      refine S_iconst dX6_look_185 (v := 3) rfl (pc' := 186) rfl ?_
      refine S_icmp_ge dX6_look_186 212 rfl (pc' := 189) rfl (fun g186 => ?_) (fun g186 => ?_)
      · refine S_sipush dX6_look_212 (v := 1000) rfl (pc' := 215) rfl ?_
        refine S_putI fl_X6_175 (by decide) rfl dX6_look_215 (pc' := 218) rfl (fun h215 => ?_)
        refine S_aload_n dX6_look_218 rfl 0 rfl (pc' := 219) rfl ?_
        refine S_dup dX6_look_219 rfl (pc' := 220) rfl ?_
        refine S_getI fl_X6_169 rfl dX6_look_220 (pc' := 223) rfl (fun x220 => ?_)
        refine S_iconst dX6_look_223 (v := 1) rfl (pc' := 224) rfl ?_
        refine S_iadd dX6_look_224 (pc' := 225) rfl ?_
        refine S_putI fl_X6_169 (by decide) rfl dX6_look_225 (pc' := 228) rfl (fun h225 => ?_)
        refine S_goto dX6_look_228 149 rfl ?_
        refine Sim.sub [0] rfl ?_
        exact hF _
      · refine S_aload_n dX6_look_189 rfl 0 rfl (pc' := 190) rfl ?_
        refine S_getI fl_X6_175 rfl dX6_look_190 (pc' := 193) rfl (fun x190 => ?_)
        refine S_bipush dX6_look_193 (v := 10) rfl (pc' := 195) rfl ?_
        refine S_imul dX6_look_195 (pc' := 196) rfl ?_
        refine S_aload_n dX6_look_196 rfl 0 rfl (pc' := 197) rfl ?_
        refine S_getR fl_X6_31 rfl dX6_look_197 (pc' := 200) rfl (fun x197 => ?_)
        refine S_aload_n dX6_look_200 rfl 0 rfl (pc' := 201) rfl ?_
        refine S_getI fl_X6_169 rfl dX6_look_201 (pc' := 204) rfl (fun x201 => ?_)
        refine S_iaload dX6_look_204 (pc' := 205) rfl (fun x204 => ?_)
        refine S_iadd dX6_look_205 (pc' := 206) rfl ?_
        refine S_bipush dX6_look_206 (v := 48) rfl (pc' := 208) rfl ?_
        refine S_isub dX6_look_208 (pc' := 209) rfl ?_
        refine S_goto dX6_look_209 215 rfl ?_
        refine S_putI fl_X6_175 (by decide) rfl dX6_look_215 (pc' := 218) rfl (fun h215 => ?_)
        refine S_aload_n dX6_look_218 rfl 0 rfl (pc' := 219) rfl ?_
        refine S_dup dX6_look_219 rfl (pc' := 220) rfl ?_
        refine S_getI fl_X6_169 rfl dX6_look_220 (pc' := 223) rfl (fun x220 => ?_)
        refine S_iconst dX6_look_223 (v := 1) rfl (pc' := 224) rfl ?_
        refine S_iadd dX6_look_224 (pc' := 225) rfl ?_
        refine S_putI fl_X6_169 (by decide) rfl dX6_look_225 (pc' := 228) rfl (fun h225 => ?_)
        refine S_goto dX6_look_228 149 rfl ?_
        refine Sim.sub [0] rfl ?_
        exact hF _
theorem lq_X6_look_149 (Z : ZZ) (l : Launch) (a0 : Nat) {args : Array Value} {h0 h1 : HP} {v0 : Unit} (K : HP → Option (Unit × HP))
    (hK : ∀ (h : HP), Sim Z l cX6_look RX6 1 1 20 (none) "look" args (Mq Z args h0 h1 (none)) h0 h1 v0 264 [] [] h (K h)) :
    ∀ (k : Nat) (h : HP), Sim Z l cX6_look RX6 1 1 20 (none) "look" args (Mq Z args h0 h1 (none)) h0 h1 v0 149 [(0, .ref (zb Z + a0))] [] h (lp_X6_look_149 a0 K k h) := by
  intro k
  induction k with
  | zero => exact fun _ => Sim.none
  | succ k ih => exact lc_X6_look_149 Z l a0 K _ hK ih
set_option maxRecDepth 100000 in
set_option maxHeartbeats 4000000 in
theorem lc_X6_look_90 (Z : ZZ) (l : Launch) (a0 : Nat) {args : Array Value} {h0 h1 : HP} {v0 : Unit} (K : HP → Option (Unit × HP)) (F : HP → Option (Unit × HP))
    (hK : ∀ (h : HP), Sim Z l cX6_look RX6 1 1 20 (none) "look" args (Mq Z args h0 h1 (none)) h0 h1 v0 264 [] [] h (K h))
    (hF : ∀ (h : HP), Sim Z l cX6_look RX6 1 1 20 (none) "look" args (Mq Z args h0 h1 (none)) h0 h1 v0 90 [(0, .ref (zb Z + a0))] [] h (F h)) :
    ∀ (h : HP), Sim Z l cX6_look RX6 1 1 20 (none) "look" args (Mq Z args h0 h1 (none)) h0 h1 v0 90 [(0, .ref (zb Z + a0))] [] h (lb_X6_look_90 a0 K F h) := by
  intro h
  unfold lb_X6_look_90
  refine S_aload_n dX6_look_90 rfl 0 rfl (pc' := 91) rfl ?_
  refine S_getI fl_X6_169 rfl dX6_look_91 (pc' := 94) rfl (fun x91 => ?_)
  refine S_aload_n dX6_look_94 rfl 0 rfl (pc' := 95) rfl ?_
  refine S_getI fl_X6_166 rfl dX6_look_95 (pc' := 98) rfl (fun x95 => ?_)
  refine S_icmp_ge dX6_look_98 264 rfl (pc' := 101) rfl (fun g98 => ?_) (fun g98 => ?_)
  · refine Sim.sub [] rfl ?_
    exact hK _
  · refine S_aload_n dX6_look_101 rfl 0 rfl (pc' := 102) rfl ?_
    refine S_getR fl_X6_31 rfl dX6_look_102 (pc' := 105) rfl (fun x102 => ?_)
    refine S_aload_n dX6_look_105 rfl 0 rfl (pc' := 106) rfl ?_
    refine S_getI fl_X6_169 rfl dX6_look_106 (pc' := 109) rfl (fun x106 => ?_)
    refine S_iaload dX6_look_109 (pc' := 110) rfl (fun x109 => ?_)
    refine S_stai ml_X6_181 ms_X6_isLetter dX6_look_110 [.int x109] rfl (fun v h2 q => c_X6_isLetter Z l _ _ q) ⟨Nat.le_of_ble_eq_true rfl, Nat.le_of_ble_eq_true rfl⟩ (rest := []) (Nat.le_of_ble_eq_true rfl) rfl (pc' := 113) rfl (fun x110 h110 => ?_)
    refine S_if_eq dX6_look_113 264 rfl (pc' := 116) rfl (fun g113 => ?_) (fun g113 => ?_)
    · refine Sim.sub [] rfl ?_
      exact hK _
    · refine S_aload_n dX6_look_116 rfl 0 rfl (pc' := 117) rfl ?_
      refine S_dup dX6_look_117 rfl (pc' := 118) rfl ?_
      refine S_getI fl_X6_169 rfl dX6_look_118 (pc' := 121) rfl (fun x118 => ?_)
      refine S_iconst dX6_look_121 (v := 1) rfl (pc' := 122) rfl ?_
      refine S_iadd dX6_look_122 (pc' := 123) rfl ?_
      refine S_putI fl_X6_169 (by decide) rfl dX6_look_123 (pc' := 126) rfl (fun h123 => ?_)
      refine S_goto dX6_look_126 90 rfl ?_
      refine Sim.sub [0] rfl ?_
      exact hF _
theorem lq_X6_look_90 (Z : ZZ) (l : Launch) (a0 : Nat) {args : Array Value} {h0 h1 : HP} {v0 : Unit} (K : HP → Option (Unit × HP))
    (hK : ∀ (h : HP), Sim Z l cX6_look RX6 1 1 20 (none) "look" args (Mq Z args h0 h1 (none)) h0 h1 v0 264 [] [] h (K h)) :
    ∀ (k : Nat) (h : HP), Sim Z l cX6_look RX6 1 1 20 (none) "look" args (Mq Z args h0 h1 (none)) h0 h1 v0 90 [(0, .ref (zb Z + a0))] [] h (lp_X6_look_90 a0 K k h) := by
  intro k
  induction k with
  | zero => exact fun _ => Sim.none
  | succ k ih => exact lc_X6_look_90 Z l a0 K _ hK ih
set_option maxRecDepth 100000 in
set_option maxHeartbeats 4000000 in
theorem c_X6_look (Z : ZZ) (l : Launch) (t : Nat) (h : HP) {v : Unit} {h1 : HP} (ho : f_X6_look t h = some (v, h1)) : MetP Z l yX6_look cX6_look 1 (none) 1 20 [.ref (zb Z + t)] h (none) h1 := by
  refine MetP_of ho (by decide +kernel) (Nat.le_of_ble_eq_true rfl) [(0, .ref (zb Z + t))] rfl (own := RX6) rfl (nm := "look") rfl ?_
  unfold f_X6_look
  refine Sim.sub [0] rfl ?_
  refine lq_X6_look_0 Z l t _ ?_ 1000 _
  intro h0_
  refine S_aload_n dX6_look_38 rfl 0 rfl (pc' := 39) rfl ?_
  refine S_aload_n dX6_look_39 rfl 0 rfl (pc' := 40) rfl ?_
  refine S_getI fl_X6_169 rfl dX6_look_40 (pc' := 43) rfl (fun x40 => ?_)
  refine S_putI fl_X6_172 (by decide) rfl dX6_look_43 (pc' := 46) rfl (fun h43 => ?_)
  refine S_aload_n dX6_look_46 rfl 0 rfl (pc' := 47) rfl ?_
  refine S_iconst dX6_look_47 (v := 0) rfl (pc' := 48) rfl ?_
  refine S_putI fl_X6_175 (by decide) rfl dX6_look_48 (pc' := 51) rfl (fun h48 => ?_)
  refine S_aload_n dX6_look_51 rfl 0 rfl (pc' := 52) rfl ?_
  refine S_getI fl_X6_169 rfl dX6_look_52 (pc' := 55) rfl (fun x52 => ?_)
  refine S_aload_n dX6_look_55 rfl 0 rfl (pc' := 56) rfl ?_
  refine S_getI fl_X6_166 rfl dX6_look_56 (pc' := 59) rfl (fun x56 => ?_)
  refine S_icmp_ne dX6_look_59 70 rfl (pc' := 62) rfl (fun g59 => ?_) (fun g59 => ?_)
  · refine S_aload_n dX6_look_70 rfl 0 rfl (pc' := 71) rfl ?_
    refine S_getR fl_X6_31 rfl dX6_look_71 (pc' := 74) rfl (fun x71 => ?_)
    refine S_aload_n dX6_look_74 rfl 0 rfl (pc' := 75) rfl ?_
    refine S_getI fl_X6_169 rfl dX6_look_75 (pc' := 78) rfl (fun x75 => ?_)
    refine S_iaload dX6_look_78 (pc' := 79) rfl (fun x78 => ?_)
    refine S_stai ml_X6_181 ms_X6_isLetter dX6_look_79 [.int x78] rfl (fun v h2 q => c_X6_isLetter Z l _ _ q) ⟨Nat.le_of_ble_eq_true rfl, Nat.le_of_ble_eq_true rfl⟩ (rest := []) (Nat.le_of_ble_eq_true rfl) rfl (pc' := 82) rfl (fun x79 h79 => ?_)
    refine S_if_eq dX6_look_82 129 rfl (pc' := 85) rfl (fun g82 => ?_) (fun g82 => ?_)
    · refine S_aload_n dX6_look_129 rfl 0 rfl (pc' := 130) rfl ?_
      refine S_getR fl_X6_31 rfl dX6_look_130 (pc' := 133) rfl (fun x130 => ?_)
      refine S_aload_n dX6_look_133 rfl 0 rfl (pc' := 134) rfl ?_
      refine S_getI fl_X6_169 rfl dX6_look_134 (pc' := 137) rfl (fun x134 => ?_)
      refine S_iaload dX6_look_137 (pc' := 138) rfl (fun x137 => ?_)
      refine S_stai ml_X6_184 ms_X6_isDigit dX6_look_138 [.int x137] rfl (fun v h2 q => c_X6_isDigit Z l _ _ q) ⟨Nat.le_of_ble_eq_true rfl, Nat.le_of_ble_eq_true rfl⟩ (rest := []) (Nat.le_of_ble_eq_true rfl) rfl (pc' := 141) rfl (fun x138 h138 => ?_)
      refine S_if_eq dX6_look_141 231 rfl (pc' := 144) rfl (fun g141 => ?_) (fun g141 => ?_)
      · refine S_aload_n dX6_look_231 rfl 0 rfl (pc' := 232) rfl ?_
        refine S_aload_n dX6_look_232 rfl 0 rfl (pc' := 233) rfl ?_
        refine S_getR fl_X6_31 rfl dX6_look_233 (pc' := 236) rfl (fun x233 => ?_)
        refine S_aload_n dX6_look_236 rfl 0 rfl (pc' := 237) rfl ?_
        refine S_getI fl_X6_169 rfl dX6_look_237 (pc' := 240) rfl (fun x237 => ?_)
        refine S_iaload dX6_look_240 (pc' := 241) rfl (fun x240 => ?_)
        refine S_bipush dX6_look_241 (v := 59) rfl (pc' := 243) rfl ?_
        refine S_icmp_ne dX6_look_243 250 rfl (pc' := 246) rfl (fun g243 => ?_) (fun g243 => ?_)
        · refine S_iconst dX6_look_250 (v := 4) rfl (pc' := 251) rfl ?_
          refine S_putI fl_X6_178 (by decide) rfl dX6_look_251 (pc' := 254) rfl (fun h251 => ?_)
          refine S_aload_n dX6_look_254 rfl 0 rfl (pc' := 255) rfl ?_
          refine S_dup dX6_look_255 rfl (pc' := 256) rfl ?_
          refine S_getI fl_X6_169 rfl dX6_look_256 (pc' := 259) rfl (fun x256 => ?_)
          refine S_iconst dX6_look_259 (v := 1) rfl (pc' := 260) rfl ?_
          refine S_iadd dX6_look_260 (pc' := 261) rfl ?_
          refine S_putI fl_X6_169 (by decide) rfl dX6_look_261 (pc' := 264) rfl (fun h261 => ?_)
          exact S_vret rfl dX6_look_264
        · refine S_iconst dX6_look_246 (v := 3) rfl (pc' := 247) rfl ?_
          refine S_goto dX6_look_247 251 rfl ?_
          refine S_putI fl_X6_178 (by decide) rfl dX6_look_251 (pc' := 254) rfl (fun h251 => ?_)
          refine S_aload_n dX6_look_254 rfl 0 rfl (pc' := 255) rfl ?_
          refine S_dup dX6_look_255 rfl (pc' := 256) rfl ?_
          refine S_getI fl_X6_169 rfl dX6_look_256 (pc' := 259) rfl (fun x256 => ?_)
          refine S_iconst dX6_look_259 (v := 1) rfl (pc' := 260) rfl ?_
          refine S_iadd dX6_look_260 (pc' := 261) rfl ?_
          refine S_putI fl_X6_169 (by decide) rfl dX6_look_261 (pc' := 264) rfl (fun h261 => ?_)
          exact S_vret rfl dX6_look_264
      · refine S_aload_n dX6_look_144 rfl 0 rfl (pc' := 145) rfl ?_
        refine S_iconst dX6_look_145 (v := 2) rfl (pc' := 146) rfl ?_
        refine S_putI fl_X6_178 (by decide) rfl dX6_look_146 (pc' := 149) rfl (fun h146 => ?_)
        refine Sim.sub [0] rfl ?_
        refine lq_X6_look_149 Z l t _ ?_ 1000 _
        intro h149_
        exact S_vret rfl dX6_look_264
    · refine S_aload_n dX6_look_85 rfl 0 rfl (pc' := 86) rfl ?_
      refine S_iconst dX6_look_86 (v := 1) rfl (pc' := 87) rfl ?_
      refine S_putI fl_X6_178 (by decide) rfl dX6_look_87 (pc' := 90) rfl (fun h87 => ?_)
      refine Sim.sub [0] rfl ?_
      refine lq_X6_look_90 Z l t _ ?_ 1000 _
      intro h90_
      exact S_vret rfl dX6_look_264
  · refine S_aload_n dX6_look_62 rfl 0 rfl (pc' := 63) rfl ?_
    refine S_iconst dX6_look_63 (v := 0) rfl (pc' := 64) rfl ?_
    refine S_putI fl_X6_178 (by decide) rfl dX6_look_64 (pc' := 67) rfl (fun h64 => ?_)
    refine S_goto dX6_look_67 264 rfl ?_
    exact S_vret rfl dX6_look_264
theorem dX6_wrong_0 : decode cX6_wrong 0 = .ok (.aload_n 0, 1) := by decide +kernel
theorem dX6_wrong_1 : decode cX6_wrong 1 = .ok (.aload_n 0, 1) := by decide +kernel
theorem dX6_wrong_2 : decode cX6_wrong 2 = .ok (.getfield 172, 3) := by decide +kernel
theorem dX6_wrong_5 : decode cX6_wrong 5 = .ok (.putfield 187, 3) := by decide +kernel
theorem dX6_wrong_8 : decode cX6_wrong 8 = .ok (.iconst 0, 1) := by decide +kernel
theorem dX6_wrong_9 : decode cX6_wrong 9 = .ok (.ireturn, 1) := by decide +kernel
set_option maxRecDepth 100000 in
set_option maxHeartbeats 4000000 in
theorem c_X6_wrong (Z : ZZ) (l : Launch) (t : Nat) (h : HP) {v : Int32} {h1 : HP} (ho : f_X6_wrong t h = some (v, h1)) : MetP Z l yX6_wrong cX6_wrong 1 (some .boolean) 0 0 [.ref (zb Z + t)] h (some (.int v)) h1 := by
  refine MetP_of ho (by decide +kernel) (Nat.le_of_ble_eq_true rfl) [(0, .ref (zb Z + t))] rfl (own := RX6) rfl (nm := "wrong") rfl ?_
  unfold f_X6_wrong
  refine S_aload_n dX6_wrong_0 rfl 0 rfl (pc' := 1) rfl ?_
  refine S_aload_n dX6_wrong_1 rfl 0 rfl (pc' := 2) rfl ?_
  refine S_getI fl_X6_172 rfl dX6_wrong_2 (pc' := 5) rfl (fun x2 => ?_)
  refine S_putI fl_X6_187 (by decide) rfl dX6_wrong_5 (pc' := 8) rfl (fun h5 => ?_)
  refine S_iconst dX6_wrong_8 (v := 0) rfl (pc' := 9) rfl ?_
  exact S_zret rfl dX6_wrong_9
theorem dX6_isWord_0 : decode cX6_isWord 0 = .ok (.aload_n 0, 1) := by decide +kernel
theorem dX6_isWord_1 : decode cX6_isWord 1 = .ok (.getfield 178, 3) := by decide +kernel
theorem dX6_isWord_4 : decode cX6_isWord 4 = .ok (.iconst 1, 1) := by decide +kernel
theorem dX6_isWord_5 : decode cX6_isWord 5 = .ok (.if_icmp .ne 19, 3) := by decide +kernel
theorem dX6_isWord_8 : decode cX6_isWord 8 = .ok (.aload_n 0, 1) := by decide +kernel
theorem dX6_isWord_9 : decode cX6_isWord 9 = .ok (.getfield 169, 3) := by decide +kernel
theorem dX6_isWord_12 : decode cX6_isWord 12 = .ok (.aload_n 0, 1) := by decide +kernel
theorem dX6_isWord_13 : decode cX6_isWord 13 = .ok (.getfield 172, 3) := by decide +kernel
theorem dX6_isWord_16 : decode cX6_isWord 16 = .ok (.isub, 1) := by decide +kernel
theorem dX6_isWord_17 : decode cX6_isWord 17 = .ok (.aload_n 1, 1) := by decide +kernel
theorem dX6_isWord_18 : decode cX6_isWord 18 = .ok (.invokevirtual 190, 3) := by decide +kernel
theorem dX6_isWord_21 : decode cX6_isWord 21 = .ok (.if_icmp .eq 5, 3) := by decide +kernel
theorem dX6_isWord_24 : decode cX6_isWord 24 = .ok (.iconst 0, 1) := by decide +kernel
theorem dX6_isWord_25 : decode cX6_isWord 25 = .ok (.ireturn, 1) := by decide +kernel
theorem dX6_isWord_26 : decode cX6_isWord 26 = .ok (.iconst 0, 1) := by decide +kernel
theorem dX6_isWord_27 : decode cX6_isWord 27 = .ok (.istore_n 2, 1) := by decide +kernel
theorem dX6_isWord_28 : decode cX6_isWord 28 = .ok (.iload_n 2, 1) := by decide +kernel
theorem dX6_isWord_29 : decode cX6_isWord 29 = .ok (.aload_n 1, 1) := by decide +kernel
theorem dX6_isWord_30 : decode cX6_isWord 30 = .ok (.invokevirtual 190, 3) := by decide +kernel
theorem dX6_isWord_33 : decode cX6_isWord 33 = .ok (.if_icmp .ge 30, 3) := by decide +kernel
theorem dX6_isWord_36 : decode cX6_isWord 36 = .ok (.aload_n 0, 1) := by decide +kernel
theorem dX6_isWord_37 : decode cX6_isWord 37 = .ok (.getfield 31, 3) := by decide +kernel
theorem dX6_isWord_40 : decode cX6_isWord 40 = .ok (.aload_n 0, 1) := by decide +kernel
theorem dX6_isWord_41 : decode cX6_isWord 41 = .ok (.getfield 172, 3) := by decide +kernel
theorem dX6_isWord_44 : decode cX6_isWord 44 = .ok (.iload_n 2, 1) := by decide +kernel
theorem dX6_isWord_45 : decode cX6_isWord 45 = .ok (.iadd, 1) := by decide +kernel
theorem dX6_isWord_46 : decode cX6_isWord 46 = .ok (.iaload, 1) := by decide +kernel
theorem dX6_isWord_47 : decode cX6_isWord 47 = .ok (.aload_n 1, 1) := by decide +kernel
theorem dX6_isWord_48 : decode cX6_isWord 48 = .ok (.iload_n 2, 1) := by decide +kernel
theorem dX6_isWord_49 : decode cX6_isWord 49 = .ok (.invokevirtual 196, 3) := by decide +kernel
theorem dX6_isWord_52 : decode cX6_isWord 52 = .ok (.if_icmp .eq 5, 3) := by decide +kernel
theorem dX6_isWord_55 : decode cX6_isWord 55 = .ok (.iconst 0, 1) := by decide +kernel
theorem dX6_isWord_56 : decode cX6_isWord 56 = .ok (.ireturn, 1) := by decide +kernel
theorem dX6_isWord_57 : decode cX6_isWord 57 = .ok (.iinc 2 1, 3) := by decide +kernel
theorem dX6_isWord_60 : decode cX6_isWord 60 = .ok (.goto (-32), 3) := by decide +kernel
theorem dX6_isWord_63 : decode cX6_isWord 63 = .ok (.iconst 1, 1) := by decide +kernel
theorem dX6_isWord_64 : decode cX6_isWord 64 = .ok (.ireturn, 1) := by decide +kernel
set_option maxRecDepth 100000 in
set_option maxHeartbeats 4000000 in
theorem lc_X6_isWord_28 (Z : ZZ) (l : Launch) (a0 : Nat) (a1 : Nat) {args : Array Value} {h0 h1 : HP} {v0 : Int32} (K : HP → Option (Int32 × HP)) (F : Int32 → HP → Option (Int32 × HP))
    (hK : ∀ (h : HP), Sim Z l cX6_isWord RX6 3 5 141 (some .boolean) "isWord" args (Mq Z args h0 h1 (some (.int v0))) h0 h1 v0 63 [] [] h (K h))
    (hF : ∀ (b2 : Int32) (h : HP), Sim Z l cX6_isWord RX6 3 5 141 (some .boolean) "isWord" args (Mq Z args h0 h1 (some (.int v0))) h0 h1 v0 28 [(0, .ref (zb Z + a0)), (1, .ref (zK Z a1)), (2, .int b2)] [] h (F b2 h)) :
    ∀ (b2 : Int32) (h : HP), Sim Z l cX6_isWord RX6 3 5 141 (some .boolean) "isWord" args (Mq Z args h0 h1 (some (.int v0))) h0 h1 v0 28 [(0, .ref (zb Z + a0)), (1, .ref (zK Z a1)), (2, .int b2)] [] h (lb_X6_isWord_28 a0 a1 K F b2 h) := by
  intro b2 h
  unfold lb_X6_isWord_28
  refine S_iload_n dX6_isWord_28 rfl 2 rfl (pc' := 29) rfl ?_
  refine S_aload_n dX6_isWord_29 rfl 1 rfl (pc' := 30) rfl ?_
  refine S_strlen ml_X6_190 mi_J0_length_8abf5 dX6_isWord_30 ⟨Nat.le_of_ble_eq_true rfl, Nat.le_of_ble_eq_true rfl⟩ (Nat.le_of_ble_eq_true rfl) (pc' := 33) rfl (fun x30 => ?_)
  refine S_icmp_ge dX6_isWord_33 63 rfl (pc' := 36) rfl (fun g33 => ?_) (fun g33 => ?_)
  · refine Sim.sub [] rfl ?_
    exact hK _
  · refine S_aload_n dX6_isWord_36 rfl 0 rfl (pc' := 37) rfl ?_
    refine S_getR fl_X6_31 rfl dX6_isWord_37 (pc' := 40) rfl (fun x37 => ?_)
    refine S_aload_n dX6_isWord_40 rfl 0 rfl (pc' := 41) rfl ?_
    refine S_getI fl_X6_172 rfl dX6_isWord_41 (pc' := 44) rfl (fun x41 => ?_)
    refine S_iload_n dX6_isWord_44 rfl 2 rfl (pc' := 45) rfl ?_
    refine S_iadd dX6_isWord_45 (pc' := 46) rfl ?_
    refine S_iaload dX6_isWord_46 (pc' := 47) rfl (fun x46 => ?_)
    refine S_aload_n dX6_isWord_47 rfl 1 rfl (pc' := 48) rfl ?_
    refine S_iload_n dX6_isWord_48 rfl 2 rfl (pc' := 49) rfl ?_
    refine S_strat ml_X6_196 mi_J0_charAt_5068e dX6_isWord_49 ⟨Nat.le_of_ble_eq_true rfl, Nat.le_of_ble_eq_true rfl⟩ (Nat.le_of_ble_eq_true rfl) (pc' := 52) rfl (fun x49 => ?_)
    refine S_icmp_eq dX6_isWord_52 57 rfl (pc' := 55) rfl (fun g52 => ?_) (fun g52 => ?_)
    · refine S_iinc dX6_isWord_57 (q := 2) rfl (v := b2 + 1) rfl (by decide) (lo' := [(2, .int (b2 + 1)), (0, .ref (zb Z + a0)), (1, .ref (zK Z a1))]) rfl (pc' := 60) rfl ?_
      refine S_goto dX6_isWord_60 28 rfl ?_
      refine Sim.sub [1, 2, 0] rfl ?_
      exact hF _ _
    · refine S_iconst dX6_isWord_55 (v := 0) rfl (pc' := 56) rfl ?_
      exact S_zret rfl dX6_isWord_56
theorem lq_X6_isWord_28 (Z : ZZ) (l : Launch) (a0 : Nat) (a1 : Nat) {args : Array Value} {h0 h1 : HP} {v0 : Int32} (K : HP → Option (Int32 × HP))
    (hK : ∀ (h : HP), Sim Z l cX6_isWord RX6 3 5 141 (some .boolean) "isWord" args (Mq Z args h0 h1 (some (.int v0))) h0 h1 v0 63 [] [] h (K h)) :
    ∀ (k : Nat) (b2 : Int32) (h : HP), Sim Z l cX6_isWord RX6 3 5 141 (some .boolean) "isWord" args (Mq Z args h0 h1 (some (.int v0))) h0 h1 v0 28 [(0, .ref (zb Z + a0)), (1, .ref (zK Z a1)), (2, .int b2)] [] h (lp_X6_isWord_28 a0 a1 K k b2 h) := by
  intro k
  induction k with
  | zero => exact fun _ _ => Sim.none
  | succ k ih => exact lc_X6_isWord_28 Z l a0 a1 K _ hK ih
set_option maxRecDepth 100000 in
set_option maxHeartbeats 4000000 in
theorem c_X6_isWord (Z : ZZ) (l : Launch) (t : Nat) (a1 : Nat) (h : HP) {v : Int32} {h1 : HP} (ho : f_X6_isWord t a1 h = some (v, h1)) : MetP Z l yX6_isWord cX6_isWord 3 (some .boolean) 5 141 [.ref (zb Z + t), .ref (zK Z a1)] h (some (.int v)) h1 := by
  refine MetP_of ho (by decide +kernel) (Nat.le_of_ble_eq_true rfl) [(0, .ref (zb Z + t)), (1, .ref (zK Z a1))] rfl (own := RX6) rfl (nm := "isWord") rfl ?_
  unfold f_X6_isWord
  refine S_aload_n dX6_isWord_0 rfl 0 rfl (pc' := 1) rfl ?_
  refine S_getI fl_X6_178 rfl dX6_isWord_1 (pc' := 4) rfl (fun x1 => ?_)
  refine S_iconst dX6_isWord_4 (v := 1) rfl (pc' := 5) rfl ?_
  refine S_icmp_ne dX6_isWord_5 24 rfl (pc' := 8) rfl (fun g5 => ?_) (fun g5 => ?_)
  · refine S_iconst dX6_isWord_24 (v := 0) rfl (pc' := 25) rfl ?_
    exact S_zret rfl dX6_isWord_25
  · refine S_aload_n dX6_isWord_8 rfl 0 rfl (pc' := 9) rfl ?_
    refine S_getI fl_X6_169 rfl dX6_isWord_9 (pc' := 12) rfl (fun x9 => ?_)
    refine S_aload_n dX6_isWord_12 rfl 0 rfl (pc' := 13) rfl ?_
    refine S_getI fl_X6_172 rfl dX6_isWord_13 (pc' := 16) rfl (fun x13 => ?_)
    refine S_isub dX6_isWord_16 (pc' := 17) rfl ?_
    refine S_aload_n dX6_isWord_17 rfl 1 rfl (pc' := 18) rfl ?_
    refine S_strlen ml_X6_190 mi_J0_length_8abf5 dX6_isWord_18 ⟨Nat.le_of_ble_eq_true rfl, Nat.le_of_ble_eq_true rfl⟩ (Nat.le_of_ble_eq_true rfl) (pc' := 21) rfl (fun x18 => ?_)
    refine S_icmp_eq dX6_isWord_21 26 rfl (pc' := 24) rfl (fun g21 => ?_) (fun g21 => ?_)
    · refine S_iconst dX6_isWord_26 (v := 0) rfl (pc' := 27) rfl ?_
      refine S_istore_n dX6_isWord_27 rfl (by decide) (lo' := [(2, .int 0), (0, .ref (zb Z + t)), (1, .ref (zK Z a1))]) rfl (pc' := 28) rfl ?_
      refine Sim.sub [1, 2, 0] rfl ?_
      refine lq_X6_isWord_28 Z l t a1 _ ?_ 1000 _ _
      intro h28_
      refine S_iconst dX6_isWord_63 (v := 1) rfl (pc' := 64) rfl ?_
      exact S_zret rfl dX6_isWord_64
    · refine S_iconst dX6_isWord_24 (v := 0) rfl (pc' := 25) rfl ?_
      exact S_zret rfl dX6_isWord_25
theorem dX6_number_0 : decode cX6_number 0 = .ok (.aload_n 0, 1) := by decide +kernel
theorem dX6_number_1 : decode cX6_number 1 = .ok (.getfield 178, 3) := by decide +kernel
theorem dX6_number_4 : decode cX6_number 4 = .ok (.iconst 2, 1) := by decide +kernel
theorem dX6_number_5 : decode cX6_number 5 = .ok (.if_icmp .ne 18, 3) := by decide +kernel
theorem dX6_number_8 : decode cX6_number 8 = .ok (.aload_n 0, 1) := by decide +kernel
theorem dX6_number_9 : decode cX6_number 9 = .ok (.getfield 175, 3) := by decide +kernel
theorem dX6_number_12 : decode cX6_number 12 = .ok (.i2l, 1) := by decide +kernel
theorem dX6_number_13 : decode cX6_number 13 = .ok (.iload_n 2, 1) := by decide +kernel
theorem dX6_number_14 : decode cX6_number 14 = .ok (.i2l, 1) := by decide +kernel
theorem dX6_number_15 : decode cX6_number 15 = .ok (.iload_n 3, 1) := by decide +kernel
theorem dX6_number_16 : decode cX6_number 16 = .ok (.i2l, 1) := by decide +kernel
theorem dX6_number_17 : decode cX6_number 17 = .ok (.invokestatic 95, 3) := by decide +kernel
theorem dX6_number_20 : decode cX6_number 20 = .ok (.ifCond .ne 8, 3) := by decide +kernel
theorem dX6_number_23 : decode cX6_number 23 = .ok (.aload_n 0, 1) := by decide +kernel
theorem dX6_number_24 : decode cX6_number 24 = .ok (.invokevirtual 200, 3) := by decide +kernel
theorem dX6_number_27 : decode cX6_number 27 = .ok (.ireturn, 1) := by decide +kernel
theorem dX6_number_28 : decode cX6_number 28 = .ok (.aload_n 0, 1) := by decide +kernel
theorem dX6_number_29 : decode cX6_number 29 = .ok (.getfield 74, 3) := by decide +kernel
theorem dX6_number_32 : decode cX6_number 32 = .ok (.iload_n 1, 1) := by decide +kernel
theorem dX6_number_33 : decode cX6_number 33 = .ok (.aload_n 0, 1) := by decide +kernel
theorem dX6_number_34 : decode cX6_number 34 = .ok (.getfield 175, 3) := by decide +kernel
theorem dX6_number_37 : decode cX6_number 37 = .ok (.iastore, 1) := by decide +kernel
theorem dX6_number_38 : decode cX6_number 38 = .ok (.aload_n 0, 1) := by decide +kernel
theorem dX6_number_39 : decode cX6_number 39 = .ok (.invokevirtual 204, 3) := by decide +kernel
theorem dX6_number_42 : decode cX6_number 42 = .ok (.iconst 1, 1) := by decide +kernel
theorem dX6_number_43 : decode cX6_number 43 = .ok (.ireturn, 1) := by decide +kernel
set_option maxRecDepth 100000 in
set_option maxHeartbeats 4000000 in
theorem c_X6_number (Z : ZZ) (l : Launch) (t : Nat) (a1 : Int32) (a2 : Int32) (a3 : Int32) (h : HP) {v : Int32} {h1 : HP} (ho : f_X6_number t a1 a2 a3 h = some (v, h1)) : MetP Z l yX6_number cX6_number 4 (some .boolean) 2 40 [.ref (zb Z + t), .int a1, .int a2, .int a3] h (some (.int v)) h1 := by
  refine MetP_of ho (by decide +kernel) (Nat.le_of_ble_eq_true rfl) [(0, .ref (zb Z + t)), (1, .int a1), (2, .int a2), (3, .int a3)] rfl (own := RX6) rfl (nm := "number") rfl ?_
  unfold f_X6_number
  refine S_aload_n dX6_number_0 rfl 0 rfl (pc' := 1) rfl ?_
  refine S_getI fl_X6_178 rfl dX6_number_1 (pc' := 4) rfl (fun x1 => ?_)
  refine S_iconst dX6_number_4 (v := 2) rfl (pc' := 5) rfl ?_
  refine S_icmp_ne dX6_number_5 23 rfl (pc' := 8) rfl (fun g5 => ?_) (fun g5 => ?_)
  · refine S_aload_n dX6_number_23 rfl 0 rfl (pc' := 24) rfl ?_
    refine S_invi ml_X6_200 mi_X6_wrong (ci := 6) ⟨_, rfl, rfl⟩ (by decide) dX6_number_24 [] rfl (fun v h2 q => c_X6_wrong Z l _ _ q) ⟨Nat.le_of_ble_eq_true rfl, Nat.le_of_ble_eq_true rfl⟩ (rest := []) (Nat.le_of_ble_eq_true rfl) rfl (pc' := 27) rfl (fun x24 h24 => ?_)
    exact S_zret rfl dX6_number_27
  · refine S_aload_n dX6_number_8 rfl 0 rfl (pc' := 9) rfl ?_
    refine S_getI fl_X6_175 rfl dX6_number_9 (pc' := 12) rfl (fun x9 => ?_)
    refine S_i2l dX6_number_12 (pc' := 13) rfl ?_
    refine S_iload_n dX6_number_13 rfl 2 rfl (pc' := 14) rfl ?_
    refine S_i2l dX6_number_14 (pc' := 15) rfl ?_
    refine S_iload_n dX6_number_15 rfl 3 rfl (pc' := 16) rfl ?_
    refine S_i2l dX6_number_16 (pc' := 17) rfl ?_
    refine S_stai ml_X6_95 ms_X6_in dX6_number_17 [.long x9.toInt64, .long a2.toInt64, .long a3.toInt64] rfl (fun v h2 q => c_X6_in Z l _ _ _ _ q) ⟨Nat.le_of_ble_eq_true rfl, Nat.le_of_ble_eq_true rfl⟩ (rest := []) (Nat.le_of_ble_eq_true rfl) rfl (pc' := 20) rfl (fun x17 h17 => ?_)
    refine S_if_ne dX6_number_20 28 rfl (pc' := 23) rfl (fun g20 => ?_) (fun g20 => ?_)
    · refine S_aload_n dX6_number_28 rfl 0 rfl (pc' := 29) rfl ?_
      refine S_getR fl_X6_74 rfl dX6_number_29 (pc' := 32) rfl (fun x29 => ?_)
      refine S_iload_n dX6_number_32 rfl 1 rfl (pc' := 33) rfl ?_
      refine S_aload_n dX6_number_33 rfl 0 rfl (pc' := 34) rfl ?_
      refine S_getI fl_X6_175 rfl dX6_number_34 (pc' := 37) rfl (fun x34 => ?_)
      refine S_iastore dX6_number_37 (pc' := 38) rfl (fun h37 => ?_)
      refine S_aload_n dX6_number_38 rfl 0 rfl (pc' := 39) rfl ?_
      refine S_invv ml_X6_204 mi_X6_look (ci := 6) ⟨_, rfl, rfl⟩ (by decide) dX6_number_39 [] rfl (fun v h2 q => c_X6_look Z l _ _ q) ⟨Nat.le_of_ble_eq_true rfl, Nat.le_of_ble_eq_true rfl⟩ (rest := []) (Nat.le_of_ble_eq_true rfl) rfl (pc' := 42) rfl (fun _ h39 => ?_)
      refine S_iconst dX6_number_42 (v := 1) rfl (pc' := 43) rfl ?_
      exact S_zret rfl dX6_number_43
    · refine S_aload_n dX6_number_23 rfl 0 rfl (pc' := 24) rfl ?_
      refine S_invi ml_X6_200 mi_X6_wrong (ci := 6) ⟨_, rfl, rfl⟩ (by decide) dX6_number_24 [] rfl (fun v h2 q => c_X6_wrong Z l _ _ q) ⟨Nat.le_of_ble_eq_true rfl, Nat.le_of_ble_eq_true rfl⟩ (rest := []) (Nat.le_of_ble_eq_true rfl) rfl (pc' := 27) rfl (fun x24 h24 => ?_)
      exact S_zret rfl dX6_number_27
theorem dX6_tells_0 : decode cX6_tells 0 = .ok (.aload_n 0, 1) := by decide +kernel
theorem dX6_tells_1 : decode cX6_tells 1 = .ok (.invokevirtual 204, 3) := by decide +kernel
theorem dX6_tells_4 : decode cX6_tells 4 = .ok (.aload_n 0, 1) := by decide +kernel
theorem dX6_tells_5 : decode cX6_tells 5 = .ok (.iconst 0, 1) := by decide +kernel
theorem dX6_tells_6 : decode cX6_tells 6 = .ok (.iload_n 1, 1) := by decide +kernel
theorem dX6_tells_7 : decode cX6_tells 7 = .ok (.iload_n 2, 1) := by decide +kernel
theorem dX6_tells_8 : decode cX6_tells 8 = .ok (.invokevirtual 207, 3) := by decide +kernel
theorem dX6_tells_11 : decode cX6_tells 11 = .ok (.ireturn, 1) := by decide +kernel
set_option maxRecDepth 100000 in
set_option maxHeartbeats 4000000 in
theorem c_X6_tells (Z : ZZ) (l : Launch) (t : Nat) (a1 : Int32) (a2 : Int32) (h : HP) {v : Int32} {h1 : HP} (ho : f_X6_tells t a1 a2 h = some (v, h1)) : MetP Z l yX6_tells cX6_tells 3 (some .boolean) 3 63 [.ref (zb Z + t), .int a1, .int a2] h (some (.int v)) h1 := by
  refine MetP_of ho (by decide +kernel) (Nat.le_of_ble_eq_true rfl) [(0, .ref (zb Z + t)), (1, .int a1), (2, .int a2)] rfl (own := RX6) rfl (nm := "tells") rfl ?_
  unfold f_X6_tells
  refine S_aload_n dX6_tells_0 rfl 0 rfl (pc' := 1) rfl ?_
  refine S_invv ml_X6_204 mi_X6_look (ci := 6) ⟨_, rfl, rfl⟩ (by decide) dX6_tells_1 [] rfl (fun v h2 q => c_X6_look Z l _ _ q) ⟨Nat.le_of_ble_eq_true rfl, Nat.le_of_ble_eq_true rfl⟩ (rest := []) (Nat.le_of_ble_eq_true rfl) rfl (pc' := 4) rfl (fun _ h1 => ?_)
  refine S_aload_n dX6_tells_4 rfl 0 rfl (pc' := 5) rfl ?_
  refine S_iconst dX6_tells_5 (v := 0) rfl (pc' := 6) rfl ?_
  refine S_iload_n dX6_tells_6 rfl 1 rfl (pc' := 7) rfl ?_
  refine S_iload_n dX6_tells_7 rfl 2 rfl (pc' := 8) rfl ?_
  refine S_invi ml_X6_207 mi_X6_number (ci := 6) ⟨_, rfl, rfl⟩ (by decide) dX6_tells_8 [.int 0, .int a1, .int a2] rfl (fun v h2 q => c_X6_number Z l _ _ _ _ _ q) ⟨Nat.le_of_ble_eq_true rfl, Nat.le_of_ble_eq_true rfl⟩ (rest := []) (Nat.le_of_ble_eq_true rfl) rfl (pc' := 11) rfl (fun x8 h8 => ?_)
  exact S_zret rfl dX6_tells_11
theorem dX6_tellsNew_0 : decode cX6_tellsNew 0 = .ok (.aload_n 0, 1) := by decide +kernel
theorem dX6_tellsNew_1 : decode cX6_tellsNew 1 = .ok (.iconst 0, 1) := by decide +kernel
theorem dX6_tellsNew_2 : decode cX6_tellsNew 2 = .ok (.iload_n 1, 1) := by decide +kernel
theorem dX6_tellsNew_3 : decode cX6_tellsNew 3 = .ok (.ifCond .eq 7, 3) := by decide +kernel
theorem dX6_tellsNew_6 : decode cX6_tellsNew 6 = .ok (.iconst 5, 1) := by decide +kernel
theorem dX6_tellsNew_7 : decode cX6_tellsNew 7 = .ok (.goto 5, 3) := by decide +kernel
theorem dX6_tellsNew_10 : decode cX6_tellsNew 10 = .ok (.bipush 9, 2) := by decide +kernel
theorem dX6_tellsNew_12 : decode cX6_tellsNew 12 = .ok (.invokevirtual 211, 3) := by decide +kernel
theorem dX6_tellsNew_15 : decode cX6_tellsNew 15 = .ok (.ifCond .eq 26, 3) := by decide +kernel
theorem dX6_tellsNew_18 : decode cX6_tellsNew 18 = .ok (.aload_n 0, 1) := by decide +kernel
theorem dX6_tellsNew_19 : decode cX6_tellsNew 19 = .ok (.iconst 1, 1) := by decide +kernel
theorem dX6_tellsNew_20 : decode cX6_tellsNew 20 = .ok (.iconst 0, 1) := by decide +kernel
theorem dX6_tellsNew_21 : decode cX6_tellsNew 21 = .ok (.iload_n 1, 1) := by decide +kernel
theorem dX6_tellsNew_22 : decode cX6_tellsNew 22 = .ok (.ifCond .eq 8, 3) := by decide +kernel
theorem dX6_tellsNew_25 : decode cX6_tellsNew 25 = .ok (.bipush 9, 2) := by decide +kernel
theorem dX6_tellsNew_27 : decode cX6_tellsNew 27 = .ok (.goto 4, 3) := by decide +kernel
theorem dX6_tellsNew_30 : decode cX6_tellsNew 30 = .ok (.iconst 4, 1) := by decide +kernel
theorem dX6_tellsNew_31 : decode cX6_tellsNew 31 = .ok (.invokevirtual 207, 3) := by decide +kernel
theorem dX6_tellsNew_34 : decode cX6_tellsNew 34 = .ok (.ifCond .eq 7, 3) := by decide +kernel
theorem dX6_tellsNew_37 : decode cX6_tellsNew 37 = .ok (.iconst 1, 1) := by decide +kernel
theorem dX6_tellsNew_38 : decode cX6_tellsNew 38 = .ok (.goto 4, 3) := by decide +kernel
theorem dX6_tellsNew_41 : decode cX6_tellsNew 41 = .ok (.iconst 0, 1) := by decide +kernel
theorem dX6_tellsNew_42 : decode cX6_tellsNew 42 = .ok (.istore_n 2, 1) := by decide +kernel
theorem dX6_tellsNew_43 : decode cX6_tellsNew 43 = .ok (.iload_n 2, 1) := by decide +kernel
theorem dX6_tellsNew_44 : decode cX6_tellsNew 44 = .ok (.ifCond .eq 35, 3) := by decide +kernel
theorem dX6_tellsNew_47 : decode cX6_tellsNew 47 = .ok (.iload_n 1, 1) := by decide +kernel
theorem dX6_tellsNew_48 : decode cX6_tellsNew 48 = .ok (.ifCond .eq 31, 3) := by decide +kernel
theorem dX6_tellsNew_51 : decode cX6_tellsNew 51 = .ok (.aload_n 0, 1) := by decide +kernel
theorem dX6_tellsNew_52 : decode cX6_tellsNew 52 = .ok (.iconst 2, 1) := by decide +kernel
theorem dX6_tellsNew_53 : decode cX6_tellsNew 53 = .ok (.iconst 0, 1) := by decide +kernel
theorem dX6_tellsNew_54 : decode cX6_tellsNew 54 = .ok (.bipush 9, 2) := by decide +kernel
theorem dX6_tellsNew_56 : decode cX6_tellsNew 56 = .ok (.invokevirtual 207, 3) := by decide +kernel
theorem dX6_tellsNew_59 : decode cX6_tellsNew 59 = .ok (.ifCond .eq 18, 3) := by decide +kernel
theorem dX6_tellsNew_62 : decode cX6_tellsNew 62 = .ok (.aload_n 0, 1) := by decide +kernel
theorem dX6_tellsNew_63 : decode cX6_tellsNew 63 = .ok (.iconst 3, 1) := by decide +kernel
theorem dX6_tellsNew_64 : decode cX6_tellsNew 64 = .ok (.iconst 0, 1) := by decide +kernel
theorem dX6_tellsNew_65 : decode cX6_tellsNew 65 = .ok (.bipush 9, 2) := by decide +kernel
theorem dX6_tellsNew_67 : decode cX6_tellsNew 67 = .ok (.invokevirtual 207, 3) := by decide +kernel
theorem dX6_tellsNew_70 : decode cX6_tellsNew 70 = .ok (.ifCond .eq 7, 3) := by decide +kernel
theorem dX6_tellsNew_73 : decode cX6_tellsNew 73 = .ok (.iconst 1, 1) := by decide +kernel
theorem dX6_tellsNew_74 : decode cX6_tellsNew 74 = .ok (.goto 4, 3) := by decide +kernel
theorem dX6_tellsNew_77 : decode cX6_tellsNew 77 = .ok (.iconst 0, 1) := by decide +kernel
theorem dX6_tellsNew_78 : decode cX6_tellsNew 78 = .ok (.istore_n 2, 1) := by decide +kernel
theorem dX6_tellsNew_79 : decode cX6_tellsNew 79 = .ok (.iload_n 2, 1) := by decide +kernel
theorem dX6_tellsNew_80 : decode cX6_tellsNew 80 = .ok (.ifCond .eq 38, 3) := by decide +kernel
theorem dX6_tellsNew_83 : decode cX6_tellsNew 83 = .ok (.iload_n 1, 1) := by decide +kernel
theorem dX6_tellsNew_84 : decode cX6_tellsNew 84 = .ok (.ifCond .eq 34, 3) := by decide +kernel
theorem dX6_tellsNew_87 : decode cX6_tellsNew 87 = .ok (.aload_n 0, 1) := by decide +kernel
theorem dX6_tellsNew_88 : decode cX6_tellsNew 88 = .ok (.aload_n 0, 1) := by decide +kernel
theorem dX6_tellsNew_89 : decode cX6_tellsNew 89 = .ok (.getfield 74, 3) := by decide +kernel
theorem dX6_tellsNew_92 : decode cX6_tellsNew 92 = .ok (.iconst 0, 1) := by decide +kernel
theorem dX6_tellsNew_93 : decode cX6_tellsNew 93 = .ok (.iaload, 1) := by decide +kernel
theorem dX6_tellsNew_94 : decode cX6_tellsNew 94 = .ok (.aload_n 0, 1) := by decide +kernel
theorem dX6_tellsNew_95 : decode cX6_tellsNew 95 = .ok (.getfield 74, 3) := by decide +kernel
theorem dX6_tellsNew_98 : decode cX6_tellsNew 98 = .ok (.iconst 1, 1) := by decide +kernel
theorem dX6_tellsNew_99 : decode cX6_tellsNew 99 = .ok (.iaload, 1) := by decide +kernel
theorem dX6_tellsNew_100 : decode cX6_tellsNew 100 = .ok (.aload_n 0, 1) := by decide +kernel
theorem dX6_tellsNew_101 : decode cX6_tellsNew 101 = .ok (.getfield 74, 3) := by decide +kernel
theorem dX6_tellsNew_104 : decode cX6_tellsNew 104 = .ok (.iconst 2, 1) := by decide +kernel
theorem dX6_tellsNew_105 : decode cX6_tellsNew 105 = .ok (.iaload, 1) := by decide +kernel
theorem dX6_tellsNew_106 : decode cX6_tellsNew 106 = .ok (.aload_n 0, 1) := by decide +kernel
theorem dX6_tellsNew_107 : decode cX6_tellsNew 107 = .ok (.getfield 74, 3) := by decide +kernel
theorem dX6_tellsNew_110 : decode cX6_tellsNew 110 = .ok (.iconst 3, 1) := by decide +kernel
theorem dX6_tellsNew_111 : decode cX6_tellsNew 111 = .ok (.iaload, 1) := by decide +kernel
theorem dX6_tellsNew_112 : decode cX6_tellsNew 112 = .ok (.invokevirtual 138, 3) := by decide +kernel
theorem dX6_tellsNew_115 : decode cX6_tellsNew 115 = .ok (.goto 23, 3) := by decide +kernel
theorem dX6_tellsNew_118 : decode cX6_tellsNew 118 = .ok (.iload_n 2, 1) := by decide +kernel
theorem dX6_tellsNew_119 : decode cX6_tellsNew 119 = .ok (.ifCond .eq 19, 3) := by decide +kernel
theorem dX6_tellsNew_122 : decode cX6_tellsNew 122 = .ok (.aload_n 0, 1) := by decide +kernel
theorem dX6_tellsNew_123 : decode cX6_tellsNew 123 = .ok (.aload_n 0, 1) := by decide +kernel
theorem dX6_tellsNew_124 : decode cX6_tellsNew 124 = .ok (.getfield 74, 3) := by decide +kernel
theorem dX6_tellsNew_127 : decode cX6_tellsNew 127 = .ok (.iconst 0, 1) := by decide +kernel
theorem dX6_tellsNew_128 : decode cX6_tellsNew 128 = .ok (.iaload, 1) := by decide +kernel
theorem dX6_tellsNew_129 : decode cX6_tellsNew 129 = .ok (.aload_n 0, 1) := by decide +kernel
theorem dX6_tellsNew_130 : decode cX6_tellsNew 130 = .ok (.getfield 74, 3) := by decide +kernel
theorem dX6_tellsNew_133 : decode cX6_tellsNew 133 = .ok (.iconst 1, 1) := by decide +kernel
theorem dX6_tellsNew_134 : decode cX6_tellsNew 134 = .ok (.iaload, 1) := by decide +kernel
theorem dX6_tellsNew_135 : decode cX6_tellsNew 135 = .ok (.invokevirtual 142, 3) := by decide +kernel
theorem dX6_tellsNew_138 : decode cX6_tellsNew 138 = .ok (.iload_n 2, 1) := by decide +kernel
theorem dX6_tellsNew_139 : decode cX6_tellsNew 139 = .ok (.ireturn, 1) := by decide +kernel
set_option maxRecDepth 100000 in
set_option maxHeartbeats 4000000 in
theorem c_X6_tellsNew (Z : ZZ) (l : Launch) (t : Nat) (a1 : Int32) (h : HP) {v : Int32} {h1 : HP} (ho : f_X6_tellsNew t a1 h = some (v, h1)) : MetP Z l yX6_tellsNew cX6_tellsNew 3 (some .boolean) 4 85 [.ref (zb Z + t), .int a1] h (some (.int v)) h1 := by
  refine MetP_of ho (by decide +kernel) (Nat.le_of_ble_eq_true rfl) [(0, .ref (zb Z + t)), (1, .int a1)] rfl (own := RX6) rfl (nm := "tellsNew") rfl ?_
  unfold f_X6_tellsNew
  refine S_aload_n dX6_tellsNew_0 rfl 0 rfl (pc' := 1) rfl ?_
  refine S_iconst dX6_tellsNew_1 (v := 0) rfl (pc' := 2) rfl ?_
  refine S_iload_n dX6_tellsNew_2 rfl 1 rfl (pc' := 3) rfl ?_
  refine S_if_eq dX6_tellsNew_3 10 rfl (pc' := 6) rfl (fun g3 => ?_) (fun g3 => ?_)
  · refine S_bipush dX6_tellsNew_10 (v := 9) rfl (pc' := 12) rfl ?_
    refine S_invi ml_X6_211 mi_X6_tells (ci := 6) ⟨_, rfl, rfl⟩ (by decide) dX6_tellsNew_12 [.int 0, .int 9] rfl (fun v h2 q => c_X6_tells Z l _ _ _ _ q) ⟨Nat.le_of_ble_eq_true rfl, Nat.le_of_ble_eq_true rfl⟩ (rest := []) (Nat.le_of_ble_eq_true rfl) rfl (pc' := 15) rfl (fun x12 h12 => ?_)
    refine S_if_eq dX6_tellsNew_15 41 rfl (pc' := 18) rfl (fun g15 => ?_) (fun g15 => ?_)
    · refine S_iconst dX6_tellsNew_41 (v := 0) rfl (pc' := 42) rfl ?_
      refine S_istore_n dX6_tellsNew_42 rfl (by decide) (lo' := [(2, .int 0), (0, .ref (zb Z + t)), (1, .int a1)]) rfl (pc' := 43) rfl ?_
      refine S_iload_n dX6_tellsNew_43 rfl 0 rfl (pc' := 44) rfl ?_
      refine S_if_eq_J dX6_tellsNew_44 79 rfl (pc' := 47) rfl (by decide) ?_
      refine S_iload_n dX6_tellsNew_79 rfl 0 rfl (pc' := 80) rfl ?_
      refine S_if_eq_J dX6_tellsNew_80 118 rfl (pc' := 83) rfl (by decide) ?_
      refine S_iload_n dX6_tellsNew_118 rfl 0 rfl (pc' := 119) rfl ?_
      refine S_if_eq_J dX6_tellsNew_119 138 rfl (pc' := 122) rfl (by decide) ?_
      refine S_iload_n dX6_tellsNew_138 rfl 0 rfl (pc' := 139) rfl ?_
      exact S_zret rfl dX6_tellsNew_139
    · refine S_aload_n dX6_tellsNew_18 rfl 0 rfl (pc' := 19) rfl ?_
      refine S_iconst dX6_tellsNew_19 (v := 1) rfl (pc' := 20) rfl ?_
      refine S_iconst dX6_tellsNew_20 (v := 0) rfl (pc' := 21) rfl ?_
      refine S_iload_n dX6_tellsNew_21 rfl 1 rfl (pc' := 22) rfl ?_
      refine S_if_eq_J dX6_tellsNew_22 30 rfl (pc' := 25) rfl g3 ?_
      refine S_iconst dX6_tellsNew_30 (v := 4) rfl (pc' := 31) rfl ?_
      refine S_invi ml_X6_207 mi_X6_number (ci := 6) ⟨_, rfl, rfl⟩ (by decide) dX6_tellsNew_31 [.int 1, .int 0, .int 4] rfl (fun v h2 q => c_X6_number Z l _ _ _ _ _ q) ⟨Nat.le_of_ble_eq_true rfl, Nat.le_of_ble_eq_true rfl⟩ (rest := []) (Nat.le_of_ble_eq_true rfl) rfl (pc' := 34) rfl (fun x31 h31 => ?_)
      refine S_if_eq dX6_tellsNew_34 41 rfl (pc' := 37) rfl (fun g34 => ?_) (fun g34 => ?_)
      · refine S_iconst dX6_tellsNew_41 (v := 0) rfl (pc' := 42) rfl ?_
        refine S_istore_n dX6_tellsNew_42 rfl (by decide) (lo' := [(2, .int 0), (0, .ref (zb Z + t)), (1, .int a1)]) rfl (pc' := 43) rfl ?_
        refine S_iload_n dX6_tellsNew_43 rfl 0 rfl (pc' := 44) rfl ?_
        refine S_if_eq_J dX6_tellsNew_44 79 rfl (pc' := 47) rfl (by decide) ?_
        refine S_iload_n dX6_tellsNew_79 rfl 0 rfl (pc' := 80) rfl ?_
        refine S_if_eq_J dX6_tellsNew_80 118 rfl (pc' := 83) rfl (by decide) ?_
        refine S_iload_n dX6_tellsNew_118 rfl 0 rfl (pc' := 119) rfl ?_
        refine S_if_eq_J dX6_tellsNew_119 138 rfl (pc' := 122) rfl (by decide) ?_
        refine S_iload_n dX6_tellsNew_138 rfl 0 rfl (pc' := 139) rfl ?_
        exact S_zret rfl dX6_tellsNew_139
      · refine S_iconst dX6_tellsNew_37 (v := 1) rfl (pc' := 38) rfl ?_
        refine S_goto dX6_tellsNew_38 42 rfl ?_
        refine S_istore_n dX6_tellsNew_42 rfl (by decide) (lo' := [(2, .int 1), (0, .ref (zb Z + t)), (1, .int a1)]) rfl (pc' := 43) rfl ?_
        refine S_iload_n dX6_tellsNew_43 rfl 0 rfl (pc' := 44) rfl ?_
        refine S_if_eq_N dX6_tellsNew_44 79 rfl (pc' := 47) rfl (by decide) ?_
        refine S_iload_n dX6_tellsNew_47 rfl 2 rfl (pc' := 48) rfl ?_
        refine S_if_eq_J dX6_tellsNew_48 79 rfl (pc' := 51) rfl g3 ?_
        refine S_iload_n dX6_tellsNew_79 rfl 0 rfl (pc' := 80) rfl ?_
        refine S_if_eq_N dX6_tellsNew_80 118 rfl (pc' := 83) rfl (by decide) ?_
        refine S_iload_n dX6_tellsNew_83 rfl 2 rfl (pc' := 84) rfl ?_
        refine S_if_eq_J dX6_tellsNew_84 118 rfl (pc' := 87) rfl g3 ?_
        refine S_iload_n dX6_tellsNew_118 rfl 0 rfl (pc' := 119) rfl ?_
        refine S_if_eq_N dX6_tellsNew_119 138 rfl (pc' := 122) rfl (by decide) ?_
        refine S_aload_n dX6_tellsNew_122 rfl 1 rfl (pc' := 123) rfl ?_
        refine S_aload_n dX6_tellsNew_123 rfl 1 rfl (pc' := 124) rfl ?_
        refine S_getR fl_X6_74 rfl dX6_tellsNew_124 (pc' := 127) rfl (fun x124 => ?_)
        refine S_iconst dX6_tellsNew_127 (v := 0) rfl (pc' := 128) rfl ?_
        refine S_iaload dX6_tellsNew_128 (pc' := 129) rfl (fun x128 => ?_)
        refine S_aload_n dX6_tellsNew_129 rfl 1 rfl (pc' := 130) rfl ?_
        refine S_getR fl_X6_74 rfl dX6_tellsNew_130 (pc' := 133) rfl (fun x130 => ?_)
        refine S_iconst dX6_tellsNew_133 (v := 1) rfl (pc' := 134) rfl ?_
        refine S_iaload dX6_tellsNew_134 (pc' := 135) rfl (fun x134 => ?_)
        refine S_invv ml_X6_142 mi_X6_addSong (ci := 6) ⟨_, rfl, rfl⟩ (by decide) dX6_tellsNew_135 [.int x128, .int x134] rfl (fun v h2 q => c_X6_addSong Z l _ _ _ _ q) ⟨Nat.le_of_ble_eq_true rfl, Nat.le_of_ble_eq_true rfl⟩ (rest := []) (Nat.le_of_ble_eq_true rfl) rfl (pc' := 138) rfl (fun _ h135 => ?_)
        refine S_iload_n dX6_tellsNew_138 rfl 0 rfl (pc' := 139) rfl ?_
        exact S_zret rfl dX6_tellsNew_139
  · refine S_iconst dX6_tellsNew_6 (v := 5) rfl (pc' := 7) rfl ?_
    refine S_goto dX6_tellsNew_7 12 rfl ?_
    refine S_invi ml_X6_211 mi_X6_tells (ci := 6) ⟨_, rfl, rfl⟩ (by decide) dX6_tellsNew_12 [.int 0, .int 5] rfl (fun v h2 q => c_X6_tells Z l _ _ _ _ q) ⟨Nat.le_of_ble_eq_true rfl, Nat.le_of_ble_eq_true rfl⟩ (rest := []) (Nat.le_of_ble_eq_true rfl) rfl (pc' := 15) rfl (fun x12 h12 => ?_)
    refine S_if_eq dX6_tellsNew_15 41 rfl (pc' := 18) rfl (fun g15 => ?_) (fun g15 => ?_)
    · refine S_iconst dX6_tellsNew_41 (v := 0) rfl (pc' := 42) rfl ?_
      refine S_istore_n dX6_tellsNew_42 rfl (by decide) (lo' := [(2, .int 0), (0, .ref (zb Z + t)), (1, .int a1)]) rfl (pc' := 43) rfl ?_
      refine S_iload_n dX6_tellsNew_43 rfl 0 rfl (pc' := 44) rfl ?_
      refine S_if_eq_J dX6_tellsNew_44 79 rfl (pc' := 47) rfl (by decide) ?_
      refine S_iload_n dX6_tellsNew_79 rfl 0 rfl (pc' := 80) rfl ?_
      refine S_if_eq_J dX6_tellsNew_80 118 rfl (pc' := 83) rfl (by decide) ?_
      refine S_iload_n dX6_tellsNew_118 rfl 0 rfl (pc' := 119) rfl ?_
      refine S_if_eq_J dX6_tellsNew_119 138 rfl (pc' := 122) rfl (by decide) ?_
      refine S_iload_n dX6_tellsNew_138 rfl 0 rfl (pc' := 139) rfl ?_
      exact S_zret rfl dX6_tellsNew_139
    · refine S_aload_n dX6_tellsNew_18 rfl 0 rfl (pc' := 19) rfl ?_
      refine S_iconst dX6_tellsNew_19 (v := 1) rfl (pc' := 20) rfl ?_
      refine S_iconst dX6_tellsNew_20 (v := 0) rfl (pc' := 21) rfl ?_
      refine S_iload_n dX6_tellsNew_21 rfl 1 rfl (pc' := 22) rfl ?_
      refine S_if_eq_N dX6_tellsNew_22 30 rfl (pc' := 25) rfl g3 ?_
      refine S_bipush dX6_tellsNew_25 (v := 9) rfl (pc' := 27) rfl ?_
      refine S_goto dX6_tellsNew_27 31 rfl ?_
      refine S_invi ml_X6_207 mi_X6_number (ci := 6) ⟨_, rfl, rfl⟩ (by decide) dX6_tellsNew_31 [.int 1, .int 0, .int 9] rfl (fun v h2 q => c_X6_number Z l _ _ _ _ _ q) ⟨Nat.le_of_ble_eq_true rfl, Nat.le_of_ble_eq_true rfl⟩ (rest := []) (Nat.le_of_ble_eq_true rfl) rfl (pc' := 34) rfl (fun x31 h31 => ?_)
      refine S_if_eq dX6_tellsNew_34 41 rfl (pc' := 37) rfl (fun g34 => ?_) (fun g34 => ?_)
      · refine S_iconst dX6_tellsNew_41 (v := 0) rfl (pc' := 42) rfl ?_
        refine S_istore_n dX6_tellsNew_42 rfl (by decide) (lo' := [(2, .int 0), (0, .ref (zb Z + t)), (1, .int a1)]) rfl (pc' := 43) rfl ?_
        refine S_iload_n dX6_tellsNew_43 rfl 0 rfl (pc' := 44) rfl ?_
        refine S_if_eq_J dX6_tellsNew_44 79 rfl (pc' := 47) rfl (by decide) ?_
        refine S_iload_n dX6_tellsNew_79 rfl 0 rfl (pc' := 80) rfl ?_
        refine S_if_eq_J dX6_tellsNew_80 118 rfl (pc' := 83) rfl (by decide) ?_
        refine S_iload_n dX6_tellsNew_118 rfl 0 rfl (pc' := 119) rfl ?_
        refine S_if_eq_J dX6_tellsNew_119 138 rfl (pc' := 122) rfl (by decide) ?_
        refine S_iload_n dX6_tellsNew_138 rfl 0 rfl (pc' := 139) rfl ?_
        exact S_zret rfl dX6_tellsNew_139
      · refine S_iconst dX6_tellsNew_37 (v := 1) rfl (pc' := 38) rfl ?_
        refine S_goto dX6_tellsNew_38 42 rfl ?_
        refine S_istore_n dX6_tellsNew_42 rfl (by decide) (lo' := [(2, .int 1), (0, .ref (zb Z + t)), (1, .int a1)]) rfl (pc' := 43) rfl ?_
        refine S_iload_n dX6_tellsNew_43 rfl 0 rfl (pc' := 44) rfl ?_
        refine S_if_eq_N dX6_tellsNew_44 79 rfl (pc' := 47) rfl (by decide) ?_
        refine S_iload_n dX6_tellsNew_47 rfl 2 rfl (pc' := 48) rfl ?_
        refine S_if_eq_N dX6_tellsNew_48 79 rfl (pc' := 51) rfl g3 ?_
        refine S_aload_n dX6_tellsNew_51 rfl 1 rfl (pc' := 52) rfl ?_
        refine S_iconst dX6_tellsNew_52 (v := 2) rfl (pc' := 53) rfl ?_
        refine S_iconst dX6_tellsNew_53 (v := 0) rfl (pc' := 54) rfl ?_
        refine S_bipush dX6_tellsNew_54 (v := 9) rfl (pc' := 56) rfl ?_
        refine S_invi ml_X6_207 mi_X6_number (ci := 6) ⟨_, rfl, rfl⟩ (by decide) dX6_tellsNew_56 [.int 2, .int 0, .int 9] rfl (fun v h2 q => c_X6_number Z l _ _ _ _ _ q) ⟨Nat.le_of_ble_eq_true rfl, Nat.le_of_ble_eq_true rfl⟩ (rest := []) (Nat.le_of_ble_eq_true rfl) rfl (pc' := 59) rfl (fun x56 h56 => ?_)
        refine S_if_eq dX6_tellsNew_59 77 rfl (pc' := 62) rfl (fun g59 => ?_) (fun g59 => ?_)
        · refine S_iconst dX6_tellsNew_77 (v := 0) rfl (pc' := 78) rfl ?_
          refine S_istore_n dX6_tellsNew_78 rfl (by decide) (lo' := [(2, .int 0), (0, .ref (zb Z + t)), (1, .int a1)]) rfl (pc' := 79) rfl ?_
          refine S_iload_n dX6_tellsNew_79 rfl 0 rfl (pc' := 80) rfl ?_
          refine S_if_eq_J dX6_tellsNew_80 118 rfl (pc' := 83) rfl (by decide) ?_
          refine S_iload_n dX6_tellsNew_118 rfl 0 rfl (pc' := 119) rfl ?_
          refine S_if_eq_J dX6_tellsNew_119 138 rfl (pc' := 122) rfl (by decide) ?_
          refine S_iload_n dX6_tellsNew_138 rfl 0 rfl (pc' := 139) rfl ?_
          exact S_zret rfl dX6_tellsNew_139
        · refine S_aload_n dX6_tellsNew_62 rfl 1 rfl (pc' := 63) rfl ?_
          refine S_iconst dX6_tellsNew_63 (v := 3) rfl (pc' := 64) rfl ?_
          refine S_iconst dX6_tellsNew_64 (v := 0) rfl (pc' := 65) rfl ?_
          refine S_bipush dX6_tellsNew_65 (v := 9) rfl (pc' := 67) rfl ?_
          refine S_invi ml_X6_207 mi_X6_number (ci := 6) ⟨_, rfl, rfl⟩ (by decide) dX6_tellsNew_67 [.int 3, .int 0, .int 9] rfl (fun v h2 q => c_X6_number Z l _ _ _ _ _ q) ⟨Nat.le_of_ble_eq_true rfl, Nat.le_of_ble_eq_true rfl⟩ (rest := []) (Nat.le_of_ble_eq_true rfl) rfl (pc' := 70) rfl (fun x67 h67 => ?_)
          refine S_if_eq dX6_tellsNew_70 77 rfl (pc' := 73) rfl (fun g70 => ?_) (fun g70 => ?_)
          · refine S_iconst dX6_tellsNew_77 (v := 0) rfl (pc' := 78) rfl ?_
            refine S_istore_n dX6_tellsNew_78 rfl (by decide) (lo' := [(2, .int 0), (0, .ref (zb Z + t)), (1, .int a1)]) rfl (pc' := 79) rfl ?_
            refine S_iload_n dX6_tellsNew_79 rfl 0 rfl (pc' := 80) rfl ?_
            refine S_if_eq_J dX6_tellsNew_80 118 rfl (pc' := 83) rfl (by decide) ?_
            refine S_iload_n dX6_tellsNew_118 rfl 0 rfl (pc' := 119) rfl ?_
            refine S_if_eq_J dX6_tellsNew_119 138 rfl (pc' := 122) rfl (by decide) ?_
            refine S_iload_n dX6_tellsNew_138 rfl 0 rfl (pc' := 139) rfl ?_
            exact S_zret rfl dX6_tellsNew_139
          · refine S_iconst dX6_tellsNew_73 (v := 1) rfl (pc' := 74) rfl ?_
            refine S_goto dX6_tellsNew_74 78 rfl ?_
            refine S_istore_n dX6_tellsNew_78 rfl (by decide) (lo' := [(2, .int 1), (0, .ref (zb Z + t)), (1, .int a1)]) rfl (pc' := 79) rfl ?_
            refine S_iload_n dX6_tellsNew_79 rfl 0 rfl (pc' := 80) rfl ?_
            refine S_if_eq_N dX6_tellsNew_80 118 rfl (pc' := 83) rfl (by decide) ?_
            refine S_iload_n dX6_tellsNew_83 rfl 2 rfl (pc' := 84) rfl ?_
            refine S_if_eq_N dX6_tellsNew_84 118 rfl (pc' := 87) rfl g3 ?_
            refine S_aload_n dX6_tellsNew_87 rfl 1 rfl (pc' := 88) rfl ?_
            refine S_aload_n dX6_tellsNew_88 rfl 1 rfl (pc' := 89) rfl ?_
            refine S_getR fl_X6_74 rfl dX6_tellsNew_89 (pc' := 92) rfl (fun x89 => ?_)
            refine S_iconst dX6_tellsNew_92 (v := 0) rfl (pc' := 93) rfl ?_
            refine S_iaload dX6_tellsNew_93 (pc' := 94) rfl (fun x93 => ?_)
            refine S_aload_n dX6_tellsNew_94 rfl 1 rfl (pc' := 95) rfl ?_
            refine S_getR fl_X6_74 rfl dX6_tellsNew_95 (pc' := 98) rfl (fun x95 => ?_)
            refine S_iconst dX6_tellsNew_98 (v := 1) rfl (pc' := 99) rfl ?_
            refine S_iaload dX6_tellsNew_99 (pc' := 100) rfl (fun x99 => ?_)
            refine S_aload_n dX6_tellsNew_100 rfl 1 rfl (pc' := 101) rfl ?_
            refine S_getR fl_X6_74 rfl dX6_tellsNew_101 (pc' := 104) rfl (fun x101 => ?_)
            refine S_iconst dX6_tellsNew_104 (v := 2) rfl (pc' := 105) rfl ?_
            refine S_iaload dX6_tellsNew_105 (pc' := 106) rfl (fun x105 => ?_)
            refine S_aload_n dX6_tellsNew_106 rfl 1 rfl (pc' := 107) rfl ?_
            refine S_getR fl_X6_74 rfl dX6_tellsNew_107 (pc' := 110) rfl (fun x107 => ?_)
            refine S_iconst dX6_tellsNew_110 (v := 3) rfl (pc' := 111) rfl ?_
            refine S_iaload dX6_tellsNew_111 (pc' := 112) rfl (fun x111 => ?_)
            refine S_invv ml_X6_138 mi_X6_addPerson (ci := 6) ⟨_, rfl, rfl⟩ (by decide) dX6_tellsNew_112 [.int x93, .int x99, .int x105, .int x111] rfl (fun v h2 q => c_X6_addPerson Z l _ _ _ _ _ _ q) ⟨Nat.le_of_ble_eq_true rfl, Nat.le_of_ble_eq_true rfl⟩ (rest := []) (Nat.le_of_ble_eq_true rfl) rfl (pc' := 115) rfl (fun _ h112 => ?_)
            refine S_goto dX6_tellsNew_115 138 rfl ?_
            refine S_iload_n dX6_tellsNew_138 rfl 0 rfl (pc' := 139) rfl ?_
            exact S_zret rfl dX6_tellsNew_139
theorem dX6_tellsHas_0 : decode cX6_tellsHas 0 = .ok (.aload_n 0, 1) := by decide +kernel
theorem dX6_tellsHas_1 : decode cX6_tellsHas 1 = .ok (.iconst 0, 1) := by decide +kernel
theorem dX6_tellsHas_2 : decode cX6_tellsHas 2 = .ok (.aload_n 0, 1) := by decide +kernel
theorem dX6_tellsHas_3 : decode cX6_tellsHas 3 = .ok (.getfield 92, 3) := by decide +kernel
theorem dX6_tellsHas_6 : decode cX6_tellsHas 6 = .ok (.iconst 1, 1) := by decide +kernel
theorem dX6_tellsHas_7 : decode cX6_tellsHas 7 = .ok (.isub, 1) := by decide +kernel
theorem dX6_tellsHas_8 : decode cX6_tellsHas 8 = .ok (.invokevirtual 211, 3) := by decide +kernel
theorem dX6_tellsHas_11 : decode cX6_tellsHas 11 = .ok (.ifCond .eq 22, 3) := by decide +kernel
theorem dX6_tellsHas_14 : decode cX6_tellsHas 14 = .ok (.aload_n 0, 1) := by decide +kernel
theorem dX6_tellsHas_15 : decode cX6_tellsHas 15 = .ok (.iconst 1, 1) := by decide +kernel
theorem dX6_tellsHas_16 : decode cX6_tellsHas 16 = .ok (.iconst 0, 1) := by decide +kernel
theorem dX6_tellsHas_17 : decode cX6_tellsHas 17 = .ok (.aload_n 0, 1) := by decide +kernel
theorem dX6_tellsHas_18 : decode cX6_tellsHas 18 = .ok (.getfield 99, 3) := by decide +kernel
theorem dX6_tellsHas_21 : decode cX6_tellsHas 21 = .ok (.iconst 1, 1) := by decide +kernel
theorem dX6_tellsHas_22 : decode cX6_tellsHas 22 = .ok (.isub, 1) := by decide +kernel
theorem dX6_tellsHas_23 : decode cX6_tellsHas 23 = .ok (.invokevirtual 207, 3) := by decide +kernel
theorem dX6_tellsHas_26 : decode cX6_tellsHas 26 = .ok (.ifCond .eq 7, 3) := by decide +kernel
theorem dX6_tellsHas_29 : decode cX6_tellsHas 29 = .ok (.iconst 1, 1) := by decide +kernel
theorem dX6_tellsHas_30 : decode cX6_tellsHas 30 = .ok (.goto 4, 3) := by decide +kernel
theorem dX6_tellsHas_33 : decode cX6_tellsHas 33 = .ok (.iconst 0, 1) := by decide +kernel
theorem dX6_tellsHas_34 : decode cX6_tellsHas 34 = .ok (.istore_n 2, 1) := by decide +kernel
theorem dX6_tellsHas_35 : decode cX6_tellsHas 35 = .ok (.iload_n 2, 1) := by decide +kernel
theorem dX6_tellsHas_36 : decode cX6_tellsHas 36 = .ok (.ifCond .eq 25, 3) := by decide +kernel
theorem dX6_tellsHas_39 : decode cX6_tellsHas 39 = .ok (.aload_n 0, 1) := by decide +kernel
theorem dX6_tellsHas_40 : decode cX6_tellsHas 40 = .ok (.getfield 68, 3) := by decide +kernel
theorem dX6_tellsHas_43 : decode cX6_tellsHas 43 = .ok (.aload_n 0, 1) := by decide +kernel
theorem dX6_tellsHas_44 : decode cX6_tellsHas 44 = .ok (.getfield 74, 3) := by decide +kernel
theorem dX6_tellsHas_47 : decode cX6_tellsHas 47 = .ok (.iconst 0, 1) := by decide +kernel
theorem dX6_tellsHas_48 : decode cX6_tellsHas 48 = .ok (.iaload, 1) := by decide +kernel
theorem dX6_tellsHas_49 : decode cX6_tellsHas 49 = .ok (.bipush 6, 2) := by decide +kernel
theorem dX6_tellsHas_51 : decode cX6_tellsHas 51 = .ok (.imul, 1) := by decide +kernel
theorem dX6_tellsHas_52 : decode cX6_tellsHas 52 = .ok (.aload_n 0, 1) := by decide +kernel
theorem dX6_tellsHas_53 : decode cX6_tellsHas 53 = .ok (.getfield 74, 3) := by decide +kernel
theorem dX6_tellsHas_56 : decode cX6_tellsHas 56 = .ok (.iconst 1, 1) := by decide +kernel
theorem dX6_tellsHas_57 : decode cX6_tellsHas 57 = .ok (.iaload, 1) := by decide +kernel
theorem dX6_tellsHas_58 : decode cX6_tellsHas 58 = .ok (.iadd, 1) := by decide +kernel
theorem dX6_tellsHas_59 : decode cX6_tellsHas 59 = .ok (.iload_n 1, 1) := by decide +kernel
theorem dX6_tellsHas_60 : decode cX6_tellsHas 60 = .ok (.iastore, 1) := by decide +kernel
theorem dX6_tellsHas_61 : decode cX6_tellsHas 61 = .ok (.iload_n 2, 1) := by decide +kernel
theorem dX6_tellsHas_62 : decode cX6_tellsHas 62 = .ok (.ireturn, 1) := by decide +kernel
set_option maxRecDepth 100000 in
set_option maxHeartbeats 4000000 in
theorem c_X6_tellsHas (Z : ZZ) (l : Launch) (t : Nat) (a1 : Int32) (h : HP) {v : Int32} {h1 : HP} (ho : f_X6_tellsHas t a1 h = some (v, h1)) : MetP Z l yX6_tellsHas cX6_tellsHas 3 (some .boolean) 4 85 [.ref (zb Z + t), .int a1] h (some (.int v)) h1 := by
  refine MetP_of ho (by decide +kernel) (Nat.le_of_ble_eq_true rfl) [(0, .ref (zb Z + t)), (1, .int a1)] rfl (own := RX6) rfl (nm := "tellsHas") rfl ?_
  unfold f_X6_tellsHas
  refine S_aload_n dX6_tellsHas_0 rfl 0 rfl (pc' := 1) rfl ?_
  refine S_iconst dX6_tellsHas_1 (v := 0) rfl (pc' := 2) rfl ?_
  refine S_aload_n dX6_tellsHas_2 rfl 0 rfl (pc' := 3) rfl ?_
  refine S_getI fl_X6_92 rfl dX6_tellsHas_3 (pc' := 6) rfl (fun x3 => ?_)
  refine S_iconst dX6_tellsHas_6 (v := 1) rfl (pc' := 7) rfl ?_
  refine S_isub dX6_tellsHas_7 (pc' := 8) rfl ?_
  refine S_invi ml_X6_211 mi_X6_tells (ci := 6) ⟨_, rfl, rfl⟩ (by decide) dX6_tellsHas_8 [.int 0, .int (x3 - 1)] rfl (fun v h2 q => c_X6_tells Z l _ _ _ _ q) ⟨Nat.le_of_ble_eq_true rfl, Nat.le_of_ble_eq_true rfl⟩ (rest := []) (Nat.le_of_ble_eq_true rfl) rfl (pc' := 11) rfl (fun x8 h8 => ?_)
  refine S_if_eq dX6_tellsHas_11 33 rfl (pc' := 14) rfl (fun g11 => ?_) (fun g11 => ?_)
  · refine S_iconst dX6_tellsHas_33 (v := 0) rfl (pc' := 34) rfl ?_
    refine S_istore_n dX6_tellsHas_34 rfl (by decide) (lo' := [(2, .int 0), (0, .ref (zb Z + t)), (1, .int a1)]) rfl (pc' := 35) rfl ?_
    refine S_iload_n dX6_tellsHas_35 rfl 0 rfl (pc' := 36) rfl ?_
    refine S_if_eq_J dX6_tellsHas_36 61 rfl (pc' := 39) rfl (by decide) ?_
    refine S_iload_n dX6_tellsHas_61 rfl 0 rfl (pc' := 62) rfl ?_
    exact S_zret rfl dX6_tellsHas_62
  · refine S_aload_n dX6_tellsHas_14 rfl 0 rfl (pc' := 15) rfl ?_
    refine S_iconst dX6_tellsHas_15 (v := 1) rfl (pc' := 16) rfl ?_
    refine S_iconst dX6_tellsHas_16 (v := 0) rfl (pc' := 17) rfl ?_
    refine S_aload_n dX6_tellsHas_17 rfl 0 rfl (pc' := 18) rfl ?_
    refine S_getI fl_X6_99 rfl dX6_tellsHas_18 (pc' := 21) rfl (fun x18 => ?_)
    refine S_iconst dX6_tellsHas_21 (v := 1) rfl (pc' := 22) rfl ?_
    refine S_isub dX6_tellsHas_22 (pc' := 23) rfl ?_
    refine S_invi ml_X6_207 mi_X6_number (ci := 6) ⟨_, rfl, rfl⟩ (by decide) dX6_tellsHas_23 [.int 1, .int 0, .int (x18 - 1)] rfl (fun v h2 q => c_X6_number Z l _ _ _ _ _ q) ⟨Nat.le_of_ble_eq_true rfl, Nat.le_of_ble_eq_true rfl⟩ (rest := []) (Nat.le_of_ble_eq_true rfl) rfl (pc' := 26) rfl (fun x23 h23 => ?_)
    refine S_if_eq dX6_tellsHas_26 33 rfl (pc' := 29) rfl (fun g26 => ?_) (fun g26 => ?_)
    · refine S_iconst dX6_tellsHas_33 (v := 0) rfl (pc' := 34) rfl ?_
      refine S_istore_n dX6_tellsHas_34 rfl (by decide) (lo' := [(2, .int 0), (0, .ref (zb Z + t)), (1, .int a1)]) rfl (pc' := 35) rfl ?_
      refine S_iload_n dX6_tellsHas_35 rfl 0 rfl (pc' := 36) rfl ?_
      refine S_if_eq_J dX6_tellsHas_36 61 rfl (pc' := 39) rfl (by decide) ?_
      refine S_iload_n dX6_tellsHas_61 rfl 0 rfl (pc' := 62) rfl ?_
      exact S_zret rfl dX6_tellsHas_62
    · refine S_iconst dX6_tellsHas_29 (v := 1) rfl (pc' := 30) rfl ?_
      refine S_goto dX6_tellsHas_30 34 rfl ?_
      refine S_istore_n dX6_tellsHas_34 rfl (by decide) (lo' := [(2, .int 1), (0, .ref (zb Z + t)), (1, .int a1)]) rfl (pc' := 35) rfl ?_
      refine S_iload_n dX6_tellsHas_35 rfl 0 rfl (pc' := 36) rfl ?_
      refine S_if_eq_N dX6_tellsHas_36 61 rfl (pc' := 39) rfl (by decide) ?_
      refine S_aload_n dX6_tellsHas_39 rfl 1 rfl (pc' := 40) rfl ?_
      refine S_getR fl_X6_68 rfl dX6_tellsHas_40 (pc' := 43) rfl (fun x40 => ?_)
      refine S_aload_n dX6_tellsHas_43 rfl 1 rfl (pc' := 44) rfl ?_
      refine S_getR fl_X6_74 rfl dX6_tellsHas_44 (pc' := 47) rfl (fun x44 => ?_)
      refine S_iconst dX6_tellsHas_47 (v := 0) rfl (pc' := 48) rfl ?_
      refine S_iaload dX6_tellsHas_48 (pc' := 49) rfl (fun x48 => ?_)
      refine S_bipush dX6_tellsHas_49 (v := 6) rfl (pc' := 51) rfl ?_
      refine S_imul dX6_tellsHas_51 (pc' := 52) rfl ?_
      refine S_aload_n dX6_tellsHas_52 rfl 1 rfl (pc' := 53) rfl ?_
      refine S_getR fl_X6_74 rfl dX6_tellsHas_53 (pc' := 56) rfl (fun x53 => ?_)
      refine S_iconst dX6_tellsHas_56 (v := 1) rfl (pc' := 57) rfl ?_
      refine S_iaload dX6_tellsHas_57 (pc' := 58) rfl (fun x57 => ?_)
      refine S_iadd dX6_tellsHas_58 (pc' := 59) rfl ?_
      refine S_iload_n dX6_tellsHas_59 rfl 2 rfl (pc' := 60) rfl ?_
      refine S_iastore dX6_tellsHas_60 (pc' := 61) rfl (fun h60 => ?_)
      refine S_iload_n dX6_tellsHas_61 rfl 0 rfl (pc' := 62) rfl ?_
      exact S_zret rfl dX6_tellsHas_62
theorem dX6_tellsSeat_0 : decode cX6_tellsSeat 0 = .ok (.aload_n 0, 1) := by decide +kernel
theorem dX6_tellsSeat_1 : decode cX6_tellsSeat 1 = .ok (.iconst 0, 1) := by decide +kernel
theorem dX6_tellsSeat_2 : decode cX6_tellsSeat 2 = .ok (.aload_n 0, 1) := by decide +kernel
theorem dX6_tellsSeat_3 : decode cX6_tellsSeat 3 = .ok (.getfield 92, 3) := by decide +kernel
theorem dX6_tellsSeat_6 : decode cX6_tellsSeat 6 = .ok (.iconst 1, 1) := by decide +kernel
theorem dX6_tellsSeat_7 : decode cX6_tellsSeat 7 = .ok (.isub, 1) := by decide +kernel
theorem dX6_tellsSeat_8 : decode cX6_tellsSeat 8 = .ok (.invokevirtual 211, 3) := by decide +kernel
theorem dX6_tellsSeat_11 : decode cX6_tellsSeat 11 = .ok (.ifCond .ne 5, 3) := by decide +kernel
theorem dX6_tellsSeat_14 : decode cX6_tellsSeat 14 = .ok (.iconst 0, 1) := by decide +kernel
theorem dX6_tellsSeat_15 : decode cX6_tellsSeat 15 = .ok (.ireturn, 1) := by decide +kernel
theorem dX6_tellsSeat_16 : decode cX6_tellsSeat 16 = .ok (.aload_n 0, 1) := by decide +kernel
theorem dX6_tellsSeat_17 : decode cX6_tellsSeat 17 = .ok (.getfield 178, 3) := by decide +kernel
theorem dX6_tellsSeat_20 : decode cX6_tellsSeat 20 = .ok (.iconst 2, 1) := by decide +kernel
theorem dX6_tellsSeat_21 : decode cX6_tellsSeat 21 = .ok (.if_icmp .ne 21, 3) := by decide +kernel
theorem dX6_tellsSeat_24 : decode cX6_tellsSeat 24 = .ok (.aload_n 0, 1) := by decide +kernel
theorem dX6_tellsSeat_25 : decode cX6_tellsSeat 25 = .ok (.getfield 175, 3) := by decide +kernel
theorem dX6_tellsSeat_28 : decode cX6_tellsSeat 28 = .ok (.aload_n 0, 1) := by decide +kernel
theorem dX6_tellsSeat_29 : decode cX6_tellsSeat 29 = .ok (.getfield 74, 3) := by decide +kernel
theorem dX6_tellsSeat_32 : decode cX6_tellsSeat 32 = .ok (.iconst 0, 1) := by decide +kernel
theorem dX6_tellsSeat_33 : decode cX6_tellsSeat 33 = .ok (.iaload, 1) := by decide +kernel
theorem dX6_tellsSeat_34 : decode cX6_tellsSeat 34 = .ok (.if_icmp .ne 8, 3) := by decide +kernel
theorem dX6_tellsSeat_37 : decode cX6_tellsSeat 37 = .ok (.aload_n 0, 1) := by decide +kernel
theorem dX6_tellsSeat_38 : decode cX6_tellsSeat 38 = .ok (.invokevirtual 200, 3) := by decide +kernel
theorem dX6_tellsSeat_41 : decode cX6_tellsSeat 41 = .ok (.ireturn, 1) := by decide +kernel
theorem dX6_tellsSeat_42 : decode cX6_tellsSeat 42 = .ok (.aload_n 0, 1) := by decide +kernel
theorem dX6_tellsSeat_43 : decode cX6_tellsSeat 43 = .ok (.iconst 1, 1) := by decide +kernel
theorem dX6_tellsSeat_44 : decode cX6_tellsSeat 44 = .ok (.iconst 0, 1) := by decide +kernel
theorem dX6_tellsSeat_45 : decode cX6_tellsSeat 45 = .ok (.aload_n 0, 1) := by decide +kernel
theorem dX6_tellsSeat_46 : decode cX6_tellsSeat 46 = .ok (.getfield 92, 3) := by decide +kernel
theorem dX6_tellsSeat_49 : decode cX6_tellsSeat 49 = .ok (.iconst 1, 1) := by decide +kernel
theorem dX6_tellsSeat_50 : decode cX6_tellsSeat 50 = .ok (.isub, 1) := by decide +kernel
theorem dX6_tellsSeat_51 : decode cX6_tellsSeat 51 = .ok (.invokevirtual 207, 3) := by decide +kernel
theorem dX6_tellsSeat_54 : decode cX6_tellsSeat 54 = .ok (.istore_n 2, 1) := by decide +kernel
theorem dX6_tellsSeat_55 : decode cX6_tellsSeat 55 = .ok (.iload_n 2, 1) := by decide +kernel
theorem dX6_tellsSeat_56 : decode cX6_tellsSeat 56 = .ok (.ifCond .eq 20, 3) := by decide +kernel
theorem dX6_tellsSeat_59 : decode cX6_tellsSeat 59 = .ok (.aload_n 0, 1) := by decide +kernel
theorem dX6_tellsSeat_60 : decode cX6_tellsSeat 60 = .ok (.aload_n 0, 1) := by decide +kernel
theorem dX6_tellsSeat_61 : decode cX6_tellsSeat 61 = .ok (.getfield 74, 3) := by decide +kernel
theorem dX6_tellsSeat_64 : decode cX6_tellsSeat 64 = .ok (.iconst 0, 1) := by decide +kernel
theorem dX6_tellsSeat_65 : decode cX6_tellsSeat 65 = .ok (.iaload, 1) := by decide +kernel
theorem dX6_tellsSeat_66 : decode cX6_tellsSeat 66 = .ok (.aload_n 0, 1) := by decide +kernel
theorem dX6_tellsSeat_67 : decode cX6_tellsSeat 67 = .ok (.getfield 74, 3) := by decide +kernel
theorem dX6_tellsSeat_70 : decode cX6_tellsSeat 70 = .ok (.iconst 1, 1) := by decide +kernel
theorem dX6_tellsSeat_71 : decode cX6_tellsSeat 71 = .ok (.iaload, 1) := by decide +kernel
theorem dX6_tellsSeat_72 : decode cX6_tellsSeat 72 = .ok (.iload_n 1, 1) := by decide +kernel
theorem dX6_tellsSeat_73 : decode cX6_tellsSeat 73 = .ok (.invokevirtual 155, 3) := by decide +kernel
theorem dX6_tellsSeat_76 : decode cX6_tellsSeat 76 = .ok (.iload_n 2, 1) := by decide +kernel
theorem dX6_tellsSeat_77 : decode cX6_tellsSeat 77 = .ok (.ireturn, 1) := by decide +kernel
set_option maxRecDepth 100000 in
set_option maxHeartbeats 4000000 in
theorem c_X6_tellsSeat (Z : ZZ) (l : Launch) (t : Nat) (a1 : Int32) (h : HP) {v : Int32} {h1 : HP} (ho : f_X6_tellsSeat t a1 h = some (v, h1)) : MetP Z l yX6_tellsSeat cX6_tellsSeat 3 (some .boolean) 4 85 [.ref (zb Z + t), .int a1] h (some (.int v)) h1 := by
  refine MetP_of ho (by decide +kernel) (Nat.le_of_ble_eq_true rfl) [(0, .ref (zb Z + t)), (1, .int a1)] rfl (own := RX6) rfl (nm := "tellsSeat") rfl ?_
  unfold f_X6_tellsSeat
  refine S_aload_n dX6_tellsSeat_0 rfl 0 rfl (pc' := 1) rfl ?_
  refine S_iconst dX6_tellsSeat_1 (v := 0) rfl (pc' := 2) rfl ?_
  refine S_aload_n dX6_tellsSeat_2 rfl 0 rfl (pc' := 3) rfl ?_
  refine S_getI fl_X6_92 rfl dX6_tellsSeat_3 (pc' := 6) rfl (fun x3 => ?_)
  refine S_iconst dX6_tellsSeat_6 (v := 1) rfl (pc' := 7) rfl ?_
  refine S_isub dX6_tellsSeat_7 (pc' := 8) rfl ?_
  refine S_invi ml_X6_211 mi_X6_tells (ci := 6) ⟨_, rfl, rfl⟩ (by decide) dX6_tellsSeat_8 [.int 0, .int (x3 - 1)] rfl (fun v h2 q => c_X6_tells Z l _ _ _ _ q) ⟨Nat.le_of_ble_eq_true rfl, Nat.le_of_ble_eq_true rfl⟩ (rest := []) (Nat.le_of_ble_eq_true rfl) rfl (pc' := 11) rfl (fun x8 h8 => ?_)
  refine S_if_ne dX6_tellsSeat_11 16 rfl (pc' := 14) rfl (fun g11 => ?_) (fun g11 => ?_)
  · refine S_aload_n dX6_tellsSeat_16 rfl 0 rfl (pc' := 17) rfl ?_
    refine S_getI fl_X6_178 rfl dX6_tellsSeat_17 (pc' := 20) rfl (fun x17 => ?_)
    refine S_iconst dX6_tellsSeat_20 (v := 2) rfl (pc' := 21) rfl ?_
    refine S_icmp_ne dX6_tellsSeat_21 42 rfl (pc' := 24) rfl (fun g21 => ?_) (fun g21 => ?_)
    · refine S_aload_n dX6_tellsSeat_42 rfl 0 rfl (pc' := 43) rfl ?_
      refine S_iconst dX6_tellsSeat_43 (v := 1) rfl (pc' := 44) rfl ?_
      refine S_iconst dX6_tellsSeat_44 (v := 0) rfl (pc' := 45) rfl ?_
      refine S_aload_n dX6_tellsSeat_45 rfl 0 rfl (pc' := 46) rfl ?_
      refine S_getI fl_X6_92 rfl dX6_tellsSeat_46 (pc' := 49) rfl (fun x46 => ?_)
      refine S_iconst dX6_tellsSeat_49 (v := 1) rfl (pc' := 50) rfl ?_
      refine S_isub dX6_tellsSeat_50 (pc' := 51) rfl ?_
      refine S_invi ml_X6_207 mi_X6_number (ci := 6) ⟨_, rfl, rfl⟩ (by decide) dX6_tellsSeat_51 [.int 1, .int 0, .int (x46 - 1)] rfl (fun v h2 q => c_X6_number Z l _ _ _ _ _ q) ⟨Nat.le_of_ble_eq_true rfl, Nat.le_of_ble_eq_true rfl⟩ (rest := []) (Nat.le_of_ble_eq_true rfl) rfl (pc' := 54) rfl (fun x51 h51 => ?_)
      refine S_istore_n dX6_tellsSeat_54 rfl (by decide) (lo' := [(2, .int x51), (0, .ref (zb Z + t)), (1, .int a1)]) rfl (pc' := 55) rfl ?_
      refine S_iload_n dX6_tellsSeat_55 rfl 0 rfl (pc' := 56) rfl ?_
      refine S_if_eq dX6_tellsSeat_56 76 rfl (pc' := 59) rfl (fun g56 => ?_) (fun g56 => ?_)
      · refine S_iload_n dX6_tellsSeat_76 rfl 0 rfl (pc' := 77) rfl ?_
        exact S_zret rfl dX6_tellsSeat_77
      · refine S_aload_n dX6_tellsSeat_59 rfl 1 rfl (pc' := 60) rfl ?_
        refine S_aload_n dX6_tellsSeat_60 rfl 1 rfl (pc' := 61) rfl ?_
        refine S_getR fl_X6_74 rfl dX6_tellsSeat_61 (pc' := 64) rfl (fun x61 => ?_)
        refine S_iconst dX6_tellsSeat_64 (v := 0) rfl (pc' := 65) rfl ?_
        refine S_iaload dX6_tellsSeat_65 (pc' := 66) rfl (fun x65 => ?_)
        refine S_aload_n dX6_tellsSeat_66 rfl 1 rfl (pc' := 67) rfl ?_
        refine S_getR fl_X6_74 rfl dX6_tellsSeat_67 (pc' := 70) rfl (fun x67 => ?_)
        refine S_iconst dX6_tellsSeat_70 (v := 1) rfl (pc' := 71) rfl ?_
        refine S_iaload dX6_tellsSeat_71 (pc' := 72) rfl (fun x71 => ?_)
        refine S_iload_n dX6_tellsSeat_72 rfl 2 rfl (pc' := 73) rfl ?_
        refine S_invv ml_X6_155 mi_X6_seats (ci := 6) ⟨_, rfl, rfl⟩ (by decide) dX6_tellsSeat_73 [.int x65, .int x71, .int a1] rfl (fun v h2 q => c_X6_seats Z l _ _ _ _ _ q) ⟨Nat.le_of_ble_eq_true rfl, Nat.le_of_ble_eq_true rfl⟩ (rest := []) (Nat.le_of_ble_eq_true rfl) rfl (pc' := 76) rfl (fun _ h73 => ?_)
        refine S_iload_n dX6_tellsSeat_76 rfl 0 rfl (pc' := 77) rfl ?_
        exact S_zret rfl dX6_tellsSeat_77
    · refine S_aload_n dX6_tellsSeat_24 rfl 0 rfl (pc' := 25) rfl ?_
      refine S_getI fl_X6_175 rfl dX6_tellsSeat_25 (pc' := 28) rfl (fun x25 => ?_)
      refine S_aload_n dX6_tellsSeat_28 rfl 0 rfl (pc' := 29) rfl ?_
      refine S_getR fl_X6_74 rfl dX6_tellsSeat_29 (pc' := 32) rfl (fun x29 => ?_)
      refine S_iconst dX6_tellsSeat_32 (v := 0) rfl (pc' := 33) rfl ?_
      refine S_iaload dX6_tellsSeat_33 (pc' := 34) rfl (fun x33 => ?_)
      refine S_icmp_ne dX6_tellsSeat_34 42 rfl (pc' := 37) rfl (fun g34 => ?_) (fun g34 => ?_)
      · refine S_aload_n dX6_tellsSeat_42 rfl 0 rfl (pc' := 43) rfl ?_
        refine S_iconst dX6_tellsSeat_43 (v := 1) rfl (pc' := 44) rfl ?_
        refine S_iconst dX6_tellsSeat_44 (v := 0) rfl (pc' := 45) rfl ?_
        refine S_aload_n dX6_tellsSeat_45 rfl 0 rfl (pc' := 46) rfl ?_
        refine S_getI fl_X6_92 rfl dX6_tellsSeat_46 (pc' := 49) rfl (fun x46 => ?_)
        refine S_iconst dX6_tellsSeat_49 (v := 1) rfl (pc' := 50) rfl ?_
        refine S_isub dX6_tellsSeat_50 (pc' := 51) rfl ?_
        refine S_invi ml_X6_207 mi_X6_number (ci := 6) ⟨_, rfl, rfl⟩ (by decide) dX6_tellsSeat_51 [.int 1, .int 0, .int (x46 - 1)] rfl (fun v h2 q => c_X6_number Z l _ _ _ _ _ q) ⟨Nat.le_of_ble_eq_true rfl, Nat.le_of_ble_eq_true rfl⟩ (rest := []) (Nat.le_of_ble_eq_true rfl) rfl (pc' := 54) rfl (fun x51 h51 => ?_)
        refine S_istore_n dX6_tellsSeat_54 rfl (by decide) (lo' := [(2, .int x51), (0, .ref (zb Z + t)), (1, .int a1)]) rfl (pc' := 55) rfl ?_
        refine S_iload_n dX6_tellsSeat_55 rfl 0 rfl (pc' := 56) rfl ?_
        refine S_if_eq dX6_tellsSeat_56 76 rfl (pc' := 59) rfl (fun g56 => ?_) (fun g56 => ?_)
        · refine S_iload_n dX6_tellsSeat_76 rfl 0 rfl (pc' := 77) rfl ?_
          exact S_zret rfl dX6_tellsSeat_77
        · refine S_aload_n dX6_tellsSeat_59 rfl 1 rfl (pc' := 60) rfl ?_
          refine S_aload_n dX6_tellsSeat_60 rfl 1 rfl (pc' := 61) rfl ?_
          refine S_getR fl_X6_74 rfl dX6_tellsSeat_61 (pc' := 64) rfl (fun x61 => ?_)
          refine S_iconst dX6_tellsSeat_64 (v := 0) rfl (pc' := 65) rfl ?_
          refine S_iaload dX6_tellsSeat_65 (pc' := 66) rfl (fun x65 => ?_)
          refine S_aload_n dX6_tellsSeat_66 rfl 1 rfl (pc' := 67) rfl ?_
          refine S_getR fl_X6_74 rfl dX6_tellsSeat_67 (pc' := 70) rfl (fun x67 => ?_)
          refine S_iconst dX6_tellsSeat_70 (v := 1) rfl (pc' := 71) rfl ?_
          refine S_iaload dX6_tellsSeat_71 (pc' := 72) rfl (fun x71 => ?_)
          refine S_iload_n dX6_tellsSeat_72 rfl 2 rfl (pc' := 73) rfl ?_
          refine S_invv ml_X6_155 mi_X6_seats (ci := 6) ⟨_, rfl, rfl⟩ (by decide) dX6_tellsSeat_73 [.int x65, .int x71, .int a1] rfl (fun v h2 q => c_X6_seats Z l _ _ _ _ _ q) ⟨Nat.le_of_ble_eq_true rfl, Nat.le_of_ble_eq_true rfl⟩ (rest := []) (Nat.le_of_ble_eq_true rfl) rfl (pc' := 76) rfl (fun _ h73 => ?_)
          refine S_iload_n dX6_tellsSeat_76 rfl 0 rfl (pc' := 77) rfl ?_
          exact S_zret rfl dX6_tellsSeat_77
      · refine S_aload_n dX6_tellsSeat_37 rfl 0 rfl (pc' := 38) rfl ?_
        refine S_invi ml_X6_200 mi_X6_wrong (ci := 6) ⟨_, rfl, rfl⟩ (by decide) dX6_tellsSeat_38 [] rfl (fun v h2 q => c_X6_wrong Z l _ _ q) ⟨Nat.le_of_ble_eq_true rfl, Nat.le_of_ble_eq_true rfl⟩ (rest := []) (Nat.le_of_ble_eq_true rfl) rfl (pc' := 41) rfl (fun x38 h38 => ?_)
        exact S_zret rfl dX6_tellsSeat_41
  · refine S_iconst dX6_tellsSeat_14 (v := 0) rfl (pc' := 15) rfl ?_
    exact S_zret rfl dX6_tellsSeat_15
theorem dX6_tellsHum_0 : decode cX6_tellsHum 0 = .ok (.aload_n 0, 1) := by decide +kernel
theorem dX6_tellsHum_1 : decode cX6_tellsHum 1 = .ok (.iconst 0, 1) := by decide +kernel
theorem dX6_tellsHum_2 : decode cX6_tellsHum 2 = .ok (.aload_n 0, 1) := by decide +kernel
theorem dX6_tellsHum_3 : decode cX6_tellsHum 3 = .ok (.getfield 92, 3) := by decide +kernel
theorem dX6_tellsHum_6 : decode cX6_tellsHum 6 = .ok (.iconst 1, 1) := by decide +kernel
theorem dX6_tellsHum_7 : decode cX6_tellsHum 7 = .ok (.isub, 1) := by decide +kernel
theorem dX6_tellsHum_8 : decode cX6_tellsHum 8 = .ok (.invokevirtual 211, 3) := by decide +kernel
theorem dX6_tellsHum_11 : decode cX6_tellsHum 11 = .ok (.istore_n 2, 1) := by decide +kernel
theorem dX6_tellsHum_12 : decode cX6_tellsHum 12 = .ok (.aload_n 0, 1) := by decide +kernel
theorem dX6_tellsHum_13 : decode cX6_tellsHum 13 = .ok (.iload_n 2, 1) := by decide +kernel
theorem dX6_tellsHum_14 : decode cX6_tellsHum 14 = .ok (.ifCond .eq 30, 3) := by decide +kernel
theorem dX6_tellsHum_17 : decode cX6_tellsHum 17 = .ok (.aload_n 0, 1) := by decide +kernel
theorem dX6_tellsHum_18 : decode cX6_tellsHum 18 = .ok (.getfield 133, 3) := by decide +kernel
theorem dX6_tellsHum_21 : decode cX6_tellsHum 21 = .ok (.iconst 1, 1) := by decide +kernel
theorem dX6_tellsHum_22 : decode cX6_tellsHum 22 = .ok (.aload_n 0, 1) := by decide +kernel
theorem dX6_tellsHum_23 : decode cX6_tellsHum 23 = .ok (.getfield 74, 3) := by decide +kernel
theorem dX6_tellsHum_26 : decode cX6_tellsHum 26 = .ok (.iconst 0, 1) := by decide +kernel
theorem dX6_tellsHum_27 : decode cX6_tellsHum 27 = .ok (.iaload, 1) := by decide +kernel
theorem dX6_tellsHum_28 : decode cX6_tellsHum 28 = .ok (.ishl, 1) := by decide +kernel
theorem dX6_tellsHum_29 : decode cX6_tellsHum 29 = .ok (.iconst (-1), 1) := by decide +kernel
theorem dX6_tellsHum_30 : decode cX6_tellsHum 30 = .ok (.ixor, 1) := by decide +kernel
theorem dX6_tellsHum_31 : decode cX6_tellsHum 31 = .ok (.iand, 1) := by decide +kernel
theorem dX6_tellsHum_32 : decode cX6_tellsHum 32 = .ok (.iload_n 1, 1) := by decide +kernel
theorem dX6_tellsHum_33 : decode cX6_tellsHum 33 = .ok (.aload_n 0, 1) := by decide +kernel
theorem dX6_tellsHum_34 : decode cX6_tellsHum 34 = .ok (.getfield 74, 3) := by decide +kernel
theorem dX6_tellsHum_37 : decode cX6_tellsHum 37 = .ok (.iconst 0, 1) := by decide +kernel
theorem dX6_tellsHum_38 : decode cX6_tellsHum 38 = .ok (.iaload, 1) := by decide +kernel
theorem dX6_tellsHum_39 : decode cX6_tellsHum 39 = .ok (.ishl, 1) := by decide +kernel
theorem dX6_tellsHum_40 : decode cX6_tellsHum 40 = .ok (.ior, 1) := by decide +kernel
theorem dX6_tellsHum_41 : decode cX6_tellsHum 41 = .ok (.goto 7, 3) := by decide +kernel
theorem dX6_tellsHum_44 : decode cX6_tellsHum 44 = .ok (.aload_n 0, 1) := by decide +kernel
theorem dX6_tellsHum_45 : decode cX6_tellsHum 45 = .ok (.getfield 133, 3) := by decide +kernel
theorem dX6_tellsHum_48 : decode cX6_tellsHum 48 = .ok (.putfield 133, 3) := by decide +kernel
theorem dX6_tellsHum_51 : decode cX6_tellsHum 51 = .ok (.iload_n 2, 1) := by decide +kernel
theorem dX6_tellsHum_52 : decode cX6_tellsHum 52 = .ok (.ireturn, 1) := by decide +kernel
set_option maxRecDepth 100000 in
set_option maxHeartbeats 4000000 in
theorem c_X6_tellsHum (Z : ZZ) (l : Launch) (t : Nat) (a1 : Int32) (h : HP) {v : Int32} {h1 : HP} (ho : f_X6_tellsHum t a1 h = some (v, h1)) : MetP Z l yX6_tellsHum cX6_tellsHum 3 (some .boolean) 4 85 [.ref (zb Z + t), .int a1] h (some (.int v)) h1 := by
  refine MetP_of ho (by decide +kernel) (Nat.le_of_ble_eq_true rfl) [(0, .ref (zb Z + t)), (1, .int a1)] rfl (own := RX6) rfl (nm := "tellsHum") rfl ?_
  unfold f_X6_tellsHum
  refine S_aload_n dX6_tellsHum_0 rfl 0 rfl (pc' := 1) rfl ?_
  refine S_iconst dX6_tellsHum_1 (v := 0) rfl (pc' := 2) rfl ?_
  refine S_aload_n dX6_tellsHum_2 rfl 0 rfl (pc' := 3) rfl ?_
  refine S_getI fl_X6_92 rfl dX6_tellsHum_3 (pc' := 6) rfl (fun x3 => ?_)
  refine S_iconst dX6_tellsHum_6 (v := 1) rfl (pc' := 7) rfl ?_
  refine S_isub dX6_tellsHum_7 (pc' := 8) rfl ?_
  refine S_invi ml_X6_211 mi_X6_tells (ci := 6) ⟨_, rfl, rfl⟩ (by decide) dX6_tellsHum_8 [.int 0, .int (x3 - 1)] rfl (fun v h2 q => c_X6_tells Z l _ _ _ _ q) ⟨Nat.le_of_ble_eq_true rfl, Nat.le_of_ble_eq_true rfl⟩ (rest := []) (Nat.le_of_ble_eq_true rfl) rfl (pc' := 11) rfl (fun x8 h8 => ?_)
  refine S_istore_n dX6_tellsHum_11 rfl (by decide) (lo' := [(2, .int x8), (0, .ref (zb Z + t)), (1, .int a1)]) rfl (pc' := 12) rfl ?_
  refine S_aload_n dX6_tellsHum_12 rfl 1 rfl (pc' := 13) rfl ?_
  refine S_iload_n dX6_tellsHum_13 rfl 0 rfl (pc' := 14) rfl ?_
  refine S_if_eq dX6_tellsHum_14 44 rfl (pc' := 17) rfl (fun g14 => ?_) (fun g14 => ?_)
  · refine S_aload_n dX6_tellsHum_44 rfl 1 rfl (pc' := 45) rfl ?_
    refine S_getI fl_X6_133 rfl dX6_tellsHum_45 (pc' := 48) rfl (fun x45 => ?_)
    refine S_putI fl_X6_133 (by decide) rfl dX6_tellsHum_48 (pc' := 51) rfl (fun h48 => ?_)
    refine S_iload_n dX6_tellsHum_51 rfl 0 rfl (pc' := 52) rfl ?_
    exact S_zret rfl dX6_tellsHum_52
  · refine S_aload_n dX6_tellsHum_17 rfl 1 rfl (pc' := 18) rfl ?_
    refine S_getI fl_X6_133 rfl dX6_tellsHum_18 (pc' := 21) rfl (fun x18 => ?_)
    refine S_iconst dX6_tellsHum_21 (v := 1) rfl (pc' := 22) rfl ?_
    refine S_aload_n dX6_tellsHum_22 rfl 1 rfl (pc' := 23) rfl ?_
    refine S_getR fl_X6_74 rfl dX6_tellsHum_23 (pc' := 26) rfl (fun x23 => ?_)
    refine S_iconst dX6_tellsHum_26 (v := 0) rfl (pc' := 27) rfl ?_
    refine S_iaload dX6_tellsHum_27 (pc' := 28) rfl (fun x27 => ?_)
    refine S_ishl dX6_tellsHum_28 (pc' := 29) rfl ?_
    refine S_iconst dX6_tellsHum_29 (v := (-1)) rfl (pc' := 30) rfl ?_
    refine S_ixor dX6_tellsHum_30 (pc' := 31) rfl ?_
    refine S_iand dX6_tellsHum_31 (pc' := 32) rfl ?_
    refine S_iload_n dX6_tellsHum_32 rfl 2 rfl (pc' := 33) rfl ?_
    refine S_aload_n dX6_tellsHum_33 rfl 1 rfl (pc' := 34) rfl ?_
    refine S_getR fl_X6_74 rfl dX6_tellsHum_34 (pc' := 37) rfl (fun x34 => ?_)
    refine S_iconst dX6_tellsHum_37 (v := 0) rfl (pc' := 38) rfl ?_
    refine S_iaload dX6_tellsHum_38 (pc' := 39) rfl (fun x38 => ?_)
    refine S_ishl dX6_tellsHum_39 (pc' := 40) rfl ?_
    refine S_ior dX6_tellsHum_40 (pc' := 41) rfl ?_
    refine S_goto dX6_tellsHum_41 48 rfl ?_
    refine S_putI fl_X6_133 (by decide) rfl dX6_tellsHum_48 (pc' := 51) rfl (fun h48 => ?_)
    refine S_iload_n dX6_tellsHum_51 rfl 0 rfl (pc' := 52) rfl ?_
    exact S_zret rfl dX6_tellsHum_52
theorem dX6_statement_0 : decode cX6_statement 0 = .ok (.aload_n 0, 1) := by decide +kernel
theorem dX6_statement_1 : decode cX6_statement 1 = .ok (.ldc 214, 2) := by decide +kernel
theorem dX6_statement_3 : decode cX6_statement 3 = .ok (.invokevirtual 216, 3) := by decide +kernel
theorem dX6_statement_6 : decode cX6_statement 6 = .ok (.ifCond .eq 18, 3) := by decide +kernel
theorem dX6_statement_9 : decode cX6_statement 9 = .ok (.aload_n 0, 1) := by decide +kernel
theorem dX6_statement_10 : decode cX6_statement 10 = .ok (.getfield 92, 3) := by decide +kernel
theorem dX6_statement_13 : decode cX6_statement 13 = .ok (.bipush 8, 2) := by decide +kernel
theorem dX6_statement_15 : decode cX6_statement 15 = .ok (.if_icmp .ge 9, 3) := by decide +kernel
theorem dX6_statement_18 : decode cX6_statement 18 = .ok (.aload_n 0, 1) := by decide +kernel
theorem dX6_statement_19 : decode cX6_statement 19 = .ok (.iconst 1, 1) := by decide +kernel
theorem dX6_statement_20 : decode cX6_statement 20 = .ok (.invokevirtual 220, 3) := by decide +kernel
theorem dX6_statement_23 : decode cX6_statement 23 = .ok (.ireturn, 1) := by decide +kernel
theorem dX6_statement_24 : decode cX6_statement 24 = .ok (.aload_n 0, 1) := by decide +kernel
theorem dX6_statement_25 : decode cX6_statement 25 = .ok (.ldc 224, 2) := by decide +kernel
theorem dX6_statement_27 : decode cX6_statement 27 = .ok (.invokevirtual 216, 3) := by decide +kernel
theorem dX6_statement_30 : decode cX6_statement 30 = .ok (.ifCond .eq 18, 3) := by decide +kernel
theorem dX6_statement_33 : decode cX6_statement 33 = .ok (.aload_n 0, 1) := by decide +kernel
theorem dX6_statement_34 : decode cX6_statement 34 = .ok (.getfield 99, 3) := by decide +kernel
theorem dX6_statement_37 : decode cX6_statement 37 = .ok (.bipush 6, 2) := by decide +kernel
theorem dX6_statement_39 : decode cX6_statement 39 = .ok (.if_icmp .ge 9, 3) := by decide +kernel
theorem dX6_statement_42 : decode cX6_statement 42 = .ok (.aload_n 0, 1) := by decide +kernel
theorem dX6_statement_43 : decode cX6_statement 43 = .ok (.iconst 0, 1) := by decide +kernel
theorem dX6_statement_44 : decode cX6_statement 44 = .ok (.invokevirtual 220, 3) := by decide +kernel
theorem dX6_statement_47 : decode cX6_statement 47 = .ok (.ireturn, 1) := by decide +kernel
theorem dX6_statement_48 : decode cX6_statement 48 = .ok (.aload_n 0, 1) := by decide +kernel
theorem dX6_statement_49 : decode cX6_statement 49 = .ok (.ldc 226, 2) := by decide +kernel
theorem dX6_statement_51 : decode cX6_statement 51 = .ok (.invokevirtual 216, 3) := by decide +kernel
theorem dX6_statement_54 : decode cX6_statement 54 = .ok (.ifCond .eq 9, 3) := by decide +kernel
theorem dX6_statement_57 : decode cX6_statement 57 = .ok (.aload_n 0, 1) := by decide +kernel
theorem dX6_statement_58 : decode cX6_statement 58 = .ok (.iconst 0, 1) := by decide +kernel
theorem dX6_statement_59 : decode cX6_statement 59 = .ok (.invokevirtual 227, 3) := by decide +kernel
theorem dX6_statement_62 : decode cX6_statement 62 = .ok (.ireturn, 1) := by decide +kernel
theorem dX6_statement_63 : decode cX6_statement 63 = .ok (.aload_n 0, 1) := by decide +kernel
theorem dX6_statement_64 : decode cX6_statement 64 = .ok (.ldc 230, 2) := by decide +kernel
theorem dX6_statement_66 : decode cX6_statement 66 = .ok (.invokevirtual 216, 3) := by decide +kernel
theorem dX6_statement_69 : decode cX6_statement 69 = .ok (.ifCond .eq 9, 3) := by decide +kernel
theorem dX6_statement_72 : decode cX6_statement 72 = .ok (.aload_n 0, 1) := by decide +kernel
theorem dX6_statement_73 : decode cX6_statement 73 = .ok (.iconst (-1), 1) := by decide +kernel
theorem dX6_statement_74 : decode cX6_statement 74 = .ok (.invokevirtual 227, 3) := by decide +kernel
theorem dX6_statement_77 : decode cX6_statement 77 = .ok (.ireturn, 1) := by decide +kernel
theorem dX6_statement_78 : decode cX6_statement 78 = .ok (.aload_n 0, 1) := by decide +kernel
theorem dX6_statement_79 : decode cX6_statement 79 = .ok (.ldc 232, 2) := by decide +kernel
theorem dX6_statement_81 : decode cX6_statement 81 = .ok (.invokevirtual 216, 3) := by decide +kernel
theorem dX6_statement_84 : decode cX6_statement 84 = .ok (.ifCond .eq 9, 3) := by decide +kernel
theorem dX6_statement_87 : decode cX6_statement 87 = .ok (.aload_n 0, 1) := by decide +kernel
theorem dX6_statement_88 : decode cX6_statement 88 = .ok (.iconst 1, 1) := by decide +kernel
theorem dX6_statement_89 : decode cX6_statement 89 = .ok (.invokevirtual 233, 3) := by decide +kernel
theorem dX6_statement_92 : decode cX6_statement 92 = .ok (.ireturn, 1) := by decide +kernel
theorem dX6_statement_93 : decode cX6_statement 93 = .ok (.aload_n 0, 1) := by decide +kernel
theorem dX6_statement_94 : decode cX6_statement 94 = .ok (.ldc 236, 2) := by decide +kernel
theorem dX6_statement_96 : decode cX6_statement 96 = .ok (.invokevirtual 216, 3) := by decide +kernel
theorem dX6_statement_99 : decode cX6_statement 99 = .ok (.ifCond .eq 9, 3) := by decide +kernel
theorem dX6_statement_102 : decode cX6_statement 102 = .ok (.aload_n 0, 1) := by decide +kernel
theorem dX6_statement_103 : decode cX6_statement 103 = .ok (.iconst 0, 1) := by decide +kernel
theorem dX6_statement_104 : decode cX6_statement 104 = .ok (.invokevirtual 233, 3) := by decide +kernel
theorem dX6_statement_107 : decode cX6_statement 107 = .ok (.ireturn, 1) := by decide +kernel
theorem dX6_statement_108 : decode cX6_statement 108 = .ok (.aload_n 0, 1) := by decide +kernel
theorem dX6_statement_109 : decode cX6_statement 109 = .ok (.ldc 238, 2) := by decide +kernel
theorem dX6_statement_111 : decode cX6_statement 111 = .ok (.invokevirtual 216, 3) := by decide +kernel
theorem dX6_statement_114 : decode cX6_statement 114 = .ok (.ifCond .eq 9, 3) := by decide +kernel
theorem dX6_statement_117 : decode cX6_statement 117 = .ok (.aload_n 0, 1) := by decide +kernel
theorem dX6_statement_118 : decode cX6_statement 118 = .ok (.iconst 1, 1) := by decide +kernel
theorem dX6_statement_119 : decode cX6_statement 119 = .ok (.invokevirtual 239, 3) := by decide +kernel
theorem dX6_statement_122 : decode cX6_statement 122 = .ok (.ireturn, 1) := by decide +kernel
theorem dX6_statement_123 : decode cX6_statement 123 = .ok (.aload_n 0, 1) := by decide +kernel
theorem dX6_statement_124 : decode cX6_statement 124 = .ok (.ldc 242, 2) := by decide +kernel
theorem dX6_statement_126 : decode cX6_statement 126 = .ok (.invokevirtual 216, 3) := by decide +kernel
theorem dX6_statement_129 : decode cX6_statement 129 = .ok (.ifCond .eq 9, 3) := by decide +kernel
theorem dX6_statement_132 : decode cX6_statement 132 = .ok (.aload_n 0, 1) := by decide +kernel
theorem dX6_statement_133 : decode cX6_statement 133 = .ok (.iconst 0, 1) := by decide +kernel
theorem dX6_statement_134 : decode cX6_statement 134 = .ok (.invokevirtual 239, 3) := by decide +kernel
theorem dX6_statement_137 : decode cX6_statement 137 = .ok (.ireturn, 1) := by decide +kernel
theorem dX6_statement_138 : decode cX6_statement 138 = .ok (.aload_n 0, 1) := by decide +kernel
theorem dX6_statement_139 : decode cX6_statement 139 = .ok (.ldc 244, 2) := by decide +kernel
theorem dX6_statement_141 : decode cX6_statement 141 = .ok (.invokevirtual 216, 3) := by decide +kernel
theorem dX6_statement_144 : decode cX6_statement 144 = .ok (.ifCond .eq 34, 3) := by decide +kernel
theorem dX6_statement_147 : decode cX6_statement 147 = .ok (.aload_n 0, 1) := by decide +kernel
theorem dX6_statement_148 : decode cX6_statement 148 = .ok (.iconst 0, 1) := by decide +kernel
theorem dX6_statement_149 : decode cX6_statement 149 = .ok (.bipush 9, 2) := by decide +kernel
theorem dX6_statement_151 : decode cX6_statement 151 = .ok (.invokevirtual 211, 3) := by decide +kernel
theorem dX6_statement_154 : decode cX6_statement 154 = .ok (.istore_n 1, 1) := by decide +kernel
theorem dX6_statement_155 : decode cX6_statement 155 = .ok (.aload_n 0, 1) := by decide +kernel
theorem dX6_statement_156 : decode cX6_statement 156 = .ok (.iload_n 1, 1) := by decide +kernel
theorem dX6_statement_157 : decode cX6_statement 157 = .ok (.ifCond .eq 12, 3) := by decide +kernel
theorem dX6_statement_160 : decode cX6_statement 160 = .ok (.aload_n 0, 1) := by decide +kernel
theorem dX6_statement_161 : decode cX6_statement 161 = .ok (.getfield 74, 3) := by decide +kernel
theorem dX6_statement_164 : decode cX6_statement 164 = .ok (.iconst 0, 1) := by decide +kernel
theorem dX6_statement_165 : decode cX6_statement 165 = .ok (.iaload, 1) := by decide +kernel
theorem dX6_statement_166 : decode cX6_statement 166 = .ok (.goto 7, 3) := by decide +kernel
theorem dX6_statement_169 : decode cX6_statement 169 = .ok (.aload_n 0, 1) := by decide +kernel
theorem dX6_statement_170 : decode cX6_statement 170 = .ok (.getfield 37, 3) := by decide +kernel
theorem dX6_statement_173 : decode cX6_statement 173 = .ok (.putfield 37, 3) := by decide +kernel
theorem dX6_statement_176 : decode cX6_statement 176 = .ok (.iload_n 1, 1) := by decide +kernel
theorem dX6_statement_177 : decode cX6_statement 177 = .ok (.ireturn, 1) := by decide +kernel
theorem dX6_statement_178 : decode cX6_statement 178 = .ok (.aload_n 0, 1) := by decide +kernel
theorem dX6_statement_179 : decode cX6_statement 179 = .ok (.ldc 245, 2) := by decide +kernel
theorem dX6_statement_181 : decode cX6_statement 181 = .ok (.invokevirtual 216, 3) := by decide +kernel
theorem dX6_statement_184 : decode cX6_statement 184 = .ok (.ifCond .eq 35, 3) := by decide +kernel
theorem dX6_statement_187 : decode cX6_statement 187 = .ok (.aload_n 0, 1) := by decide +kernel
theorem dX6_statement_188 : decode cX6_statement 188 = .ok (.iconst 0, 1) := by decide +kernel
theorem dX6_statement_189 : decode cX6_statement 189 = .ok (.sipush 999, 3) := by decide +kernel
theorem dX6_statement_192 : decode cX6_statement 192 = .ok (.invokevirtual 211, 3) := by decide +kernel
theorem dX6_statement_195 : decode cX6_statement 195 = .ok (.istore_n 1, 1) := by decide +kernel
theorem dX6_statement_196 : decode cX6_statement 196 = .ok (.aload_n 0, 1) := by decide +kernel
theorem dX6_statement_197 : decode cX6_statement 197 = .ok (.iload_n 1, 1) := by decide +kernel
theorem dX6_statement_198 : decode cX6_statement 198 = .ok (.ifCond .eq 12, 3) := by decide +kernel
theorem dX6_statement_201 : decode cX6_statement 201 = .ok (.aload_n 0, 1) := by decide +kernel
theorem dX6_statement_202 : decode cX6_statement 202 = .ok (.getfield 74, 3) := by decide +kernel
theorem dX6_statement_205 : decode cX6_statement 205 = .ok (.iconst 0, 1) := by decide +kernel
theorem dX6_statement_206 : decode cX6_statement 206 = .ok (.iaload, 1) := by decide +kernel
theorem dX6_statement_207 : decode cX6_statement 207 = .ok (.goto 7, 3) := by decide +kernel
theorem dX6_statement_210 : decode cX6_statement 210 = .ok (.aload_n 0, 1) := by decide +kernel
theorem dX6_statement_211 : decode cX6_statement 211 = .ok (.getfield 161, 3) := by decide +kernel
theorem dX6_statement_214 : decode cX6_statement 214 = .ok (.putfield 161, 3) := by decide +kernel
theorem dX6_statement_217 : decode cX6_statement 217 = .ok (.iload_n 1, 1) := by decide +kernel
theorem dX6_statement_218 : decode cX6_statement 218 = .ok (.ireturn, 1) := by decide +kernel
theorem dX6_statement_219 : decode cX6_statement 219 = .ok (.aload_n 0, 1) := by decide +kernel
theorem dX6_statement_220 : decode cX6_statement 220 = .ok (.invokevirtual 200, 3) := by decide +kernel
theorem dX6_statement_223 : decode cX6_statement 223 = .ok (.ireturn, 1) := by decide +kernel
set_option maxRecDepth 100000 in
set_option maxHeartbeats 4000000 in
theorem c_X6_statement (Z : ZZ) (l : Launch) (t : Nat) (h : HP) {v : Int32} {h1 : HP} (ho : f_X6_statement t h = some (v, h1)) : MetP Z l yX6_statement cX6_statement 2 (some .boolean) 6 163 [.ref (zb Z + t)] h (some (.int v)) h1 := by
  refine MetP_of ho (by decide +kernel) (Nat.le_of_ble_eq_true rfl) [(0, .ref (zb Z + t))] rfl (own := RX6) rfl (nm := "statement") rfl ?_
  unfold f_X6_statement
  refine S_aload_n dX6_statement_0 rfl 0 rfl (pc' := 1) rfl ?_
  refine S_ldcS 10 0 rfl dX6_statement_1 rfl (pc' := 3) rfl ?_
  refine S_invi ml_X6_216 mi_X6_isWord (ci := 6) ⟨_, rfl, rfl⟩ (by decide) dX6_statement_3 [.ref (zK Z 0)] rfl (fun v h2 q => c_X6_isWord Z l _ _ _ q) ⟨Nat.le_of_ble_eq_true rfl, Nat.le_of_ble_eq_true rfl⟩ (rest := []) (Nat.le_of_ble_eq_true rfl) rfl (pc' := 6) rfl (fun x3 h3 => ?_)
  refine S_if_eq dX6_statement_6 24 rfl (pc' := 9) rfl (fun g6 => ?_) (fun g6 => ?_)
  · refine S_aload_n dX6_statement_24 rfl 0 rfl (pc' := 25) rfl ?_
    refine S_ldcS 11 1 rfl dX6_statement_25 rfl (pc' := 27) rfl ?_
    refine S_invi ml_X6_216 mi_X6_isWord (ci := 6) ⟨_, rfl, rfl⟩ (by decide) dX6_statement_27 [.ref (zK Z 1)] rfl (fun v h2 q => c_X6_isWord Z l _ _ _ q) ⟨Nat.le_of_ble_eq_true rfl, Nat.le_of_ble_eq_true rfl⟩ (rest := []) (Nat.le_of_ble_eq_true rfl) rfl (pc' := 30) rfl (fun x27 h27 => ?_)
    refine S_if_eq dX6_statement_30 48 rfl (pc' := 33) rfl (fun g30 => ?_) (fun g30 => ?_)
    · refine S_aload_n dX6_statement_48 rfl 0 rfl (pc' := 49) rfl ?_
      refine S_ldcS 12 2 rfl dX6_statement_49 rfl (pc' := 51) rfl ?_
      refine S_invi ml_X6_216 mi_X6_isWord (ci := 6) ⟨_, rfl, rfl⟩ (by decide) dX6_statement_51 [.ref (zK Z 2)] rfl (fun v h2 q => c_X6_isWord Z l _ _ _ q) ⟨Nat.le_of_ble_eq_true rfl, Nat.le_of_ble_eq_true rfl⟩ (rest := []) (Nat.le_of_ble_eq_true rfl) rfl (pc' := 54) rfl (fun x51 h51 => ?_)
      refine S_if_eq dX6_statement_54 63 rfl (pc' := 57) rfl (fun g54 => ?_) (fun g54 => ?_)
      · refine S_aload_n dX6_statement_63 rfl 0 rfl (pc' := 64) rfl ?_
        refine S_ldcS 13 3 rfl dX6_statement_64 rfl (pc' := 66) rfl ?_
        refine S_invi ml_X6_216 mi_X6_isWord (ci := 6) ⟨_, rfl, rfl⟩ (by decide) dX6_statement_66 [.ref (zK Z 3)] rfl (fun v h2 q => c_X6_isWord Z l _ _ _ q) ⟨Nat.le_of_ble_eq_true rfl, Nat.le_of_ble_eq_true rfl⟩ (rest := []) (Nat.le_of_ble_eq_true rfl) rfl (pc' := 69) rfl (fun x66 h66 => ?_)
        refine S_if_eq dX6_statement_69 78 rfl (pc' := 72) rfl (fun g69 => ?_) (fun g69 => ?_)
        · refine S_aload_n dX6_statement_78 rfl 0 rfl (pc' := 79) rfl ?_
          refine S_ldcS 14 4 rfl dX6_statement_79 rfl (pc' := 81) rfl ?_
          refine S_invi ml_X6_216 mi_X6_isWord (ci := 6) ⟨_, rfl, rfl⟩ (by decide) dX6_statement_81 [.ref (zK Z 4)] rfl (fun v h2 q => c_X6_isWord Z l _ _ _ q) ⟨Nat.le_of_ble_eq_true rfl, Nat.le_of_ble_eq_true rfl⟩ (rest := []) (Nat.le_of_ble_eq_true rfl) rfl (pc' := 84) rfl (fun x81 h81 => ?_)
          refine S_if_eq dX6_statement_84 93 rfl (pc' := 87) rfl (fun g84 => ?_) (fun g84 => ?_)
          · refine S_aload_n dX6_statement_93 rfl 0 rfl (pc' := 94) rfl ?_
            refine S_ldcS 15 5 rfl dX6_statement_94 rfl (pc' := 96) rfl ?_
            refine S_invi ml_X6_216 mi_X6_isWord (ci := 6) ⟨_, rfl, rfl⟩ (by decide) dX6_statement_96 [.ref (zK Z 5)] rfl (fun v h2 q => c_X6_isWord Z l _ _ _ q) ⟨Nat.le_of_ble_eq_true rfl, Nat.le_of_ble_eq_true rfl⟩ (rest := []) (Nat.le_of_ble_eq_true rfl) rfl (pc' := 99) rfl (fun x96 h96 => ?_)
            refine S_if_eq dX6_statement_99 108 rfl (pc' := 102) rfl (fun g99 => ?_) (fun g99 => ?_)
            · refine S_aload_n dX6_statement_108 rfl 0 rfl (pc' := 109) rfl ?_
              refine S_ldcS 16 6 rfl dX6_statement_109 rfl (pc' := 111) rfl ?_
              refine S_invi ml_X6_216 mi_X6_isWord (ci := 6) ⟨_, rfl, rfl⟩ (by decide) dX6_statement_111 [.ref (zK Z 6)] rfl (fun v h2 q => c_X6_isWord Z l _ _ _ q) ⟨Nat.le_of_ble_eq_true rfl, Nat.le_of_ble_eq_true rfl⟩ (rest := []) (Nat.le_of_ble_eq_true rfl) rfl (pc' := 114) rfl (fun x111 h111 => ?_)
              refine S_if_eq dX6_statement_114 123 rfl (pc' := 117) rfl (fun g114 => ?_) (fun g114 => ?_)
              · refine S_aload_n dX6_statement_123 rfl 0 rfl (pc' := 124) rfl ?_
                refine S_ldcS 17 7 rfl dX6_statement_124 rfl (pc' := 126) rfl ?_
                refine S_invi ml_X6_216 mi_X6_isWord (ci := 6) ⟨_, rfl, rfl⟩ (by decide) dX6_statement_126 [.ref (zK Z 7)] rfl (fun v h2 q => c_X6_isWord Z l _ _ _ q) ⟨Nat.le_of_ble_eq_true rfl, Nat.le_of_ble_eq_true rfl⟩ (rest := []) (Nat.le_of_ble_eq_true rfl) rfl (pc' := 129) rfl (fun x126 h126 => ?_)
                refine S_if_eq dX6_statement_129 138 rfl (pc' := 132) rfl (fun g129 => ?_) (fun g129 => ?_)
                · refine S_aload_n dX6_statement_138 rfl 0 rfl (pc' := 139) rfl ?_
                  refine S_ldcS 18 8 rfl dX6_statement_139 rfl (pc' := 141) rfl ?_
                  refine S_invi ml_X6_216 mi_X6_isWord (ci := 6) ⟨_, rfl, rfl⟩ (by decide) dX6_statement_141 [.ref (zK Z 8)] rfl (fun v h2 q => c_X6_isWord Z l _ _ _ q) ⟨Nat.le_of_ble_eq_true rfl, Nat.le_of_ble_eq_true rfl⟩ (rest := []) (Nat.le_of_ble_eq_true rfl) rfl (pc' := 144) rfl (fun x141 h141 => ?_)
                  refine S_if_eq dX6_statement_144 178 rfl (pc' := 147) rfl (fun g144 => ?_) (fun g144 => ?_)
                  · refine S_aload_n dX6_statement_178 rfl 0 rfl (pc' := 179) rfl ?_
                    refine S_ldcS 19 9 rfl dX6_statement_179 rfl (pc' := 181) rfl ?_
                    refine S_invi ml_X6_216 mi_X6_isWord (ci := 6) ⟨_, rfl, rfl⟩ (by decide) dX6_statement_181 [.ref (zK Z 9)] rfl (fun v h2 q => c_X6_isWord Z l _ _ _ q) ⟨Nat.le_of_ble_eq_true rfl, Nat.le_of_ble_eq_true rfl⟩ (rest := []) (Nat.le_of_ble_eq_true rfl) rfl (pc' := 184) rfl (fun x181 h181 => ?_)
                    refine S_if_eq dX6_statement_184 219 rfl (pc' := 187) rfl (fun g184 => ?_) (fun g184 => ?_)
                    · refine S_aload_n dX6_statement_219 rfl 0 rfl (pc' := 220) rfl ?_
                      refine S_invi ml_X6_200 mi_X6_wrong (ci := 6) ⟨_, rfl, rfl⟩ (by decide) dX6_statement_220 [] rfl (fun v h2 q => c_X6_wrong Z l _ _ q) ⟨Nat.le_of_ble_eq_true rfl, Nat.le_of_ble_eq_true rfl⟩ (rest := []) (Nat.le_of_ble_eq_true rfl) rfl (pc' := 223) rfl (fun x220 h220 => ?_)
                      exact S_zret rfl dX6_statement_223
                    · refine S_aload_n dX6_statement_187 rfl 0 rfl (pc' := 188) rfl ?_
                      refine S_iconst dX6_statement_188 (v := 0) rfl (pc' := 189) rfl ?_
                      refine S_sipush dX6_statement_189 (v := 999) rfl (pc' := 192) rfl ?_
                      refine S_invi ml_X6_211 mi_X6_tells (ci := 6) ⟨_, rfl, rfl⟩ (by decide) dX6_statement_192 [.int 0, .int 999] rfl (fun v h2 q => c_X6_tells Z l _ _ _ _ q) ⟨Nat.le_of_ble_eq_true rfl, Nat.le_of_ble_eq_true rfl⟩ (rest := []) (Nat.le_of_ble_eq_true rfl) rfl (pc' := 195) rfl (fun x192 h192 => ?_)
                      refine S_istore_n dX6_statement_195 rfl (by decide) (lo' := [(1, .int x192), (0, .ref (zb Z + t))]) rfl (pc' := 196) rfl ?_
                      refine S_aload_n dX6_statement_196 rfl 1 rfl (pc' := 197) rfl ?_
                      refine S_iload_n dX6_statement_197 rfl 0 rfl (pc' := 198) rfl ?_
                      refine S_if_eq dX6_statement_198 210 rfl (pc' := 201) rfl (fun g198 => ?_) (fun g198 => ?_)
                      · refine S_aload_n dX6_statement_210 rfl 1 rfl (pc' := 211) rfl ?_
                        refine S_getI fl_X6_161 rfl dX6_statement_211 (pc' := 214) rfl (fun x211 => ?_)
                        refine S_putI fl_X6_161 (by decide) rfl dX6_statement_214 (pc' := 217) rfl (fun h214 => ?_)
                        refine S_iload_n dX6_statement_217 rfl 0 rfl (pc' := 218) rfl ?_
                        exact S_zret rfl dX6_statement_218
                      · refine S_aload_n dX6_statement_201 rfl 1 rfl (pc' := 202) rfl ?_
                        refine S_getR fl_X6_74 rfl dX6_statement_202 (pc' := 205) rfl (fun x202 => ?_)
                        refine S_iconst dX6_statement_205 (v := 0) rfl (pc' := 206) rfl ?_
                        refine S_iaload dX6_statement_206 (pc' := 207) rfl (fun x206 => ?_)
                        refine S_goto dX6_statement_207 214 rfl ?_
                        refine S_putI fl_X6_161 (by decide) rfl dX6_statement_214 (pc' := 217) rfl (fun h214 => ?_)
                        refine S_iload_n dX6_statement_217 rfl 0 rfl (pc' := 218) rfl ?_
                        exact S_zret rfl dX6_statement_218
                  · refine S_aload_n dX6_statement_147 rfl 0 rfl (pc' := 148) rfl ?_
                    refine S_iconst dX6_statement_148 (v := 0) rfl (pc' := 149) rfl ?_
                    refine S_bipush dX6_statement_149 (v := 9) rfl (pc' := 151) rfl ?_
                    refine S_invi ml_X6_211 mi_X6_tells (ci := 6) ⟨_, rfl, rfl⟩ (by decide) dX6_statement_151 [.int 0, .int 9] rfl (fun v h2 q => c_X6_tells Z l _ _ _ _ q) ⟨Nat.le_of_ble_eq_true rfl, Nat.le_of_ble_eq_true rfl⟩ (rest := []) (Nat.le_of_ble_eq_true rfl) rfl (pc' := 154) rfl (fun x151 h151 => ?_)
                    refine S_istore_n dX6_statement_154 rfl (by decide) (lo' := [(1, .int x151), (0, .ref (zb Z + t))]) rfl (pc' := 155) rfl ?_
                    refine S_aload_n dX6_statement_155 rfl 1 rfl (pc' := 156) rfl ?_
                    refine S_iload_n dX6_statement_156 rfl 0 rfl (pc' := 157) rfl ?_
                    refine S_if_eq dX6_statement_157 169 rfl (pc' := 160) rfl (fun g157 => ?_) (fun g157 => ?_)
                    · refine S_aload_n dX6_statement_169 rfl 1 rfl (pc' := 170) rfl ?_
                      refine S_getI fl_X6_37 rfl dX6_statement_170 (pc' := 173) rfl (fun x170 => ?_)
                      refine S_putI fl_X6_37 (by decide) rfl dX6_statement_173 (pc' := 176) rfl (fun h173 => ?_)
                      refine S_iload_n dX6_statement_176 rfl 0 rfl (pc' := 177) rfl ?_
                      exact S_zret rfl dX6_statement_177
                    · refine S_aload_n dX6_statement_160 rfl 1 rfl (pc' := 161) rfl ?_
                      refine S_getR fl_X6_74 rfl dX6_statement_161 (pc' := 164) rfl (fun x161 => ?_)
                      refine S_iconst dX6_statement_164 (v := 0) rfl (pc' := 165) rfl ?_
                      refine S_iaload dX6_statement_165 (pc' := 166) rfl (fun x165 => ?_)
                      refine S_goto dX6_statement_166 173 rfl ?_
                      refine S_putI fl_X6_37 (by decide) rfl dX6_statement_173 (pc' := 176) rfl (fun h173 => ?_)
                      refine S_iload_n dX6_statement_176 rfl 0 rfl (pc' := 177) rfl ?_
                      exact S_zret rfl dX6_statement_177
                · refine S_aload_n dX6_statement_132 rfl 0 rfl (pc' := 133) rfl ?_
                  refine S_iconst dX6_statement_133 (v := 0) rfl (pc' := 134) rfl ?_
                  refine S_invi ml_X6_239 mi_X6_tellsHum (ci := 6) ⟨_, rfl, rfl⟩ (by decide) dX6_statement_134 [.int 0] rfl (fun v h2 q => c_X6_tellsHum Z l _ _ _ q) ⟨Nat.le_of_ble_eq_true rfl, Nat.le_of_ble_eq_true rfl⟩ (rest := []) (Nat.le_of_ble_eq_true rfl) rfl (pc' := 137) rfl (fun x134 h134 => ?_)
                  exact S_zret rfl dX6_statement_137
              · refine S_aload_n dX6_statement_117 rfl 0 rfl (pc' := 118) rfl ?_
                refine S_iconst dX6_statement_118 (v := 1) rfl (pc' := 119) rfl ?_
                refine S_invi ml_X6_239 mi_X6_tellsHum (ci := 6) ⟨_, rfl, rfl⟩ (by decide) dX6_statement_119 [.int 1] rfl (fun v h2 q => c_X6_tellsHum Z l _ _ _ q) ⟨Nat.le_of_ble_eq_true rfl, Nat.le_of_ble_eq_true rfl⟩ (rest := []) (Nat.le_of_ble_eq_true rfl) rfl (pc' := 122) rfl (fun x119 h119 => ?_)
                exact S_zret rfl dX6_statement_122
            · refine S_aload_n dX6_statement_102 rfl 0 rfl (pc' := 103) rfl ?_
              refine S_iconst dX6_statement_103 (v := 0) rfl (pc' := 104) rfl ?_
              refine S_invi ml_X6_233 mi_X6_tellsSeat (ci := 6) ⟨_, rfl, rfl⟩ (by decide) dX6_statement_104 [.int 0] rfl (fun v h2 q => c_X6_tellsSeat Z l _ _ _ q) ⟨Nat.le_of_ble_eq_true rfl, Nat.le_of_ble_eq_true rfl⟩ (rest := []) (Nat.le_of_ble_eq_true rfl) rfl (pc' := 107) rfl (fun x104 h104 => ?_)
              exact S_zret rfl dX6_statement_107
          · refine S_aload_n dX6_statement_87 rfl 0 rfl (pc' := 88) rfl ?_
            refine S_iconst dX6_statement_88 (v := 1) rfl (pc' := 89) rfl ?_
            refine S_invi ml_X6_233 mi_X6_tellsSeat (ci := 6) ⟨_, rfl, rfl⟩ (by decide) dX6_statement_89 [.int 1] rfl (fun v h2 q => c_X6_tellsSeat Z l _ _ _ q) ⟨Nat.le_of_ble_eq_true rfl, Nat.le_of_ble_eq_true rfl⟩ (rest := []) (Nat.le_of_ble_eq_true rfl) rfl (pc' := 92) rfl (fun x89 h89 => ?_)
            exact S_zret rfl dX6_statement_92
        · refine S_aload_n dX6_statement_72 rfl 0 rfl (pc' := 73) rfl ?_
          refine S_iconst dX6_statement_73 (v := (-1)) rfl (pc' := 74) rfl ?_
          refine S_invi ml_X6_227 mi_X6_tellsHas (ci := 6) ⟨_, rfl, rfl⟩ (by decide) dX6_statement_74 [.int (-1)] rfl (fun v h2 q => c_X6_tellsHas Z l _ _ _ q) ⟨Nat.le_of_ble_eq_true rfl, Nat.le_of_ble_eq_true rfl⟩ (rest := []) (Nat.le_of_ble_eq_true rfl) rfl (pc' := 77) rfl (fun x74 h74 => ?_)
          exact S_zret rfl dX6_statement_77
      · refine S_aload_n dX6_statement_57 rfl 0 rfl (pc' := 58) rfl ?_
        refine S_iconst dX6_statement_58 (v := 0) rfl (pc' := 59) rfl ?_
        refine S_invi ml_X6_227 mi_X6_tellsHas (ci := 6) ⟨_, rfl, rfl⟩ (by decide) dX6_statement_59 [.int 0] rfl (fun v h2 q => c_X6_tellsHas Z l _ _ _ q) ⟨Nat.le_of_ble_eq_true rfl, Nat.le_of_ble_eq_true rfl⟩ (rest := []) (Nat.le_of_ble_eq_true rfl) rfl (pc' := 62) rfl (fun x59 h59 => ?_)
        exact S_zret rfl dX6_statement_62
    · refine S_aload_n dX6_statement_33 rfl 0 rfl (pc' := 34) rfl ?_
      refine S_getI fl_X6_99 rfl dX6_statement_34 (pc' := 37) rfl (fun x34 => ?_)
      refine S_bipush dX6_statement_37 (v := 6) rfl (pc' := 39) rfl ?_
      refine S_icmp_ge dX6_statement_39 48 rfl (pc' := 42) rfl (fun g39 => ?_) (fun g39 => ?_)
      · refine S_aload_n dX6_statement_48 rfl 0 rfl (pc' := 49) rfl ?_
        refine S_ldcS 12 2 rfl dX6_statement_49 rfl (pc' := 51) rfl ?_
        refine S_invi ml_X6_216 mi_X6_isWord (ci := 6) ⟨_, rfl, rfl⟩ (by decide) dX6_statement_51 [.ref (zK Z 2)] rfl (fun v h2 q => c_X6_isWord Z l _ _ _ q) ⟨Nat.le_of_ble_eq_true rfl, Nat.le_of_ble_eq_true rfl⟩ (rest := []) (Nat.le_of_ble_eq_true rfl) rfl (pc' := 54) rfl (fun x51 h51 => ?_)
        refine S_if_eq dX6_statement_54 63 rfl (pc' := 57) rfl (fun g54 => ?_) (fun g54 => ?_)
        · refine S_aload_n dX6_statement_63 rfl 0 rfl (pc' := 64) rfl ?_
          refine S_ldcS 13 3 rfl dX6_statement_64 rfl (pc' := 66) rfl ?_
          refine S_invi ml_X6_216 mi_X6_isWord (ci := 6) ⟨_, rfl, rfl⟩ (by decide) dX6_statement_66 [.ref (zK Z 3)] rfl (fun v h2 q => c_X6_isWord Z l _ _ _ q) ⟨Nat.le_of_ble_eq_true rfl, Nat.le_of_ble_eq_true rfl⟩ (rest := []) (Nat.le_of_ble_eq_true rfl) rfl (pc' := 69) rfl (fun x66 h66 => ?_)
          refine S_if_eq dX6_statement_69 78 rfl (pc' := 72) rfl (fun g69 => ?_) (fun g69 => ?_)
          · refine S_aload_n dX6_statement_78 rfl 0 rfl (pc' := 79) rfl ?_
            refine S_ldcS 14 4 rfl dX6_statement_79 rfl (pc' := 81) rfl ?_
            refine S_invi ml_X6_216 mi_X6_isWord (ci := 6) ⟨_, rfl, rfl⟩ (by decide) dX6_statement_81 [.ref (zK Z 4)] rfl (fun v h2 q => c_X6_isWord Z l _ _ _ q) ⟨Nat.le_of_ble_eq_true rfl, Nat.le_of_ble_eq_true rfl⟩ (rest := []) (Nat.le_of_ble_eq_true rfl) rfl (pc' := 84) rfl (fun x81 h81 => ?_)
            refine S_if_eq dX6_statement_84 93 rfl (pc' := 87) rfl (fun g84 => ?_) (fun g84 => ?_)
            · refine S_aload_n dX6_statement_93 rfl 0 rfl (pc' := 94) rfl ?_
              refine S_ldcS 15 5 rfl dX6_statement_94 rfl (pc' := 96) rfl ?_
              refine S_invi ml_X6_216 mi_X6_isWord (ci := 6) ⟨_, rfl, rfl⟩ (by decide) dX6_statement_96 [.ref (zK Z 5)] rfl (fun v h2 q => c_X6_isWord Z l _ _ _ q) ⟨Nat.le_of_ble_eq_true rfl, Nat.le_of_ble_eq_true rfl⟩ (rest := []) (Nat.le_of_ble_eq_true rfl) rfl (pc' := 99) rfl (fun x96 h96 => ?_)
              refine S_if_eq dX6_statement_99 108 rfl (pc' := 102) rfl (fun g99 => ?_) (fun g99 => ?_)
              · refine S_aload_n dX6_statement_108 rfl 0 rfl (pc' := 109) rfl ?_
                refine S_ldcS 16 6 rfl dX6_statement_109 rfl (pc' := 111) rfl ?_
                refine S_invi ml_X6_216 mi_X6_isWord (ci := 6) ⟨_, rfl, rfl⟩ (by decide) dX6_statement_111 [.ref (zK Z 6)] rfl (fun v h2 q => c_X6_isWord Z l _ _ _ q) ⟨Nat.le_of_ble_eq_true rfl, Nat.le_of_ble_eq_true rfl⟩ (rest := []) (Nat.le_of_ble_eq_true rfl) rfl (pc' := 114) rfl (fun x111 h111 => ?_)
                refine S_if_eq dX6_statement_114 123 rfl (pc' := 117) rfl (fun g114 => ?_) (fun g114 => ?_)
                · refine S_aload_n dX6_statement_123 rfl 0 rfl (pc' := 124) rfl ?_
                  refine S_ldcS 17 7 rfl dX6_statement_124 rfl (pc' := 126) rfl ?_
                  refine S_invi ml_X6_216 mi_X6_isWord (ci := 6) ⟨_, rfl, rfl⟩ (by decide) dX6_statement_126 [.ref (zK Z 7)] rfl (fun v h2 q => c_X6_isWord Z l _ _ _ q) ⟨Nat.le_of_ble_eq_true rfl, Nat.le_of_ble_eq_true rfl⟩ (rest := []) (Nat.le_of_ble_eq_true rfl) rfl (pc' := 129) rfl (fun x126 h126 => ?_)
                  refine S_if_eq dX6_statement_129 138 rfl (pc' := 132) rfl (fun g129 => ?_) (fun g129 => ?_)
                  · refine S_aload_n dX6_statement_138 rfl 0 rfl (pc' := 139) rfl ?_
                    refine S_ldcS 18 8 rfl dX6_statement_139 rfl (pc' := 141) rfl ?_
                    refine S_invi ml_X6_216 mi_X6_isWord (ci := 6) ⟨_, rfl, rfl⟩ (by decide) dX6_statement_141 [.ref (zK Z 8)] rfl (fun v h2 q => c_X6_isWord Z l _ _ _ q) ⟨Nat.le_of_ble_eq_true rfl, Nat.le_of_ble_eq_true rfl⟩ (rest := []) (Nat.le_of_ble_eq_true rfl) rfl (pc' := 144) rfl (fun x141 h141 => ?_)
                    refine S_if_eq dX6_statement_144 178 rfl (pc' := 147) rfl (fun g144 => ?_) (fun g144 => ?_)
                    · refine S_aload_n dX6_statement_178 rfl 0 rfl (pc' := 179) rfl ?_
                      refine S_ldcS 19 9 rfl dX6_statement_179 rfl (pc' := 181) rfl ?_
                      refine S_invi ml_X6_216 mi_X6_isWord (ci := 6) ⟨_, rfl, rfl⟩ (by decide) dX6_statement_181 [.ref (zK Z 9)] rfl (fun v h2 q => c_X6_isWord Z l _ _ _ q) ⟨Nat.le_of_ble_eq_true rfl, Nat.le_of_ble_eq_true rfl⟩ (rest := []) (Nat.le_of_ble_eq_true rfl) rfl (pc' := 184) rfl (fun x181 h181 => ?_)
                      refine S_if_eq dX6_statement_184 219 rfl (pc' := 187) rfl (fun g184 => ?_) (fun g184 => ?_)
                      · refine S_aload_n dX6_statement_219 rfl 0 rfl (pc' := 220) rfl ?_
                        refine S_invi ml_X6_200 mi_X6_wrong (ci := 6) ⟨_, rfl, rfl⟩ (by decide) dX6_statement_220 [] rfl (fun v h2 q => c_X6_wrong Z l _ _ q) ⟨Nat.le_of_ble_eq_true rfl, Nat.le_of_ble_eq_true rfl⟩ (rest := []) (Nat.le_of_ble_eq_true rfl) rfl (pc' := 223) rfl (fun x220 h220 => ?_)
                        exact S_zret rfl dX6_statement_223
                      · refine S_aload_n dX6_statement_187 rfl 0 rfl (pc' := 188) rfl ?_
                        refine S_iconst dX6_statement_188 (v := 0) rfl (pc' := 189) rfl ?_
                        refine S_sipush dX6_statement_189 (v := 999) rfl (pc' := 192) rfl ?_
                        refine S_invi ml_X6_211 mi_X6_tells (ci := 6) ⟨_, rfl, rfl⟩ (by decide) dX6_statement_192 [.int 0, .int 999] rfl (fun v h2 q => c_X6_tells Z l _ _ _ _ q) ⟨Nat.le_of_ble_eq_true rfl, Nat.le_of_ble_eq_true rfl⟩ (rest := []) (Nat.le_of_ble_eq_true rfl) rfl (pc' := 195) rfl (fun x192 h192 => ?_)
                        refine S_istore_n dX6_statement_195 rfl (by decide) (lo' := [(1, .int x192), (0, .ref (zb Z + t))]) rfl (pc' := 196) rfl ?_
                        refine S_aload_n dX6_statement_196 rfl 1 rfl (pc' := 197) rfl ?_
                        refine S_iload_n dX6_statement_197 rfl 0 rfl (pc' := 198) rfl ?_
                        refine S_if_eq dX6_statement_198 210 rfl (pc' := 201) rfl (fun g198 => ?_) (fun g198 => ?_)
                        · refine S_aload_n dX6_statement_210 rfl 1 rfl (pc' := 211) rfl ?_
                          refine S_getI fl_X6_161 rfl dX6_statement_211 (pc' := 214) rfl (fun x211 => ?_)
                          refine S_putI fl_X6_161 (by decide) rfl dX6_statement_214 (pc' := 217) rfl (fun h214 => ?_)
                          refine S_iload_n dX6_statement_217 rfl 0 rfl (pc' := 218) rfl ?_
                          exact S_zret rfl dX6_statement_218
                        · refine S_aload_n dX6_statement_201 rfl 1 rfl (pc' := 202) rfl ?_
                          refine S_getR fl_X6_74 rfl dX6_statement_202 (pc' := 205) rfl (fun x202 => ?_)
                          refine S_iconst dX6_statement_205 (v := 0) rfl (pc' := 206) rfl ?_
                          refine S_iaload dX6_statement_206 (pc' := 207) rfl (fun x206 => ?_)
                          refine S_goto dX6_statement_207 214 rfl ?_
                          refine S_putI fl_X6_161 (by decide) rfl dX6_statement_214 (pc' := 217) rfl (fun h214 => ?_)
                          refine S_iload_n dX6_statement_217 rfl 0 rfl (pc' := 218) rfl ?_
                          exact S_zret rfl dX6_statement_218
                    · refine S_aload_n dX6_statement_147 rfl 0 rfl (pc' := 148) rfl ?_
                      refine S_iconst dX6_statement_148 (v := 0) rfl (pc' := 149) rfl ?_
                      refine S_bipush dX6_statement_149 (v := 9) rfl (pc' := 151) rfl ?_
                      refine S_invi ml_X6_211 mi_X6_tells (ci := 6) ⟨_, rfl, rfl⟩ (by decide) dX6_statement_151 [.int 0, .int 9] rfl (fun v h2 q => c_X6_tells Z l _ _ _ _ q) ⟨Nat.le_of_ble_eq_true rfl, Nat.le_of_ble_eq_true rfl⟩ (rest := []) (Nat.le_of_ble_eq_true rfl) rfl (pc' := 154) rfl (fun x151 h151 => ?_)
                      refine S_istore_n dX6_statement_154 rfl (by decide) (lo' := [(1, .int x151), (0, .ref (zb Z + t))]) rfl (pc' := 155) rfl ?_
                      refine S_aload_n dX6_statement_155 rfl 1 rfl (pc' := 156) rfl ?_
                      refine S_iload_n dX6_statement_156 rfl 0 rfl (pc' := 157) rfl ?_
                      refine S_if_eq dX6_statement_157 169 rfl (pc' := 160) rfl (fun g157 => ?_) (fun g157 => ?_)
                      · refine S_aload_n dX6_statement_169 rfl 1 rfl (pc' := 170) rfl ?_
                        refine S_getI fl_X6_37 rfl dX6_statement_170 (pc' := 173) rfl (fun x170 => ?_)
                        refine S_putI fl_X6_37 (by decide) rfl dX6_statement_173 (pc' := 176) rfl (fun h173 => ?_)
                        refine S_iload_n dX6_statement_176 rfl 0 rfl (pc' := 177) rfl ?_
                        exact S_zret rfl dX6_statement_177
                      · refine S_aload_n dX6_statement_160 rfl 1 rfl (pc' := 161) rfl ?_
                        refine S_getR fl_X6_74 rfl dX6_statement_161 (pc' := 164) rfl (fun x161 => ?_)
                        refine S_iconst dX6_statement_164 (v := 0) rfl (pc' := 165) rfl ?_
                        refine S_iaload dX6_statement_165 (pc' := 166) rfl (fun x165 => ?_)
                        refine S_goto dX6_statement_166 173 rfl ?_
                        refine S_putI fl_X6_37 (by decide) rfl dX6_statement_173 (pc' := 176) rfl (fun h173 => ?_)
                        refine S_iload_n dX6_statement_176 rfl 0 rfl (pc' := 177) rfl ?_
                        exact S_zret rfl dX6_statement_177
                  · refine S_aload_n dX6_statement_132 rfl 0 rfl (pc' := 133) rfl ?_
                    refine S_iconst dX6_statement_133 (v := 0) rfl (pc' := 134) rfl ?_
                    refine S_invi ml_X6_239 mi_X6_tellsHum (ci := 6) ⟨_, rfl, rfl⟩ (by decide) dX6_statement_134 [.int 0] rfl (fun v h2 q => c_X6_tellsHum Z l _ _ _ q) ⟨Nat.le_of_ble_eq_true rfl, Nat.le_of_ble_eq_true rfl⟩ (rest := []) (Nat.le_of_ble_eq_true rfl) rfl (pc' := 137) rfl (fun x134 h134 => ?_)
                    exact S_zret rfl dX6_statement_137
                · refine S_aload_n dX6_statement_117 rfl 0 rfl (pc' := 118) rfl ?_
                  refine S_iconst dX6_statement_118 (v := 1) rfl (pc' := 119) rfl ?_
                  refine S_invi ml_X6_239 mi_X6_tellsHum (ci := 6) ⟨_, rfl, rfl⟩ (by decide) dX6_statement_119 [.int 1] rfl (fun v h2 q => c_X6_tellsHum Z l _ _ _ q) ⟨Nat.le_of_ble_eq_true rfl, Nat.le_of_ble_eq_true rfl⟩ (rest := []) (Nat.le_of_ble_eq_true rfl) rfl (pc' := 122) rfl (fun x119 h119 => ?_)
                  exact S_zret rfl dX6_statement_122
              · refine S_aload_n dX6_statement_102 rfl 0 rfl (pc' := 103) rfl ?_
                refine S_iconst dX6_statement_103 (v := 0) rfl (pc' := 104) rfl ?_
                refine S_invi ml_X6_233 mi_X6_tellsSeat (ci := 6) ⟨_, rfl, rfl⟩ (by decide) dX6_statement_104 [.int 0] rfl (fun v h2 q => c_X6_tellsSeat Z l _ _ _ q) ⟨Nat.le_of_ble_eq_true rfl, Nat.le_of_ble_eq_true rfl⟩ (rest := []) (Nat.le_of_ble_eq_true rfl) rfl (pc' := 107) rfl (fun x104 h104 => ?_)
                exact S_zret rfl dX6_statement_107
            · refine S_aload_n dX6_statement_87 rfl 0 rfl (pc' := 88) rfl ?_
              refine S_iconst dX6_statement_88 (v := 1) rfl (pc' := 89) rfl ?_
              refine S_invi ml_X6_233 mi_X6_tellsSeat (ci := 6) ⟨_, rfl, rfl⟩ (by decide) dX6_statement_89 [.int 1] rfl (fun v h2 q => c_X6_tellsSeat Z l _ _ _ q) ⟨Nat.le_of_ble_eq_true rfl, Nat.le_of_ble_eq_true rfl⟩ (rest := []) (Nat.le_of_ble_eq_true rfl) rfl (pc' := 92) rfl (fun x89 h89 => ?_)
              exact S_zret rfl dX6_statement_92
          · refine S_aload_n dX6_statement_72 rfl 0 rfl (pc' := 73) rfl ?_
            refine S_iconst dX6_statement_73 (v := (-1)) rfl (pc' := 74) rfl ?_
            refine S_invi ml_X6_227 mi_X6_tellsHas (ci := 6) ⟨_, rfl, rfl⟩ (by decide) dX6_statement_74 [.int (-1)] rfl (fun v h2 q => c_X6_tellsHas Z l _ _ _ q) ⟨Nat.le_of_ble_eq_true rfl, Nat.le_of_ble_eq_true rfl⟩ (rest := []) (Nat.le_of_ble_eq_true rfl) rfl (pc' := 77) rfl (fun x74 h74 => ?_)
            exact S_zret rfl dX6_statement_77
        · refine S_aload_n dX6_statement_57 rfl 0 rfl (pc' := 58) rfl ?_
          refine S_iconst dX6_statement_58 (v := 0) rfl (pc' := 59) rfl ?_
          refine S_invi ml_X6_227 mi_X6_tellsHas (ci := 6) ⟨_, rfl, rfl⟩ (by decide) dX6_statement_59 [.int 0] rfl (fun v h2 q => c_X6_tellsHas Z l _ _ _ q) ⟨Nat.le_of_ble_eq_true rfl, Nat.le_of_ble_eq_true rfl⟩ (rest := []) (Nat.le_of_ble_eq_true rfl) rfl (pc' := 62) rfl (fun x59 h59 => ?_)
          exact S_zret rfl dX6_statement_62
      · refine S_aload_n dX6_statement_42 rfl 0 rfl (pc' := 43) rfl ?_
        refine S_iconst dX6_statement_43 (v := 0) rfl (pc' := 44) rfl ?_
        refine S_invi ml_X6_220 mi_X6_tellsNew (ci := 6) ⟨_, rfl, rfl⟩ (by decide) dX6_statement_44 [.int 0] rfl (fun v h2 q => c_X6_tellsNew Z l _ _ _ q) ⟨Nat.le_of_ble_eq_true rfl, Nat.le_of_ble_eq_true rfl⟩ (rest := []) (Nat.le_of_ble_eq_true rfl) rfl (pc' := 47) rfl (fun x44 h44 => ?_)
        exact S_zret rfl dX6_statement_47
  · refine S_aload_n dX6_statement_9 rfl 0 rfl (pc' := 10) rfl ?_
    refine S_getI fl_X6_92 rfl dX6_statement_10 (pc' := 13) rfl (fun x10 => ?_)
    refine S_bipush dX6_statement_13 (v := 8) rfl (pc' := 15) rfl ?_
    refine S_icmp_ge dX6_statement_15 24 rfl (pc' := 18) rfl (fun g15 => ?_) (fun g15 => ?_)
    · refine S_aload_n dX6_statement_24 rfl 0 rfl (pc' := 25) rfl ?_
      refine S_ldcS 11 1 rfl dX6_statement_25 rfl (pc' := 27) rfl ?_
      refine S_invi ml_X6_216 mi_X6_isWord (ci := 6) ⟨_, rfl, rfl⟩ (by decide) dX6_statement_27 [.ref (zK Z 1)] rfl (fun v h2 q => c_X6_isWord Z l _ _ _ q) ⟨Nat.le_of_ble_eq_true rfl, Nat.le_of_ble_eq_true rfl⟩ (rest := []) (Nat.le_of_ble_eq_true rfl) rfl (pc' := 30) rfl (fun x27 h27 => ?_)
      refine S_if_eq dX6_statement_30 48 rfl (pc' := 33) rfl (fun g30 => ?_) (fun g30 => ?_)
      · refine S_aload_n dX6_statement_48 rfl 0 rfl (pc' := 49) rfl ?_
        refine S_ldcS 12 2 rfl dX6_statement_49 rfl (pc' := 51) rfl ?_
        refine S_invi ml_X6_216 mi_X6_isWord (ci := 6) ⟨_, rfl, rfl⟩ (by decide) dX6_statement_51 [.ref (zK Z 2)] rfl (fun v h2 q => c_X6_isWord Z l _ _ _ q) ⟨Nat.le_of_ble_eq_true rfl, Nat.le_of_ble_eq_true rfl⟩ (rest := []) (Nat.le_of_ble_eq_true rfl) rfl (pc' := 54) rfl (fun x51 h51 => ?_)
        refine S_if_eq dX6_statement_54 63 rfl (pc' := 57) rfl (fun g54 => ?_) (fun g54 => ?_)
        · refine S_aload_n dX6_statement_63 rfl 0 rfl (pc' := 64) rfl ?_
          refine S_ldcS 13 3 rfl dX6_statement_64 rfl (pc' := 66) rfl ?_
          refine S_invi ml_X6_216 mi_X6_isWord (ci := 6) ⟨_, rfl, rfl⟩ (by decide) dX6_statement_66 [.ref (zK Z 3)] rfl (fun v h2 q => c_X6_isWord Z l _ _ _ q) ⟨Nat.le_of_ble_eq_true rfl, Nat.le_of_ble_eq_true rfl⟩ (rest := []) (Nat.le_of_ble_eq_true rfl) rfl (pc' := 69) rfl (fun x66 h66 => ?_)
          refine S_if_eq dX6_statement_69 78 rfl (pc' := 72) rfl (fun g69 => ?_) (fun g69 => ?_)
          · refine S_aload_n dX6_statement_78 rfl 0 rfl (pc' := 79) rfl ?_
            refine S_ldcS 14 4 rfl dX6_statement_79 rfl (pc' := 81) rfl ?_
            refine S_invi ml_X6_216 mi_X6_isWord (ci := 6) ⟨_, rfl, rfl⟩ (by decide) dX6_statement_81 [.ref (zK Z 4)] rfl (fun v h2 q => c_X6_isWord Z l _ _ _ q) ⟨Nat.le_of_ble_eq_true rfl, Nat.le_of_ble_eq_true rfl⟩ (rest := []) (Nat.le_of_ble_eq_true rfl) rfl (pc' := 84) rfl (fun x81 h81 => ?_)
            refine S_if_eq dX6_statement_84 93 rfl (pc' := 87) rfl (fun g84 => ?_) (fun g84 => ?_)
            · refine S_aload_n dX6_statement_93 rfl 0 rfl (pc' := 94) rfl ?_
              refine S_ldcS 15 5 rfl dX6_statement_94 rfl (pc' := 96) rfl ?_
              refine S_invi ml_X6_216 mi_X6_isWord (ci := 6) ⟨_, rfl, rfl⟩ (by decide) dX6_statement_96 [.ref (zK Z 5)] rfl (fun v h2 q => c_X6_isWord Z l _ _ _ q) ⟨Nat.le_of_ble_eq_true rfl, Nat.le_of_ble_eq_true rfl⟩ (rest := []) (Nat.le_of_ble_eq_true rfl) rfl (pc' := 99) rfl (fun x96 h96 => ?_)
              refine S_if_eq dX6_statement_99 108 rfl (pc' := 102) rfl (fun g99 => ?_) (fun g99 => ?_)
              · refine S_aload_n dX6_statement_108 rfl 0 rfl (pc' := 109) rfl ?_
                refine S_ldcS 16 6 rfl dX6_statement_109 rfl (pc' := 111) rfl ?_
                refine S_invi ml_X6_216 mi_X6_isWord (ci := 6) ⟨_, rfl, rfl⟩ (by decide) dX6_statement_111 [.ref (zK Z 6)] rfl (fun v h2 q => c_X6_isWord Z l _ _ _ q) ⟨Nat.le_of_ble_eq_true rfl, Nat.le_of_ble_eq_true rfl⟩ (rest := []) (Nat.le_of_ble_eq_true rfl) rfl (pc' := 114) rfl (fun x111 h111 => ?_)
                refine S_if_eq dX6_statement_114 123 rfl (pc' := 117) rfl (fun g114 => ?_) (fun g114 => ?_)
                · refine S_aload_n dX6_statement_123 rfl 0 rfl (pc' := 124) rfl ?_
                  refine S_ldcS 17 7 rfl dX6_statement_124 rfl (pc' := 126) rfl ?_
                  refine S_invi ml_X6_216 mi_X6_isWord (ci := 6) ⟨_, rfl, rfl⟩ (by decide) dX6_statement_126 [.ref (zK Z 7)] rfl (fun v h2 q => c_X6_isWord Z l _ _ _ q) ⟨Nat.le_of_ble_eq_true rfl, Nat.le_of_ble_eq_true rfl⟩ (rest := []) (Nat.le_of_ble_eq_true rfl) rfl (pc' := 129) rfl (fun x126 h126 => ?_)
                  refine S_if_eq dX6_statement_129 138 rfl (pc' := 132) rfl (fun g129 => ?_) (fun g129 => ?_)
                  · refine S_aload_n dX6_statement_138 rfl 0 rfl (pc' := 139) rfl ?_
                    refine S_ldcS 18 8 rfl dX6_statement_139 rfl (pc' := 141) rfl ?_
                    refine S_invi ml_X6_216 mi_X6_isWord (ci := 6) ⟨_, rfl, rfl⟩ (by decide) dX6_statement_141 [.ref (zK Z 8)] rfl (fun v h2 q => c_X6_isWord Z l _ _ _ q) ⟨Nat.le_of_ble_eq_true rfl, Nat.le_of_ble_eq_true rfl⟩ (rest := []) (Nat.le_of_ble_eq_true rfl) rfl (pc' := 144) rfl (fun x141 h141 => ?_)
                    refine S_if_eq dX6_statement_144 178 rfl (pc' := 147) rfl (fun g144 => ?_) (fun g144 => ?_)
                    · refine S_aload_n dX6_statement_178 rfl 0 rfl (pc' := 179) rfl ?_
                      refine S_ldcS 19 9 rfl dX6_statement_179 rfl (pc' := 181) rfl ?_
                      refine S_invi ml_X6_216 mi_X6_isWord (ci := 6) ⟨_, rfl, rfl⟩ (by decide) dX6_statement_181 [.ref (zK Z 9)] rfl (fun v h2 q => c_X6_isWord Z l _ _ _ q) ⟨Nat.le_of_ble_eq_true rfl, Nat.le_of_ble_eq_true rfl⟩ (rest := []) (Nat.le_of_ble_eq_true rfl) rfl (pc' := 184) rfl (fun x181 h181 => ?_)
                      refine S_if_eq dX6_statement_184 219 rfl (pc' := 187) rfl (fun g184 => ?_) (fun g184 => ?_)
                      · refine S_aload_n dX6_statement_219 rfl 0 rfl (pc' := 220) rfl ?_
                        refine S_invi ml_X6_200 mi_X6_wrong (ci := 6) ⟨_, rfl, rfl⟩ (by decide) dX6_statement_220 [] rfl (fun v h2 q => c_X6_wrong Z l _ _ q) ⟨Nat.le_of_ble_eq_true rfl, Nat.le_of_ble_eq_true rfl⟩ (rest := []) (Nat.le_of_ble_eq_true rfl) rfl (pc' := 223) rfl (fun x220 h220 => ?_)
                        exact S_zret rfl dX6_statement_223
                      · refine S_aload_n dX6_statement_187 rfl 0 rfl (pc' := 188) rfl ?_
                        refine S_iconst dX6_statement_188 (v := 0) rfl (pc' := 189) rfl ?_
                        refine S_sipush dX6_statement_189 (v := 999) rfl (pc' := 192) rfl ?_
                        refine S_invi ml_X6_211 mi_X6_tells (ci := 6) ⟨_, rfl, rfl⟩ (by decide) dX6_statement_192 [.int 0, .int 999] rfl (fun v h2 q => c_X6_tells Z l _ _ _ _ q) ⟨Nat.le_of_ble_eq_true rfl, Nat.le_of_ble_eq_true rfl⟩ (rest := []) (Nat.le_of_ble_eq_true rfl) rfl (pc' := 195) rfl (fun x192 h192 => ?_)
                        refine S_istore_n dX6_statement_195 rfl (by decide) (lo' := [(1, .int x192), (0, .ref (zb Z + t))]) rfl (pc' := 196) rfl ?_
                        refine S_aload_n dX6_statement_196 rfl 1 rfl (pc' := 197) rfl ?_
                        refine S_iload_n dX6_statement_197 rfl 0 rfl (pc' := 198) rfl ?_
                        refine S_if_eq dX6_statement_198 210 rfl (pc' := 201) rfl (fun g198 => ?_) (fun g198 => ?_)
                        · refine S_aload_n dX6_statement_210 rfl 1 rfl (pc' := 211) rfl ?_
                          refine S_getI fl_X6_161 rfl dX6_statement_211 (pc' := 214) rfl (fun x211 => ?_)
                          refine S_putI fl_X6_161 (by decide) rfl dX6_statement_214 (pc' := 217) rfl (fun h214 => ?_)
                          refine S_iload_n dX6_statement_217 rfl 0 rfl (pc' := 218) rfl ?_
                          exact S_zret rfl dX6_statement_218
                        · refine S_aload_n dX6_statement_201 rfl 1 rfl (pc' := 202) rfl ?_
                          refine S_getR fl_X6_74 rfl dX6_statement_202 (pc' := 205) rfl (fun x202 => ?_)
                          refine S_iconst dX6_statement_205 (v := 0) rfl (pc' := 206) rfl ?_
                          refine S_iaload dX6_statement_206 (pc' := 207) rfl (fun x206 => ?_)
                          refine S_goto dX6_statement_207 214 rfl ?_
                          refine S_putI fl_X6_161 (by decide) rfl dX6_statement_214 (pc' := 217) rfl (fun h214 => ?_)
                          refine S_iload_n dX6_statement_217 rfl 0 rfl (pc' := 218) rfl ?_
                          exact S_zret rfl dX6_statement_218
                    · refine S_aload_n dX6_statement_147 rfl 0 rfl (pc' := 148) rfl ?_
                      refine S_iconst dX6_statement_148 (v := 0) rfl (pc' := 149) rfl ?_
                      refine S_bipush dX6_statement_149 (v := 9) rfl (pc' := 151) rfl ?_
                      refine S_invi ml_X6_211 mi_X6_tells (ci := 6) ⟨_, rfl, rfl⟩ (by decide) dX6_statement_151 [.int 0, .int 9] rfl (fun v h2 q => c_X6_tells Z l _ _ _ _ q) ⟨Nat.le_of_ble_eq_true rfl, Nat.le_of_ble_eq_true rfl⟩ (rest := []) (Nat.le_of_ble_eq_true rfl) rfl (pc' := 154) rfl (fun x151 h151 => ?_)
                      refine S_istore_n dX6_statement_154 rfl (by decide) (lo' := [(1, .int x151), (0, .ref (zb Z + t))]) rfl (pc' := 155) rfl ?_
                      refine S_aload_n dX6_statement_155 rfl 1 rfl (pc' := 156) rfl ?_
                      refine S_iload_n dX6_statement_156 rfl 0 rfl (pc' := 157) rfl ?_
                      refine S_if_eq dX6_statement_157 169 rfl (pc' := 160) rfl (fun g157 => ?_) (fun g157 => ?_)
                      · refine S_aload_n dX6_statement_169 rfl 1 rfl (pc' := 170) rfl ?_
                        refine S_getI fl_X6_37 rfl dX6_statement_170 (pc' := 173) rfl (fun x170 => ?_)
                        refine S_putI fl_X6_37 (by decide) rfl dX6_statement_173 (pc' := 176) rfl (fun h173 => ?_)
                        refine S_iload_n dX6_statement_176 rfl 0 rfl (pc' := 177) rfl ?_
                        exact S_zret rfl dX6_statement_177
                      · refine S_aload_n dX6_statement_160 rfl 1 rfl (pc' := 161) rfl ?_
                        refine S_getR fl_X6_74 rfl dX6_statement_161 (pc' := 164) rfl (fun x161 => ?_)
                        refine S_iconst dX6_statement_164 (v := 0) rfl (pc' := 165) rfl ?_
                        refine S_iaload dX6_statement_165 (pc' := 166) rfl (fun x165 => ?_)
                        refine S_goto dX6_statement_166 173 rfl ?_
                        refine S_putI fl_X6_37 (by decide) rfl dX6_statement_173 (pc' := 176) rfl (fun h173 => ?_)
                        refine S_iload_n dX6_statement_176 rfl 0 rfl (pc' := 177) rfl ?_
                        exact S_zret rfl dX6_statement_177
                  · refine S_aload_n dX6_statement_132 rfl 0 rfl (pc' := 133) rfl ?_
                    refine S_iconst dX6_statement_133 (v := 0) rfl (pc' := 134) rfl ?_
                    refine S_invi ml_X6_239 mi_X6_tellsHum (ci := 6) ⟨_, rfl, rfl⟩ (by decide) dX6_statement_134 [.int 0] rfl (fun v h2 q => c_X6_tellsHum Z l _ _ _ q) ⟨Nat.le_of_ble_eq_true rfl, Nat.le_of_ble_eq_true rfl⟩ (rest := []) (Nat.le_of_ble_eq_true rfl) rfl (pc' := 137) rfl (fun x134 h134 => ?_)
                    exact S_zret rfl dX6_statement_137
                · refine S_aload_n dX6_statement_117 rfl 0 rfl (pc' := 118) rfl ?_
                  refine S_iconst dX6_statement_118 (v := 1) rfl (pc' := 119) rfl ?_
                  refine S_invi ml_X6_239 mi_X6_tellsHum (ci := 6) ⟨_, rfl, rfl⟩ (by decide) dX6_statement_119 [.int 1] rfl (fun v h2 q => c_X6_tellsHum Z l _ _ _ q) ⟨Nat.le_of_ble_eq_true rfl, Nat.le_of_ble_eq_true rfl⟩ (rest := []) (Nat.le_of_ble_eq_true rfl) rfl (pc' := 122) rfl (fun x119 h119 => ?_)
                  exact S_zret rfl dX6_statement_122
              · refine S_aload_n dX6_statement_102 rfl 0 rfl (pc' := 103) rfl ?_
                refine S_iconst dX6_statement_103 (v := 0) rfl (pc' := 104) rfl ?_
                refine S_invi ml_X6_233 mi_X6_tellsSeat (ci := 6) ⟨_, rfl, rfl⟩ (by decide) dX6_statement_104 [.int 0] rfl (fun v h2 q => c_X6_tellsSeat Z l _ _ _ q) ⟨Nat.le_of_ble_eq_true rfl, Nat.le_of_ble_eq_true rfl⟩ (rest := []) (Nat.le_of_ble_eq_true rfl) rfl (pc' := 107) rfl (fun x104 h104 => ?_)
                exact S_zret rfl dX6_statement_107
            · refine S_aload_n dX6_statement_87 rfl 0 rfl (pc' := 88) rfl ?_
              refine S_iconst dX6_statement_88 (v := 1) rfl (pc' := 89) rfl ?_
              refine S_invi ml_X6_233 mi_X6_tellsSeat (ci := 6) ⟨_, rfl, rfl⟩ (by decide) dX6_statement_89 [.int 1] rfl (fun v h2 q => c_X6_tellsSeat Z l _ _ _ q) ⟨Nat.le_of_ble_eq_true rfl, Nat.le_of_ble_eq_true rfl⟩ (rest := []) (Nat.le_of_ble_eq_true rfl) rfl (pc' := 92) rfl (fun x89 h89 => ?_)
              exact S_zret rfl dX6_statement_92
          · refine S_aload_n dX6_statement_72 rfl 0 rfl (pc' := 73) rfl ?_
            refine S_iconst dX6_statement_73 (v := (-1)) rfl (pc' := 74) rfl ?_
            refine S_invi ml_X6_227 mi_X6_tellsHas (ci := 6) ⟨_, rfl, rfl⟩ (by decide) dX6_statement_74 [.int (-1)] rfl (fun v h2 q => c_X6_tellsHas Z l _ _ _ q) ⟨Nat.le_of_ble_eq_true rfl, Nat.le_of_ble_eq_true rfl⟩ (rest := []) (Nat.le_of_ble_eq_true rfl) rfl (pc' := 77) rfl (fun x74 h74 => ?_)
            exact S_zret rfl dX6_statement_77
        · refine S_aload_n dX6_statement_57 rfl 0 rfl (pc' := 58) rfl ?_
          refine S_iconst dX6_statement_58 (v := 0) rfl (pc' := 59) rfl ?_
          refine S_invi ml_X6_227 mi_X6_tellsHas (ci := 6) ⟨_, rfl, rfl⟩ (by decide) dX6_statement_59 [.int 0] rfl (fun v h2 q => c_X6_tellsHas Z l _ _ _ q) ⟨Nat.le_of_ble_eq_true rfl, Nat.le_of_ble_eq_true rfl⟩ (rest := []) (Nat.le_of_ble_eq_true rfl) rfl (pc' := 62) rfl (fun x59 h59 => ?_)
          exact S_zret rfl dX6_statement_62
      · refine S_aload_n dX6_statement_33 rfl 0 rfl (pc' := 34) rfl ?_
        refine S_getI fl_X6_99 rfl dX6_statement_34 (pc' := 37) rfl (fun x34 => ?_)
        refine S_bipush dX6_statement_37 (v := 6) rfl (pc' := 39) rfl ?_
        refine S_icmp_ge dX6_statement_39 48 rfl (pc' := 42) rfl (fun g39 => ?_) (fun g39 => ?_)
        · refine S_aload_n dX6_statement_48 rfl 0 rfl (pc' := 49) rfl ?_
          refine S_ldcS 12 2 rfl dX6_statement_49 rfl (pc' := 51) rfl ?_
          refine S_invi ml_X6_216 mi_X6_isWord (ci := 6) ⟨_, rfl, rfl⟩ (by decide) dX6_statement_51 [.ref (zK Z 2)] rfl (fun v h2 q => c_X6_isWord Z l _ _ _ q) ⟨Nat.le_of_ble_eq_true rfl, Nat.le_of_ble_eq_true rfl⟩ (rest := []) (Nat.le_of_ble_eq_true rfl) rfl (pc' := 54) rfl (fun x51 h51 => ?_)
          refine S_if_eq dX6_statement_54 63 rfl (pc' := 57) rfl (fun g54 => ?_) (fun g54 => ?_)
          · refine S_aload_n dX6_statement_63 rfl 0 rfl (pc' := 64) rfl ?_
            refine S_ldcS 13 3 rfl dX6_statement_64 rfl (pc' := 66) rfl ?_
            refine S_invi ml_X6_216 mi_X6_isWord (ci := 6) ⟨_, rfl, rfl⟩ (by decide) dX6_statement_66 [.ref (zK Z 3)] rfl (fun v h2 q => c_X6_isWord Z l _ _ _ q) ⟨Nat.le_of_ble_eq_true rfl, Nat.le_of_ble_eq_true rfl⟩ (rest := []) (Nat.le_of_ble_eq_true rfl) rfl (pc' := 69) rfl (fun x66 h66 => ?_)
            refine S_if_eq dX6_statement_69 78 rfl (pc' := 72) rfl (fun g69 => ?_) (fun g69 => ?_)
            · refine S_aload_n dX6_statement_78 rfl 0 rfl (pc' := 79) rfl ?_
              refine S_ldcS 14 4 rfl dX6_statement_79 rfl (pc' := 81) rfl ?_
              refine S_invi ml_X6_216 mi_X6_isWord (ci := 6) ⟨_, rfl, rfl⟩ (by decide) dX6_statement_81 [.ref (zK Z 4)] rfl (fun v h2 q => c_X6_isWord Z l _ _ _ q) ⟨Nat.le_of_ble_eq_true rfl, Nat.le_of_ble_eq_true rfl⟩ (rest := []) (Nat.le_of_ble_eq_true rfl) rfl (pc' := 84) rfl (fun x81 h81 => ?_)
              refine S_if_eq dX6_statement_84 93 rfl (pc' := 87) rfl (fun g84 => ?_) (fun g84 => ?_)
              · refine S_aload_n dX6_statement_93 rfl 0 rfl (pc' := 94) rfl ?_
                refine S_ldcS 15 5 rfl dX6_statement_94 rfl (pc' := 96) rfl ?_
                refine S_invi ml_X6_216 mi_X6_isWord (ci := 6) ⟨_, rfl, rfl⟩ (by decide) dX6_statement_96 [.ref (zK Z 5)] rfl (fun v h2 q => c_X6_isWord Z l _ _ _ q) ⟨Nat.le_of_ble_eq_true rfl, Nat.le_of_ble_eq_true rfl⟩ (rest := []) (Nat.le_of_ble_eq_true rfl) rfl (pc' := 99) rfl (fun x96 h96 => ?_)
                refine S_if_eq dX6_statement_99 108 rfl (pc' := 102) rfl (fun g99 => ?_) (fun g99 => ?_)
                · refine S_aload_n dX6_statement_108 rfl 0 rfl (pc' := 109) rfl ?_
                  refine S_ldcS 16 6 rfl dX6_statement_109 rfl (pc' := 111) rfl ?_
                  refine S_invi ml_X6_216 mi_X6_isWord (ci := 6) ⟨_, rfl, rfl⟩ (by decide) dX6_statement_111 [.ref (zK Z 6)] rfl (fun v h2 q => c_X6_isWord Z l _ _ _ q) ⟨Nat.le_of_ble_eq_true rfl, Nat.le_of_ble_eq_true rfl⟩ (rest := []) (Nat.le_of_ble_eq_true rfl) rfl (pc' := 114) rfl (fun x111 h111 => ?_)
                  refine S_if_eq dX6_statement_114 123 rfl (pc' := 117) rfl (fun g114 => ?_) (fun g114 => ?_)
                  · refine S_aload_n dX6_statement_123 rfl 0 rfl (pc' := 124) rfl ?_
                    refine S_ldcS 17 7 rfl dX6_statement_124 rfl (pc' := 126) rfl ?_
                    refine S_invi ml_X6_216 mi_X6_isWord (ci := 6) ⟨_, rfl, rfl⟩ (by decide) dX6_statement_126 [.ref (zK Z 7)] rfl (fun v h2 q => c_X6_isWord Z l _ _ _ q) ⟨Nat.le_of_ble_eq_true rfl, Nat.le_of_ble_eq_true rfl⟩ (rest := []) (Nat.le_of_ble_eq_true rfl) rfl (pc' := 129) rfl (fun x126 h126 => ?_)
                    refine S_if_eq dX6_statement_129 138 rfl (pc' := 132) rfl (fun g129 => ?_) (fun g129 => ?_)
                    · refine S_aload_n dX6_statement_138 rfl 0 rfl (pc' := 139) rfl ?_
                      refine S_ldcS 18 8 rfl dX6_statement_139 rfl (pc' := 141) rfl ?_
                      refine S_invi ml_X6_216 mi_X6_isWord (ci := 6) ⟨_, rfl, rfl⟩ (by decide) dX6_statement_141 [.ref (zK Z 8)] rfl (fun v h2 q => c_X6_isWord Z l _ _ _ q) ⟨Nat.le_of_ble_eq_true rfl, Nat.le_of_ble_eq_true rfl⟩ (rest := []) (Nat.le_of_ble_eq_true rfl) rfl (pc' := 144) rfl (fun x141 h141 => ?_)
                      refine S_if_eq dX6_statement_144 178 rfl (pc' := 147) rfl (fun g144 => ?_) (fun g144 => ?_)
                      · refine S_aload_n dX6_statement_178 rfl 0 rfl (pc' := 179) rfl ?_
                        refine S_ldcS 19 9 rfl dX6_statement_179 rfl (pc' := 181) rfl ?_
                        refine S_invi ml_X6_216 mi_X6_isWord (ci := 6) ⟨_, rfl, rfl⟩ (by decide) dX6_statement_181 [.ref (zK Z 9)] rfl (fun v h2 q => c_X6_isWord Z l _ _ _ q) ⟨Nat.le_of_ble_eq_true rfl, Nat.le_of_ble_eq_true rfl⟩ (rest := []) (Nat.le_of_ble_eq_true rfl) rfl (pc' := 184) rfl (fun x181 h181 => ?_)
                        refine S_if_eq dX6_statement_184 219 rfl (pc' := 187) rfl (fun g184 => ?_) (fun g184 => ?_)
                        · refine S_aload_n dX6_statement_219 rfl 0 rfl (pc' := 220) rfl ?_
                          refine S_invi ml_X6_200 mi_X6_wrong (ci := 6) ⟨_, rfl, rfl⟩ (by decide) dX6_statement_220 [] rfl (fun v h2 q => c_X6_wrong Z l _ _ q) ⟨Nat.le_of_ble_eq_true rfl, Nat.le_of_ble_eq_true rfl⟩ (rest := []) (Nat.le_of_ble_eq_true rfl) rfl (pc' := 223) rfl (fun x220 h220 => ?_)
                          exact S_zret rfl dX6_statement_223
                        · refine S_aload_n dX6_statement_187 rfl 0 rfl (pc' := 188) rfl ?_
                          refine S_iconst dX6_statement_188 (v := 0) rfl (pc' := 189) rfl ?_
                          refine S_sipush dX6_statement_189 (v := 999) rfl (pc' := 192) rfl ?_
                          refine S_invi ml_X6_211 mi_X6_tells (ci := 6) ⟨_, rfl, rfl⟩ (by decide) dX6_statement_192 [.int 0, .int 999] rfl (fun v h2 q => c_X6_tells Z l _ _ _ _ q) ⟨Nat.le_of_ble_eq_true rfl, Nat.le_of_ble_eq_true rfl⟩ (rest := []) (Nat.le_of_ble_eq_true rfl) rfl (pc' := 195) rfl (fun x192 h192 => ?_)
                          refine S_istore_n dX6_statement_195 rfl (by decide) (lo' := [(1, .int x192), (0, .ref (zb Z + t))]) rfl (pc' := 196) rfl ?_
                          refine S_aload_n dX6_statement_196 rfl 1 rfl (pc' := 197) rfl ?_
                          refine S_iload_n dX6_statement_197 rfl 0 rfl (pc' := 198) rfl ?_
                          refine S_if_eq dX6_statement_198 210 rfl (pc' := 201) rfl (fun g198 => ?_) (fun g198 => ?_)
                          · refine S_aload_n dX6_statement_210 rfl 1 rfl (pc' := 211) rfl ?_
                            refine S_getI fl_X6_161 rfl dX6_statement_211 (pc' := 214) rfl (fun x211 => ?_)
                            refine S_putI fl_X6_161 (by decide) rfl dX6_statement_214 (pc' := 217) rfl (fun h214 => ?_)
                            refine S_iload_n dX6_statement_217 rfl 0 rfl (pc' := 218) rfl ?_
                            exact S_zret rfl dX6_statement_218
                          · refine S_aload_n dX6_statement_201 rfl 1 rfl (pc' := 202) rfl ?_
                            refine S_getR fl_X6_74 rfl dX6_statement_202 (pc' := 205) rfl (fun x202 => ?_)
                            refine S_iconst dX6_statement_205 (v := 0) rfl (pc' := 206) rfl ?_
                            refine S_iaload dX6_statement_206 (pc' := 207) rfl (fun x206 => ?_)
                            refine S_goto dX6_statement_207 214 rfl ?_
                            refine S_putI fl_X6_161 (by decide) rfl dX6_statement_214 (pc' := 217) rfl (fun h214 => ?_)
                            refine S_iload_n dX6_statement_217 rfl 0 rfl (pc' := 218) rfl ?_
                            exact S_zret rfl dX6_statement_218
                      · refine S_aload_n dX6_statement_147 rfl 0 rfl (pc' := 148) rfl ?_
                        refine S_iconst dX6_statement_148 (v := 0) rfl (pc' := 149) rfl ?_
                        refine S_bipush dX6_statement_149 (v := 9) rfl (pc' := 151) rfl ?_
                        refine S_invi ml_X6_211 mi_X6_tells (ci := 6) ⟨_, rfl, rfl⟩ (by decide) dX6_statement_151 [.int 0, .int 9] rfl (fun v h2 q => c_X6_tells Z l _ _ _ _ q) ⟨Nat.le_of_ble_eq_true rfl, Nat.le_of_ble_eq_true rfl⟩ (rest := []) (Nat.le_of_ble_eq_true rfl) rfl (pc' := 154) rfl (fun x151 h151 => ?_)
                        refine S_istore_n dX6_statement_154 rfl (by decide) (lo' := [(1, .int x151), (0, .ref (zb Z + t))]) rfl (pc' := 155) rfl ?_
                        refine S_aload_n dX6_statement_155 rfl 1 rfl (pc' := 156) rfl ?_
                        refine S_iload_n dX6_statement_156 rfl 0 rfl (pc' := 157) rfl ?_
                        refine S_if_eq dX6_statement_157 169 rfl (pc' := 160) rfl (fun g157 => ?_) (fun g157 => ?_)
                        · refine S_aload_n dX6_statement_169 rfl 1 rfl (pc' := 170) rfl ?_
                          refine S_getI fl_X6_37 rfl dX6_statement_170 (pc' := 173) rfl (fun x170 => ?_)
                          refine S_putI fl_X6_37 (by decide) rfl dX6_statement_173 (pc' := 176) rfl (fun h173 => ?_)
                          refine S_iload_n dX6_statement_176 rfl 0 rfl (pc' := 177) rfl ?_
                          exact S_zret rfl dX6_statement_177
                        · refine S_aload_n dX6_statement_160 rfl 1 rfl (pc' := 161) rfl ?_
                          refine S_getR fl_X6_74 rfl dX6_statement_161 (pc' := 164) rfl (fun x161 => ?_)
                          refine S_iconst dX6_statement_164 (v := 0) rfl (pc' := 165) rfl ?_
                          refine S_iaload dX6_statement_165 (pc' := 166) rfl (fun x165 => ?_)
                          refine S_goto dX6_statement_166 173 rfl ?_
                          refine S_putI fl_X6_37 (by decide) rfl dX6_statement_173 (pc' := 176) rfl (fun h173 => ?_)
                          refine S_iload_n dX6_statement_176 rfl 0 rfl (pc' := 177) rfl ?_
                          exact S_zret rfl dX6_statement_177
                    · refine S_aload_n dX6_statement_132 rfl 0 rfl (pc' := 133) rfl ?_
                      refine S_iconst dX6_statement_133 (v := 0) rfl (pc' := 134) rfl ?_
                      refine S_invi ml_X6_239 mi_X6_tellsHum (ci := 6) ⟨_, rfl, rfl⟩ (by decide) dX6_statement_134 [.int 0] rfl (fun v h2 q => c_X6_tellsHum Z l _ _ _ q) ⟨Nat.le_of_ble_eq_true rfl, Nat.le_of_ble_eq_true rfl⟩ (rest := []) (Nat.le_of_ble_eq_true rfl) rfl (pc' := 137) rfl (fun x134 h134 => ?_)
                      exact S_zret rfl dX6_statement_137
                  · refine S_aload_n dX6_statement_117 rfl 0 rfl (pc' := 118) rfl ?_
                    refine S_iconst dX6_statement_118 (v := 1) rfl (pc' := 119) rfl ?_
                    refine S_invi ml_X6_239 mi_X6_tellsHum (ci := 6) ⟨_, rfl, rfl⟩ (by decide) dX6_statement_119 [.int 1] rfl (fun v h2 q => c_X6_tellsHum Z l _ _ _ q) ⟨Nat.le_of_ble_eq_true rfl, Nat.le_of_ble_eq_true rfl⟩ (rest := []) (Nat.le_of_ble_eq_true rfl) rfl (pc' := 122) rfl (fun x119 h119 => ?_)
                    exact S_zret rfl dX6_statement_122
                · refine S_aload_n dX6_statement_102 rfl 0 rfl (pc' := 103) rfl ?_
                  refine S_iconst dX6_statement_103 (v := 0) rfl (pc' := 104) rfl ?_
                  refine S_invi ml_X6_233 mi_X6_tellsSeat (ci := 6) ⟨_, rfl, rfl⟩ (by decide) dX6_statement_104 [.int 0] rfl (fun v h2 q => c_X6_tellsSeat Z l _ _ _ q) ⟨Nat.le_of_ble_eq_true rfl, Nat.le_of_ble_eq_true rfl⟩ (rest := []) (Nat.le_of_ble_eq_true rfl) rfl (pc' := 107) rfl (fun x104 h104 => ?_)
                  exact S_zret rfl dX6_statement_107
              · refine S_aload_n dX6_statement_87 rfl 0 rfl (pc' := 88) rfl ?_
                refine S_iconst dX6_statement_88 (v := 1) rfl (pc' := 89) rfl ?_
                refine S_invi ml_X6_233 mi_X6_tellsSeat (ci := 6) ⟨_, rfl, rfl⟩ (by decide) dX6_statement_89 [.int 1] rfl (fun v h2 q => c_X6_tellsSeat Z l _ _ _ q) ⟨Nat.le_of_ble_eq_true rfl, Nat.le_of_ble_eq_true rfl⟩ (rest := []) (Nat.le_of_ble_eq_true rfl) rfl (pc' := 92) rfl (fun x89 h89 => ?_)
                exact S_zret rfl dX6_statement_92
            · refine S_aload_n dX6_statement_72 rfl 0 rfl (pc' := 73) rfl ?_
              refine S_iconst dX6_statement_73 (v := (-1)) rfl (pc' := 74) rfl ?_
              refine S_invi ml_X6_227 mi_X6_tellsHas (ci := 6) ⟨_, rfl, rfl⟩ (by decide) dX6_statement_74 [.int (-1)] rfl (fun v h2 q => c_X6_tellsHas Z l _ _ _ q) ⟨Nat.le_of_ble_eq_true rfl, Nat.le_of_ble_eq_true rfl⟩ (rest := []) (Nat.le_of_ble_eq_true rfl) rfl (pc' := 77) rfl (fun x74 h74 => ?_)
              exact S_zret rfl dX6_statement_77
          · refine S_aload_n dX6_statement_57 rfl 0 rfl (pc' := 58) rfl ?_
            refine S_iconst dX6_statement_58 (v := 0) rfl (pc' := 59) rfl ?_
            refine S_invi ml_X6_227 mi_X6_tellsHas (ci := 6) ⟨_, rfl, rfl⟩ (by decide) dX6_statement_59 [.int 0] rfl (fun v h2 q => c_X6_tellsHas Z l _ _ _ q) ⟨Nat.le_of_ble_eq_true rfl, Nat.le_of_ble_eq_true rfl⟩ (rest := []) (Nat.le_of_ble_eq_true rfl) rfl (pc' := 62) rfl (fun x59 h59 => ?_)
            exact S_zret rfl dX6_statement_62
        · refine S_aload_n dX6_statement_42 rfl 0 rfl (pc' := 43) rfl ?_
          refine S_iconst dX6_statement_43 (v := 0) rfl (pc' := 44) rfl ?_
          refine S_invi ml_X6_220 mi_X6_tellsNew (ci := 6) ⟨_, rfl, rfl⟩ (by decide) dX6_statement_44 [.int 0] rfl (fun v h2 q => c_X6_tellsNew Z l _ _ _ q) ⟨Nat.le_of_ble_eq_true rfl, Nat.le_of_ble_eq_true rfl⟩ (rest := []) (Nat.le_of_ble_eq_true rfl) rfl (pc' := 47) rfl (fun x44 h44 => ?_)
          exact S_zret rfl dX6_statement_47
    · refine S_aload_n dX6_statement_18 rfl 0 rfl (pc' := 19) rfl ?_
      refine S_iconst dX6_statement_19 (v := 1) rfl (pc' := 20) rfl ?_
      refine S_invi ml_X6_220 mi_X6_tellsNew (ci := 6) ⟨_, rfl, rfl⟩ (by decide) dX6_statement_20 [.int 1] rfl (fun v h2 q => c_X6_tellsNew Z l _ _ _ q) ⟨Nat.le_of_ble_eq_true rfl, Nat.le_of_ble_eq_true rfl⟩ (rest := []) (Nat.le_of_ble_eq_true rfl) rfl (pc' := 23) rfl (fun x20 h20 => ?_)
      exact S_zret rfl dX6_statement_23
theorem dX6_readAll_0 : decode cX6_readAll 0 = .ok (.aload_n 0, 1) := by decide +kernel
theorem dX6_readAll_1 : decode cX6_readAll 1 = .ok (.iconst 1, 1) := by decide +kernel
theorem dX6_readAll_2 : decode cX6_readAll 2 = .ok (.putfield 246, 3) := by decide +kernel
theorem dX6_readAll_5 : decode cX6_readAll 5 = .ok (.aload_n 0, 1) := by decide +kernel
theorem dX6_readAll_6 : decode cX6_readAll 6 = .ok (.iconst 0, 1) := by decide +kernel
theorem dX6_readAll_7 : decode cX6_readAll 7 = .ok (.putfield 169, 3) := by decide +kernel
theorem dX6_readAll_10 : decode cX6_readAll 10 = .ok (.aload_n 0, 1) := by decide +kernel
theorem dX6_readAll_11 : decode cX6_readAll 11 = .ok (.invokevirtual 204, 3) := by decide +kernel
theorem dX6_readAll_14 : decode cX6_readAll 14 = .ok (.aload_n 0, 1) := by decide +kernel
theorem dX6_readAll_15 : decode cX6_readAll 15 = .ok (.invokevirtual 249, 3) := by decide +kernel
theorem dX6_readAll_18 : decode cX6_readAll 18 = .ok (.ifCond .ne 5, 3) := by decide +kernel
theorem dX6_readAll_21 : decode cX6_readAll 21 = .ok (.iconst 0, 1) := by decide +kernel
theorem dX6_readAll_22 : decode cX6_readAll 22 = .ok (.ireturn, 1) := by decide +kernel
theorem dX6_readAll_23 : decode cX6_readAll 23 = .ok (.aload_n 0, 1) := by decide +kernel
theorem dX6_readAll_24 : decode cX6_readAll 24 = .ok (.getfield 178, 3) := by decide +kernel
theorem dX6_readAll_27 : decode cX6_readAll 27 = .ok (.ifCond .eq 42, 3) := by decide +kernel
theorem dX6_readAll_30 : decode cX6_readAll 30 = .ok (.aload_n 0, 1) := by decide +kernel
theorem dX6_readAll_31 : decode cX6_readAll 31 = .ok (.getfield 178, 3) := by decide +kernel
theorem dX6_readAll_34 : decode cX6_readAll 34 = .ok (.iconst 3, 1) := by decide +kernel
theorem dX6_readAll_35 : decode cX6_readAll 35 = .ok (.if_icmp .eq 8, 3) := by decide +kernel
theorem dX6_readAll_38 : decode cX6_readAll 38 = .ok (.aload_n 0, 1) := by decide +kernel
theorem dX6_readAll_39 : decode cX6_readAll 39 = .ok (.invokevirtual 200, 3) := by decide +kernel
theorem dX6_readAll_42 : decode cX6_readAll 42 = .ok (.ireturn, 1) := by decide +kernel
theorem dX6_readAll_43 : decode cX6_readAll 43 = .ok (.aload_n 0, 1) := by decide +kernel
theorem dX6_readAll_44 : decode cX6_readAll 44 = .ok (.invokevirtual 204, 3) := by decide +kernel
theorem dX6_readAll_47 : decode cX6_readAll 47 = .ok (.aload_n 0, 1) := by decide +kernel
theorem dX6_readAll_48 : decode cX6_readAll 48 = .ok (.invokevirtual 249, 3) := by decide +kernel
theorem dX6_readAll_51 : decode cX6_readAll 51 = .ok (.ifCond .ne 5, 3) := by decide +kernel
theorem dX6_readAll_54 : decode cX6_readAll 54 = .ok (.iconst 0, 1) := by decide +kernel
theorem dX6_readAll_55 : decode cX6_readAll 55 = .ok (.ireturn, 1) := by decide +kernel
theorem dX6_readAll_56 : decode cX6_readAll 56 = .ok (.aload_n 0, 1) := by decide +kernel
theorem dX6_readAll_57 : decode cX6_readAll 57 = .ok (.dup, 1) := by decide +kernel
theorem dX6_readAll_58 : decode cX6_readAll 58 = .ok (.getfield 246, 3) := by decide +kernel
theorem dX6_readAll_61 : decode cX6_readAll 61 = .ok (.iconst 1, 1) := by decide +kernel
theorem dX6_readAll_62 : decode cX6_readAll 62 = .ok (.iadd, 1) := by decide +kernel
theorem dX6_readAll_63 : decode cX6_readAll 63 = .ok (.putfield 246, 3) := by decide +kernel
theorem dX6_readAll_66 : decode cX6_readAll 66 = .ok (.goto (-43), 3) := by decide +kernel
theorem dX6_readAll_69 : decode cX6_readAll 69 = .ok (.iconst 1, 1) := by decide +kernel
theorem dX6_readAll_70 : decode cX6_readAll 70 = .ok (.ireturn, 1) := by decide +kernel
set_option maxRecDepth 100000 in
set_option maxHeartbeats 4000000 in
theorem lc_X6_readAll_23 (Z : ZZ) (l : Launch) (a0 : Nat) {args : Array Value} {h0 h1 : HP} {v0 : Int32} (K : HP → Option (Int32 × HP)) (F : HP → Option (Int32 × HP))
    (hK : ∀ (h : HP), Sim Z l cX6_readAll RX6 1 7 184 (some .boolean) "readAll" args (Mq Z args h0 h1 (some (.int v0))) h0 h1 v0 69 [] [] h (K h))
    (hF : ∀ (h : HP), Sim Z l cX6_readAll RX6 1 7 184 (some .boolean) "readAll" args (Mq Z args h0 h1 (some (.int v0))) h0 h1 v0 23 [(0, .ref (zb Z + a0))] [] h (F h)) :
    ∀ (h : HP), Sim Z l cX6_readAll RX6 1 7 184 (some .boolean) "readAll" args (Mq Z args h0 h1 (some (.int v0))) h0 h1 v0 23 [(0, .ref (zb Z + a0))] [] h (lb_X6_readAll_23 a0 K F h) := by
  intro h
  unfold lb_X6_readAll_23
  refine S_aload_n dX6_readAll_23 rfl 0 rfl (pc' := 24) rfl ?_
  refine S_getI fl_X6_178 rfl dX6_readAll_24 (pc' := 27) rfl (fun x24 => ?_)
  refine S_if_eq dX6_readAll_27 69 rfl (pc' := 30) rfl (fun g27 => ?_) (fun g27 => ?_)
  · refine Sim.sub [] rfl ?_
    exact hK _
  · refine S_aload_n dX6_readAll_30 rfl 0 rfl (pc' := 31) rfl ?_
    refine S_getI fl_X6_178 rfl dX6_readAll_31 (pc' := 34) rfl (fun x31 => ?_)
    refine S_iconst dX6_readAll_34 (v := 3) rfl (pc' := 35) rfl ?_
    refine S_icmp_eq dX6_readAll_35 43 rfl (pc' := 38) rfl (fun g35 => ?_) (fun g35 => ?_)
    · refine S_aload_n dX6_readAll_43 rfl 0 rfl (pc' := 44) rfl ?_
      refine S_invv ml_X6_204 mi_X6_look (ci := 6) ⟨_, rfl, rfl⟩ (by decide) dX6_readAll_44 [] rfl (fun v h2 q => c_X6_look Z l _ _ q) ⟨Nat.le_of_ble_eq_true rfl, Nat.le_of_ble_eq_true rfl⟩ (rest := []) (Nat.le_of_ble_eq_true rfl) rfl (pc' := 47) rfl (fun _ h44 => ?_)
      refine S_aload_n dX6_readAll_47 rfl 0 rfl (pc' := 48) rfl ?_
      refine S_invi ml_X6_249 mi_X6_statement (ci := 6) ⟨_, rfl, rfl⟩ (by decide) dX6_readAll_48 [] rfl (fun v h2 q => c_X6_statement Z l _ _ q) ⟨Nat.le_of_ble_eq_true rfl, Nat.le_of_ble_eq_true rfl⟩ (rest := []) (Nat.le_of_ble_eq_true rfl) rfl (pc' := 51) rfl (fun x48 h48 => ?_)
      refine S_if_ne dX6_readAll_51 56 rfl (pc' := 54) rfl (fun g51 => ?_) (fun g51 => ?_)
      · refine S_aload_n dX6_readAll_56 rfl 0 rfl (pc' := 57) rfl ?_
        refine S_dup dX6_readAll_57 rfl (pc' := 58) rfl ?_
        refine S_getI fl_X6_246 rfl dX6_readAll_58 (pc' := 61) rfl (fun x58 => ?_)
        refine S_iconst dX6_readAll_61 (v := 1) rfl (pc' := 62) rfl ?_
        refine S_iadd dX6_readAll_62 (pc' := 63) rfl ?_
        refine S_putI fl_X6_246 (by decide) rfl dX6_readAll_63 (pc' := 66) rfl (fun h63 => ?_)
        refine S_goto dX6_readAll_66 23 rfl ?_
        refine Sim.sub [0] rfl ?_
        exact hF _
      · refine S_iconst dX6_readAll_54 (v := 0) rfl (pc' := 55) rfl ?_
        exact S_zret rfl dX6_readAll_55
    · refine S_aload_n dX6_readAll_38 rfl 0 rfl (pc' := 39) rfl ?_
      refine S_invi ml_X6_200 mi_X6_wrong (ci := 6) ⟨_, rfl, rfl⟩ (by decide) dX6_readAll_39 [] rfl (fun v h2 q => c_X6_wrong Z l _ _ q) ⟨Nat.le_of_ble_eq_true rfl, Nat.le_of_ble_eq_true rfl⟩ (rest := []) (Nat.le_of_ble_eq_true rfl) rfl (pc' := 42) rfl (fun x39 h39 => ?_)
      exact S_zret rfl dX6_readAll_42
theorem lq_X6_readAll_23 (Z : ZZ) (l : Launch) (a0 : Nat) {args : Array Value} {h0 h1 : HP} {v0 : Int32} (K : HP → Option (Int32 × HP))
    (hK : ∀ (h : HP), Sim Z l cX6_readAll RX6 1 7 184 (some .boolean) "readAll" args (Mq Z args h0 h1 (some (.int v0))) h0 h1 v0 69 [] [] h (K h)) :
    ∀ (k : Nat) (h : HP), Sim Z l cX6_readAll RX6 1 7 184 (some .boolean) "readAll" args (Mq Z args h0 h1 (some (.int v0))) h0 h1 v0 23 [(0, .ref (zb Z + a0))] [] h (lp_X6_readAll_23 a0 K k h) := by
  intro k
  induction k with
  | zero => exact fun _ => Sim.none
  | succ k ih => exact lc_X6_readAll_23 Z l a0 K _ hK ih
set_option maxRecDepth 100000 in
set_option maxHeartbeats 4000000 in
theorem c_X6_readAll (Z : ZZ) (l : Launch) (t : Nat) (h : HP) {v : Int32} {h1 : HP} (ho : f_X6_readAll t h = some (v, h1)) : MetP Z l yX6_readAll cX6_readAll 1 (some .boolean) 7 184 [.ref (zb Z + t)] h (some (.int v)) h1 := by
  refine MetP_of ho (by decide +kernel) (Nat.le_of_ble_eq_true rfl) [(0, .ref (zb Z + t))] rfl (own := RX6) rfl (nm := "readAll") rfl ?_
  unfold f_X6_readAll
  refine S_aload_n dX6_readAll_0 rfl 0 rfl (pc' := 1) rfl ?_
  refine S_iconst dX6_readAll_1 (v := 1) rfl (pc' := 2) rfl ?_
  refine S_putI fl_X6_246 (by decide) rfl dX6_readAll_2 (pc' := 5) rfl (fun h2 => ?_)
  refine S_aload_n dX6_readAll_5 rfl 0 rfl (pc' := 6) rfl ?_
  refine S_iconst dX6_readAll_6 (v := 0) rfl (pc' := 7) rfl ?_
  refine S_putI fl_X6_169 (by decide) rfl dX6_readAll_7 (pc' := 10) rfl (fun h7 => ?_)
  refine S_aload_n dX6_readAll_10 rfl 0 rfl (pc' := 11) rfl ?_
  refine S_invv ml_X6_204 mi_X6_look (ci := 6) ⟨_, rfl, rfl⟩ (by decide) dX6_readAll_11 [] rfl (fun v h2 q => c_X6_look Z l _ _ q) ⟨Nat.le_of_ble_eq_true rfl, Nat.le_of_ble_eq_true rfl⟩ (rest := []) (Nat.le_of_ble_eq_true rfl) rfl (pc' := 14) rfl (fun _ h11 => ?_)
  refine S_aload_n dX6_readAll_14 rfl 0 rfl (pc' := 15) rfl ?_
  refine S_invi ml_X6_249 mi_X6_statement (ci := 6) ⟨_, rfl, rfl⟩ (by decide) dX6_readAll_15 [] rfl (fun v h2 q => c_X6_statement Z l _ _ q) ⟨Nat.le_of_ble_eq_true rfl, Nat.le_of_ble_eq_true rfl⟩ (rest := []) (Nat.le_of_ble_eq_true rfl) rfl (pc' := 18) rfl (fun x15 h15 => ?_)
  refine S_if_ne dX6_readAll_18 23 rfl (pc' := 21) rfl (fun g18 => ?_) (fun g18 => ?_)
  · refine Sim.sub [0] rfl ?_
    refine lq_X6_readAll_23 Z l t _ ?_ 1000 _
    intro h23_
    refine S_iconst dX6_readAll_69 (v := 1) rfl (pc' := 70) rfl ?_
    exact S_zret rfl dX6_readAll_70
  · refine S_iconst dX6_readAll_21 (v := 0) rfl (pc' := 22) rfl ?_
    exact S_zret rfl dX6_readAll_22
theorem dX6_copied_0 : decode cX6_copied 0 = .ok (.iconst 0, 1) := by decide +kernel
theorem dX6_copied_1 : decode cX6_copied 1 = .ok (.istore_n 2, 1) := by decide +kernel
theorem dX6_copied_2 : decode cX6_copied 2 = .ok (.iload_n 2, 1) := by decide +kernel
theorem dX6_copied_3 : decode cX6_copied 3 = .ok (.aload_n 0, 1) := by decide +kernel
theorem dX6_copied_4 : decode cX6_copied 4 = .ok (.arraylength, 1) := by decide +kernel
theorem dX6_copied_5 : decode cX6_copied 5 = .ok (.if_icmp .ge 15, 3) := by decide +kernel
theorem dX6_copied_8 : decode cX6_copied 8 = .ok (.aload_n 1, 1) := by decide +kernel
theorem dX6_copied_9 : decode cX6_copied 9 = .ok (.iload_n 2, 1) := by decide +kernel
theorem dX6_copied_10 : decode cX6_copied 10 = .ok (.aload_n 0, 1) := by decide +kernel
theorem dX6_copied_11 : decode cX6_copied 11 = .ok (.iload_n 2, 1) := by decide +kernel
theorem dX6_copied_12 : decode cX6_copied 12 = .ok (.iaload, 1) := by decide +kernel
theorem dX6_copied_13 : decode cX6_copied 13 = .ok (.iastore, 1) := by decide +kernel
theorem dX6_copied_14 : decode cX6_copied 14 = .ok (.iinc 2 1, 3) := by decide +kernel
theorem dX6_copied_17 : decode cX6_copied 17 = .ok (.goto (-15), 3) := by decide +kernel
theorem dX6_copied_20 : decode cX6_copied 20 = .ok (.return_, 1) := by decide +kernel
set_option maxRecDepth 100000 in
set_option maxHeartbeats 4000000 in
theorem lc_X6_copied_2 (Z : ZZ) (l : Launch) (a0 : Nat) (a1 : Nat) {args : Array Value} {h0 h1 : HP} {v0 : Unit} (K : HP → Option (Unit × HP)) (F : Int32 → HP → Option (Unit × HP))
    (hK : ∀ (h : HP), Sim Z l cX6_copied RX6 3 0 0 (none) "copied" args (Mq Z args h0 h1 (none)) h0 h1 v0 20 [] [] h (K h))
    (hF : ∀ (b2 : Int32) (h : HP), Sim Z l cX6_copied RX6 3 0 0 (none) "copied" args (Mq Z args h0 h1 (none)) h0 h1 v0 2 [(0, .ref (zb Z + a0)), (1, .ref (zb Z + a1)), (2, .int b2)] [] h (F b2 h)) :
    ∀ (b2 : Int32) (h : HP), Sim Z l cX6_copied RX6 3 0 0 (none) "copied" args (Mq Z args h0 h1 (none)) h0 h1 v0 2 [(0, .ref (zb Z + a0)), (1, .ref (zb Z + a1)), (2, .int b2)] [] h (lb_X6_copied_2 a0 a1 K F b2 h) := by
  intro b2 h
  unfold lb_X6_copied_2
  refine S_iload_n dX6_copied_2 rfl 2 rfl (pc' := 3) rfl ?_
  refine S_aload_n dX6_copied_3 rfl 0 rfl (pc' := 4) rfl ?_
  refine S_alen dX6_copied_4 (pc' := 5) rfl (fun x4 => ?_)
  refine S_icmp_ge dX6_copied_5 20 rfl (pc' := 8) rfl (fun g5 => ?_) (fun g5 => ?_)
  · refine Sim.sub [] rfl ?_
    exact hK _
  · refine S_aload_n dX6_copied_8 rfl 1 rfl (pc' := 9) rfl ?_
    refine S_iload_n dX6_copied_9 rfl 2 rfl (pc' := 10) rfl ?_
    refine S_aload_n dX6_copied_10 rfl 0 rfl (pc' := 11) rfl ?_
    refine S_iload_n dX6_copied_11 rfl 2 rfl (pc' := 12) rfl ?_
    refine S_iaload dX6_copied_12 (pc' := 13) rfl (fun x12 => ?_)
    refine S_iastore dX6_copied_13 (pc' := 14) rfl (fun h13 => ?_)
    refine S_iinc dX6_copied_14 (q := 2) rfl (v := b2 + 1) rfl (by decide) (lo' := [(2, .int (b2 + 1)), (0, .ref (zb Z + a0)), (1, .ref (zb Z + a1))]) rfl (pc' := 17) rfl ?_
    refine S_goto dX6_copied_17 2 rfl ?_
    refine Sim.sub [1, 2, 0] rfl ?_
    exact hF _ _
theorem lq_X6_copied_2 (Z : ZZ) (l : Launch) (a0 : Nat) (a1 : Nat) {args : Array Value} {h0 h1 : HP} {v0 : Unit} (K : HP → Option (Unit × HP))
    (hK : ∀ (h : HP), Sim Z l cX6_copied RX6 3 0 0 (none) "copied" args (Mq Z args h0 h1 (none)) h0 h1 v0 20 [] [] h (K h)) :
    ∀ (k : Nat) (b2 : Int32) (h : HP), Sim Z l cX6_copied RX6 3 0 0 (none) "copied" args (Mq Z args h0 h1 (none)) h0 h1 v0 2 [(0, .ref (zb Z + a0)), (1, .ref (zb Z + a1)), (2, .int b2)] [] h (lp_X6_copied_2 a0 a1 K k b2 h) := by
  intro k
  induction k with
  | zero => exact fun _ _ => Sim.none
  | succ k ih => exact lc_X6_copied_2 Z l a0 a1 K _ hK ih
set_option maxRecDepth 100000 in
set_option maxHeartbeats 4000000 in
theorem c_X6_copied (Z : ZZ) (l : Launch) (a0 : Nat) (a1 : Nat) (h : HP) {v : Unit} {h1 : HP} (ho : f_X6_copied a0 a1 h = some (v, h1)) : MetP Z l yX6_copied cX6_copied 3 (none) 0 0 [.ref (zb Z + a0), .ref (zb Z + a1)] h (none) h1 := by
  refine MetP_of ho (by decide +kernel) (Nat.le_of_ble_eq_true rfl) [(0, .ref (zb Z + a0)), (1, .ref (zb Z + a1))] rfl (own := RX6) rfl (nm := "copied") rfl ?_
  unfold f_X6_copied
  refine S_iconst dX6_copied_0 (v := 0) rfl (pc' := 1) rfl ?_
  refine S_istore_n dX6_copied_1 rfl (by decide) (lo' := [(2, .int 0), (0, .ref (zb Z + a0)), (1, .ref (zb Z + a1))]) rfl (pc' := 2) rfl ?_
  refine Sim.sub [1, 2, 0] rfl ?_
  refine lq_X6_copied_2 Z l a0 a1 _ ?_ 1000 _ _
  intro h2_
  exact S_vret rfl dX6_copied_20
theorem dX6_takeFrom_0 : decode cX6_takeFrom 0 = .ok (.aload_n 0, 1) := by decide +kernel
theorem dX6_takeFrom_1 : decode cX6_takeFrom 1 = .ok (.aload_n 1, 1) := by decide +kernel
theorem dX6_takeFrom_2 : decode cX6_takeFrom 2 = .ok (.getfield 37, 3) := by decide +kernel
theorem dX6_takeFrom_5 : decode cX6_takeFrom 5 = .ok (.putfield 37, 3) := by decide +kernel
theorem dX6_takeFrom_8 : decode cX6_takeFrom 8 = .ok (.aload_n 0, 1) := by decide +kernel
theorem dX6_takeFrom_9 : decode cX6_takeFrom 9 = .ok (.aload_n 1, 1) := by decide +kernel
theorem dX6_takeFrom_10 : decode cX6_takeFrom 10 = .ok (.getfield 161, 3) := by decide +kernel
theorem dX6_takeFrom_13 : decode cX6_takeFrom 13 = .ok (.putfield 161, 3) := by decide +kernel
theorem dX6_takeFrom_16 : decode cX6_takeFrom 16 = .ok (.aload_n 0, 1) := by decide +kernel
theorem dX6_takeFrom_17 : decode cX6_takeFrom 17 = .ok (.aload_n 1, 1) := by decide +kernel
theorem dX6_takeFrom_18 : decode cX6_takeFrom 18 = .ok (.getfield 92, 3) := by decide +kernel
theorem dX6_takeFrom_21 : decode cX6_takeFrom 21 = .ok (.putfield 92, 3) := by decide +kernel
theorem dX6_takeFrom_24 : decode cX6_takeFrom 24 = .ok (.aload_n 0, 1) := by decide +kernel
theorem dX6_takeFrom_25 : decode cX6_takeFrom 25 = .ok (.aload_n 1, 1) := by decide +kernel
theorem dX6_takeFrom_26 : decode cX6_takeFrom 26 = .ok (.getfield 99, 3) := by decide +kernel
theorem dX6_takeFrom_29 : decode cX6_takeFrom 29 = .ok (.putfield 99, 3) := by decide +kernel
theorem dX6_takeFrom_32 : decode cX6_takeFrom 32 = .ok (.aload_n 0, 1) := by decide +kernel
theorem dX6_takeFrom_33 : decode cX6_takeFrom 33 = .ok (.aload_n 1, 1) := by decide +kernel
theorem dX6_takeFrom_34 : decode cX6_takeFrom 34 = .ok (.getfield 133, 3) := by decide +kernel
theorem dX6_takeFrom_37 : decode cX6_takeFrom 37 = .ok (.putfield 133, 3) := by decide +kernel
theorem dX6_takeFrom_40 : decode cX6_takeFrom 40 = .ok (.aload_n 1, 1) := by decide +kernel
theorem dX6_takeFrom_41 : decode cX6_takeFrom 41 = .ok (.getfield 41, 3) := by decide +kernel
theorem dX6_takeFrom_44 : decode cX6_takeFrom 44 = .ok (.aload_n 0, 1) := by decide +kernel
theorem dX6_takeFrom_45 : decode cX6_takeFrom 45 = .ok (.getfield 41, 3) := by decide +kernel
theorem dX6_takeFrom_48 : decode cX6_takeFrom 48 = .ok (.invokestatic 356, 3) := by decide +kernel
theorem dX6_takeFrom_51 : decode cX6_takeFrom 51 = .ok (.aload_n 1, 1) := by decide +kernel
theorem dX6_takeFrom_52 : decode cX6_takeFrom 52 = .ok (.getfield 44, 3) := by decide +kernel
theorem dX6_takeFrom_55 : decode cX6_takeFrom 55 = .ok (.aload_n 0, 1) := by decide +kernel
theorem dX6_takeFrom_56 : decode cX6_takeFrom 56 = .ok (.getfield 44, 3) := by decide +kernel
theorem dX6_takeFrom_59 : decode cX6_takeFrom 59 = .ok (.invokestatic 356, 3) := by decide +kernel
theorem dX6_takeFrom_62 : decode cX6_takeFrom 62 = .ok (.aload_n 1, 1) := by decide +kernel
theorem dX6_takeFrom_63 : decode cX6_takeFrom 63 = .ok (.getfield 47, 3) := by decide +kernel
theorem dX6_takeFrom_66 : decode cX6_takeFrom 66 = .ok (.aload_n 0, 1) := by decide +kernel
theorem dX6_takeFrom_67 : decode cX6_takeFrom 67 = .ok (.getfield 47, 3) := by decide +kernel
theorem dX6_takeFrom_70 : decode cX6_takeFrom 70 = .ok (.invokestatic 356, 3) := by decide +kernel
theorem dX6_takeFrom_73 : decode cX6_takeFrom 73 = .ok (.aload_n 1, 1) := by decide +kernel
theorem dX6_takeFrom_74 : decode cX6_takeFrom 74 = .ok (.getfield 50, 3) := by decide +kernel
theorem dX6_takeFrom_77 : decode cX6_takeFrom 77 = .ok (.aload_n 0, 1) := by decide +kernel
theorem dX6_takeFrom_78 : decode cX6_takeFrom 78 = .ok (.getfield 50, 3) := by decide +kernel
theorem dX6_takeFrom_81 : decode cX6_takeFrom 81 = .ok (.invokestatic 356, 3) := by decide +kernel
theorem dX6_takeFrom_84 : decode cX6_takeFrom 84 = .ok (.aload_n 1, 1) := by decide +kernel
theorem dX6_takeFrom_85 : decode cX6_takeFrom 85 = .ok (.getfield 53, 3) := by decide +kernel
theorem dX6_takeFrom_88 : decode cX6_takeFrom 88 = .ok (.aload_n 0, 1) := by decide +kernel
theorem dX6_takeFrom_89 : decode cX6_takeFrom 89 = .ok (.getfield 53, 3) := by decide +kernel
theorem dX6_takeFrom_92 : decode cX6_takeFrom 92 = .ok (.invokestatic 356, 3) := by decide +kernel
theorem dX6_takeFrom_95 : decode cX6_takeFrom 95 = .ok (.aload_n 1, 1) := by decide +kernel
theorem dX6_takeFrom_96 : decode cX6_takeFrom 96 = .ok (.getfield 56, 3) := by decide +kernel
theorem dX6_takeFrom_99 : decode cX6_takeFrom 99 = .ok (.aload_n 0, 1) := by decide +kernel
theorem dX6_takeFrom_100 : decode cX6_takeFrom 100 = .ok (.getfield 56, 3) := by decide +kernel
theorem dX6_takeFrom_103 : decode cX6_takeFrom 103 = .ok (.invokestatic 356, 3) := by decide +kernel
theorem dX6_takeFrom_106 : decode cX6_takeFrom 106 = .ok (.aload_n 1, 1) := by decide +kernel
theorem dX6_takeFrom_107 : decode cX6_takeFrom 107 = .ok (.getfield 59, 3) := by decide +kernel
theorem dX6_takeFrom_110 : decode cX6_takeFrom 110 = .ok (.aload_n 0, 1) := by decide +kernel
theorem dX6_takeFrom_111 : decode cX6_takeFrom 111 = .ok (.getfield 59, 3) := by decide +kernel
theorem dX6_takeFrom_114 : decode cX6_takeFrom 114 = .ok (.invokestatic 356, 3) := by decide +kernel
theorem dX6_takeFrom_117 : decode cX6_takeFrom 117 = .ok (.aload_n 1, 1) := by decide +kernel
theorem dX6_takeFrom_118 : decode cX6_takeFrom 118 = .ok (.getfield 62, 3) := by decide +kernel
theorem dX6_takeFrom_121 : decode cX6_takeFrom 121 = .ok (.aload_n 0, 1) := by decide +kernel
theorem dX6_takeFrom_122 : decode cX6_takeFrom 122 = .ok (.getfield 62, 3) := by decide +kernel
theorem dX6_takeFrom_125 : decode cX6_takeFrom 125 = .ok (.invokestatic 356, 3) := by decide +kernel
theorem dX6_takeFrom_128 : decode cX6_takeFrom 128 = .ok (.aload_n 1, 1) := by decide +kernel
theorem dX6_takeFrom_129 : decode cX6_takeFrom 129 = .ok (.getfield 65, 3) := by decide +kernel
theorem dX6_takeFrom_132 : decode cX6_takeFrom 132 = .ok (.aload_n 0, 1) := by decide +kernel
theorem dX6_takeFrom_133 : decode cX6_takeFrom 133 = .ok (.getfield 65, 3) := by decide +kernel
theorem dX6_takeFrom_136 : decode cX6_takeFrom 136 = .ok (.invokestatic 356, 3) := by decide +kernel
theorem dX6_takeFrom_139 : decode cX6_takeFrom 139 = .ok (.aload_n 1, 1) := by decide +kernel
theorem dX6_takeFrom_140 : decode cX6_takeFrom 140 = .ok (.getfield 68, 3) := by decide +kernel
theorem dX6_takeFrom_143 : decode cX6_takeFrom 143 = .ok (.aload_n 0, 1) := by decide +kernel
theorem dX6_takeFrom_144 : decode cX6_takeFrom 144 = .ok (.getfield 68, 3) := by decide +kernel
theorem dX6_takeFrom_147 : decode cX6_takeFrom 147 = .ok (.invokestatic 356, 3) := by decide +kernel
theorem dX6_takeFrom_150 : decode cX6_takeFrom 150 = .ok (.aload_n 0, 1) := by decide +kernel
theorem dX6_takeFrom_151 : decode cX6_takeFrom 151 = .ok (.aload_n 1, 1) := by decide +kernel
theorem dX6_takeFrom_152 : decode cX6_takeFrom 152 = .ok (.getfield 71, 3) := by decide +kernel
theorem dX6_takeFrom_155 : decode cX6_takeFrom 155 = .ok (.putfield 71, 3) := by decide +kernel
theorem dX6_takeFrom_158 : decode cX6_takeFrom 158 = .ok (.return_, 1) := by decide +kernel
set_option maxRecDepth 100000 in
set_option maxHeartbeats 4000000 in
theorem c_X6_takeFrom (Z : ZZ) (l : Launch) (t : Nat) (a1 : Nat) (h : HP) {v : Unit} {h1 : HP} (ho : f_X6_takeFrom t a1 h = some (v, h1)) : MetP Z l yX6_takeFrom cX6_takeFrom 2 (none) 1 22 [.ref (zb Z + t), .ref (zb Z + a1)] h (none) h1 := by
  refine MetP_of ho (by decide +kernel) (Nat.le_of_ble_eq_true rfl) [(0, .ref (zb Z + t)), (1, .ref (zb Z + a1))] rfl (own := RX6) rfl (nm := "takeFrom") rfl ?_
  unfold f_X6_takeFrom
  refine S_aload_n dX6_takeFrom_0 rfl 0 rfl (pc' := 1) rfl ?_
  refine S_aload_n dX6_takeFrom_1 rfl 1 rfl (pc' := 2) rfl ?_
  refine S_getI fl_X6_37 rfl dX6_takeFrom_2 (pc' := 5) rfl (fun x2 => ?_)
  refine S_putI fl_X6_37 (by decide) rfl dX6_takeFrom_5 (pc' := 8) rfl (fun h5 => ?_)
  refine S_aload_n dX6_takeFrom_8 rfl 0 rfl (pc' := 9) rfl ?_
  refine S_aload_n dX6_takeFrom_9 rfl 1 rfl (pc' := 10) rfl ?_
  refine S_getI fl_X6_161 rfl dX6_takeFrom_10 (pc' := 13) rfl (fun x10 => ?_)
  refine S_putI fl_X6_161 (by decide) rfl dX6_takeFrom_13 (pc' := 16) rfl (fun h13 => ?_)
  refine S_aload_n dX6_takeFrom_16 rfl 0 rfl (pc' := 17) rfl ?_
  refine S_aload_n dX6_takeFrom_17 rfl 1 rfl (pc' := 18) rfl ?_
  refine S_getI fl_X6_92 rfl dX6_takeFrom_18 (pc' := 21) rfl (fun x18 => ?_)
  refine S_putI fl_X6_92 (by decide) rfl dX6_takeFrom_21 (pc' := 24) rfl (fun h21 => ?_)
  refine S_aload_n dX6_takeFrom_24 rfl 0 rfl (pc' := 25) rfl ?_
  refine S_aload_n dX6_takeFrom_25 rfl 1 rfl (pc' := 26) rfl ?_
  refine S_getI fl_X6_99 rfl dX6_takeFrom_26 (pc' := 29) rfl (fun x26 => ?_)
  refine S_putI fl_X6_99 (by decide) rfl dX6_takeFrom_29 (pc' := 32) rfl (fun h29 => ?_)
  refine S_aload_n dX6_takeFrom_32 rfl 0 rfl (pc' := 33) rfl ?_
  refine S_aload_n dX6_takeFrom_33 rfl 1 rfl (pc' := 34) rfl ?_
  refine S_getI fl_X6_133 rfl dX6_takeFrom_34 (pc' := 37) rfl (fun x34 => ?_)
  refine S_putI fl_X6_133 (by decide) rfl dX6_takeFrom_37 (pc' := 40) rfl (fun h37 => ?_)
  refine S_aload_n dX6_takeFrom_40 rfl 1 rfl (pc' := 41) rfl ?_
  refine S_getR fl_X6_41 rfl dX6_takeFrom_41 (pc' := 44) rfl (fun x41 => ?_)
  refine S_aload_n dX6_takeFrom_44 rfl 0 rfl (pc' := 45) rfl ?_
  refine S_getR fl_X6_41 rfl dX6_takeFrom_45 (pc' := 48) rfl (fun x45 => ?_)
  refine S_stav ml_X6_356 ms_X6_copied dX6_takeFrom_48 [.ref (zb Z + x41), .ref (zb Z + x45)] rfl (fun v h2 q => c_X6_copied Z l _ _ _ q) ⟨Nat.le_of_ble_eq_true rfl, Nat.le_of_ble_eq_true rfl⟩ (rest := []) (Nat.le_of_ble_eq_true rfl) rfl (pc' := 51) rfl (fun _ h48 => ?_)
  refine S_aload_n dX6_takeFrom_51 rfl 1 rfl (pc' := 52) rfl ?_
  refine S_getR fl_X6_44 rfl dX6_takeFrom_52 (pc' := 55) rfl (fun x52 => ?_)
  refine S_aload_n dX6_takeFrom_55 rfl 0 rfl (pc' := 56) rfl ?_
  refine S_getR fl_X6_44 rfl dX6_takeFrom_56 (pc' := 59) rfl (fun x56 => ?_)
  refine S_stav ml_X6_356 ms_X6_copied dX6_takeFrom_59 [.ref (zb Z + x52), .ref (zb Z + x56)] rfl (fun v h2 q => c_X6_copied Z l _ _ _ q) ⟨Nat.le_of_ble_eq_true rfl, Nat.le_of_ble_eq_true rfl⟩ (rest := []) (Nat.le_of_ble_eq_true rfl) rfl (pc' := 62) rfl (fun _ h59 => ?_)
  refine S_aload_n dX6_takeFrom_62 rfl 1 rfl (pc' := 63) rfl ?_
  refine S_getR fl_X6_47 rfl dX6_takeFrom_63 (pc' := 66) rfl (fun x63 => ?_)
  refine S_aload_n dX6_takeFrom_66 rfl 0 rfl (pc' := 67) rfl ?_
  refine S_getR fl_X6_47 rfl dX6_takeFrom_67 (pc' := 70) rfl (fun x67 => ?_)
  refine S_stav ml_X6_356 ms_X6_copied dX6_takeFrom_70 [.ref (zb Z + x63), .ref (zb Z + x67)] rfl (fun v h2 q => c_X6_copied Z l _ _ _ q) ⟨Nat.le_of_ble_eq_true rfl, Nat.le_of_ble_eq_true rfl⟩ (rest := []) (Nat.le_of_ble_eq_true rfl) rfl (pc' := 73) rfl (fun _ h70 => ?_)
  refine S_aload_n dX6_takeFrom_73 rfl 1 rfl (pc' := 74) rfl ?_
  refine S_getR fl_X6_50 rfl dX6_takeFrom_74 (pc' := 77) rfl (fun x74 => ?_)
  refine S_aload_n dX6_takeFrom_77 rfl 0 rfl (pc' := 78) rfl ?_
  refine S_getR fl_X6_50 rfl dX6_takeFrom_78 (pc' := 81) rfl (fun x78 => ?_)
  refine S_stav ml_X6_356 ms_X6_copied dX6_takeFrom_81 [.ref (zb Z + x74), .ref (zb Z + x78)] rfl (fun v h2 q => c_X6_copied Z l _ _ _ q) ⟨Nat.le_of_ble_eq_true rfl, Nat.le_of_ble_eq_true rfl⟩ (rest := []) (Nat.le_of_ble_eq_true rfl) rfl (pc' := 84) rfl (fun _ h81 => ?_)
  refine S_aload_n dX6_takeFrom_84 rfl 1 rfl (pc' := 85) rfl ?_
  refine S_getR fl_X6_53 rfl dX6_takeFrom_85 (pc' := 88) rfl (fun x85 => ?_)
  refine S_aload_n dX6_takeFrom_88 rfl 0 rfl (pc' := 89) rfl ?_
  refine S_getR fl_X6_53 rfl dX6_takeFrom_89 (pc' := 92) rfl (fun x89 => ?_)
  refine S_stav ml_X6_356 ms_X6_copied dX6_takeFrom_92 [.ref (zb Z + x85), .ref (zb Z + x89)] rfl (fun v h2 q => c_X6_copied Z l _ _ _ q) ⟨Nat.le_of_ble_eq_true rfl, Nat.le_of_ble_eq_true rfl⟩ (rest := []) (Nat.le_of_ble_eq_true rfl) rfl (pc' := 95) rfl (fun _ h92 => ?_)
  refine S_aload_n dX6_takeFrom_95 rfl 1 rfl (pc' := 96) rfl ?_
  refine S_getR fl_X6_56 rfl dX6_takeFrom_96 (pc' := 99) rfl (fun x96 => ?_)
  refine S_aload_n dX6_takeFrom_99 rfl 0 rfl (pc' := 100) rfl ?_
  refine S_getR fl_X6_56 rfl dX6_takeFrom_100 (pc' := 103) rfl (fun x100 => ?_)
  refine S_stav ml_X6_356 ms_X6_copied dX6_takeFrom_103 [.ref (zb Z + x96), .ref (zb Z + x100)] rfl (fun v h2 q => c_X6_copied Z l _ _ _ q) ⟨Nat.le_of_ble_eq_true rfl, Nat.le_of_ble_eq_true rfl⟩ (rest := []) (Nat.le_of_ble_eq_true rfl) rfl (pc' := 106) rfl (fun _ h103 => ?_)
  refine S_aload_n dX6_takeFrom_106 rfl 1 rfl (pc' := 107) rfl ?_
  refine S_getR fl_X6_59 rfl dX6_takeFrom_107 (pc' := 110) rfl (fun x107 => ?_)
  refine S_aload_n dX6_takeFrom_110 rfl 0 rfl (pc' := 111) rfl ?_
  refine S_getR fl_X6_59 rfl dX6_takeFrom_111 (pc' := 114) rfl (fun x111 => ?_)
  refine S_stav ml_X6_356 ms_X6_copied dX6_takeFrom_114 [.ref (zb Z + x107), .ref (zb Z + x111)] rfl (fun v h2 q => c_X6_copied Z l _ _ _ q) ⟨Nat.le_of_ble_eq_true rfl, Nat.le_of_ble_eq_true rfl⟩ (rest := []) (Nat.le_of_ble_eq_true rfl) rfl (pc' := 117) rfl (fun _ h114 => ?_)
  refine S_aload_n dX6_takeFrom_117 rfl 1 rfl (pc' := 118) rfl ?_
  refine S_getR fl_X6_62 rfl dX6_takeFrom_118 (pc' := 121) rfl (fun x118 => ?_)
  refine S_aload_n dX6_takeFrom_121 rfl 0 rfl (pc' := 122) rfl ?_
  refine S_getR fl_X6_62 rfl dX6_takeFrom_122 (pc' := 125) rfl (fun x122 => ?_)
  refine S_stav ml_X6_356 ms_X6_copied dX6_takeFrom_125 [.ref (zb Z + x118), .ref (zb Z + x122)] rfl (fun v h2 q => c_X6_copied Z l _ _ _ q) ⟨Nat.le_of_ble_eq_true rfl, Nat.le_of_ble_eq_true rfl⟩ (rest := []) (Nat.le_of_ble_eq_true rfl) rfl (pc' := 128) rfl (fun _ h125 => ?_)
  refine S_aload_n dX6_takeFrom_128 rfl 1 rfl (pc' := 129) rfl ?_
  refine S_getR fl_X6_65 rfl dX6_takeFrom_129 (pc' := 132) rfl (fun x129 => ?_)
  refine S_aload_n dX6_takeFrom_132 rfl 0 rfl (pc' := 133) rfl ?_
  refine S_getR fl_X6_65 rfl dX6_takeFrom_133 (pc' := 136) rfl (fun x133 => ?_)
  refine S_stav ml_X6_356 ms_X6_copied dX6_takeFrom_136 [.ref (zb Z + x129), .ref (zb Z + x133)] rfl (fun v h2 q => c_X6_copied Z l _ _ _ q) ⟨Nat.le_of_ble_eq_true rfl, Nat.le_of_ble_eq_true rfl⟩ (rest := []) (Nat.le_of_ble_eq_true rfl) rfl (pc' := 139) rfl (fun _ h136 => ?_)
  refine S_aload_n dX6_takeFrom_139 rfl 1 rfl (pc' := 140) rfl ?_
  refine S_getR fl_X6_68 rfl dX6_takeFrom_140 (pc' := 143) rfl (fun x140 => ?_)
  refine S_aload_n dX6_takeFrom_143 rfl 0 rfl (pc' := 144) rfl ?_
  refine S_getR fl_X6_68 rfl dX6_takeFrom_144 (pc' := 147) rfl (fun x144 => ?_)
  refine S_stav ml_X6_356 ms_X6_copied dX6_takeFrom_147 [.ref (zb Z + x140), .ref (zb Z + x144)] rfl (fun v h2 q => c_X6_copied Z l _ _ _ q) ⟨Nat.le_of_ble_eq_true rfl, Nat.le_of_ble_eq_true rfl⟩ (rest := []) (Nat.le_of_ble_eq_true rfl) rfl (pc' := 150) rfl (fun _ h147 => ?_)
  refine S_aload_n dX6_takeFrom_150 rfl 0 rfl (pc' := 151) rfl ?_
  refine S_aload_n dX6_takeFrom_151 rfl 1 rfl (pc' := 152) rfl ?_
  refine S_getI fl_X6_71 rfl dX6_takeFrom_152 (pc' := 155) rfl (fun x152 => ?_)
  refine S_putI fl_X6_71 (by decide) rfl dX6_takeFrom_155 (pc' := 158) rfl (fun h155 => ?_)
  exact S_vret rfl dX6_takeFrom_158
theorem dX6_isle_0 : decode cX6_isle 0 = .ok (.aload_n 0, 1) := by decide +kernel
theorem dX6_isle_1 : decode cX6_isle 1 = .ok (.getfield 252, 3) := by decide +kernel
theorem dX6_isle_4 : decode cX6_isle 4 = .ok (.ifnonnull 14, 3) := by decide +kernel
theorem dX6_isle_7 : decode cX6_isle 7 = .ok (.aload_n 0, 1) := by decide +kernel
theorem dX6_isle_8 : decode cX6_isle 8 = .ok (.new 8, 3) := by decide +kernel
theorem dX6_isle_11 : decode cX6_isle 11 = .ok (.dup, 1) := by decide +kernel
theorem dX6_isle_12 : decode cX6_isle 12 = .ok (.invokespecial 256, 3) := by decide +kernel
theorem dX6_isle_15 : decode cX6_isle 15 = .ok (.putfield 252, 3) := by decide +kernel
theorem dX6_isle_18 : decode cX6_isle 18 = .ok (.aload_n 0, 1) := by decide +kernel
theorem dX6_isle_19 : decode cX6_isle 19 = .ok (.getfield 252, 3) := by decide +kernel
theorem dX6_isle_22 : decode cX6_isle 22 = .ok (.aload_n 0, 1) := by decide +kernel
theorem dX6_isle_23 : decode cX6_isle 23 = .ok (.invokevirtual 257, 3) := by decide +kernel
theorem dX6_isle_26 : decode cX6_isle 26 = .ok (.aload_n 0, 1) := by decide +kernel
theorem dX6_isle_27 : decode cX6_isle 27 = .ok (.invokevirtual 261, 3) := by decide +kernel
theorem dX6_isle_30 : decode cX6_isle 30 = .ok (.istore_n 1, 1) := by decide +kernel
theorem dX6_isle_31 : decode cX6_isle 31 = .ok (.aload_n 0, 1) := by decide +kernel
theorem dX6_isle_32 : decode cX6_isle 32 = .ok (.iconst 0, 1) := by decide +kernel
theorem dX6_isle_33 : decode cX6_isle 33 = .ok (.putfield 166, 3) := by decide +kernel
theorem dX6_isle_36 : decode cX6_isle 36 = .ok (.iload_n 1, 1) := by decide +kernel
theorem dX6_isle_37 : decode cX6_isle 37 = .ok (.ifCond .ne 26, 3) := by decide +kernel
theorem dX6_isle_40 : decode cX6_isle 40 = .ok (.aload_n 0, 1) := by decide +kernel
theorem dX6_isle_41 : decode cX6_isle 41 = .ok (.aload_n 0, 1) := by decide +kernel
theorem dX6_isle_42 : decode cX6_isle 42 = .ok (.getfield 252, 3) := by decide +kernel
theorem dX6_isle_45 : decode cX6_isle 45 = .ok (.invokevirtual 257, 3) := by decide +kernel
theorem dX6_isle_48 : decode cX6_isle 48 = .ok (.aload_n 0, 1) := by decide +kernel
theorem dX6_isle_49 : decode cX6_isle 49 = .ok (.bipush (-2), 2) := by decide +kernel
theorem dX6_isle_51 : decode cX6_isle 51 = .ok (.invokevirtual 108, 3) := by decide +kernel
theorem dX6_isle_54 : decode cX6_isle 54 = .ok (.pop, 1) := by decide +kernel
theorem dX6_isle_55 : decode cX6_isle 55 = .ok (.bipush (-20), 2) := by decide +kernel
theorem dX6_isle_57 : decode cX6_isle 57 = .ok (.aload_n 0, 1) := by decide +kernel
theorem dX6_isle_58 : decode cX6_isle 58 = .ok (.getfield 187, 3) := by decide +kernel
theorem dX6_isle_61 : decode cX6_isle 61 = .ok (.isub, 1) := by decide +kernel
theorem dX6_isle_62 : decode cX6_isle 62 = .ok (.ireturn, 1) := by decide +kernel
theorem dX6_isle_63 : decode cX6_isle 63 = .ok (.aload_n 0, 1) := by decide +kernel
theorem dX6_isle_64 : decode cX6_isle 64 = .ok (.getfield 246, 3) := by decide +kernel
theorem dX6_isle_67 : decode cX6_isle 67 = .ok (.ireturn, 1) := by decide +kernel
set_option maxRecDepth 100000 in
set_option maxHeartbeats 4000000 in
theorem c_X6_isle (Z : ZZ) (l : Launch) (t : Nat) (h : HP) {v : Int32} {h1 : HP} (ho : f_X6_isle t h = some (v, h1)) : MetP Z l yX6_isle cX6_isle 2 (some .int) 8 204 [.ref (zb Z + t)] h (some (.int v)) h1 := by
  refine MetP_of ho (by decide +kernel) (Nat.le_of_ble_eq_true rfl) [(0, .ref (zb Z + t))] rfl (own := RX6) rfl (nm := "isle") rfl ?_
  unfold f_X6_isle
  refine S_aload_n dX6_isle_0 rfl 0 rfl (pc' := 1) rfl ?_
  refine S_getN fl_X6_252 rfl dX6_isle_1 (pc' := 4) rfl dX6_isle_4 18 rfl (pc2 := 7) rfl ?_ ?_
  · refine S_aload_n dX6_isle_7 rfl 0 rfl (pc' := 8) rfl ?_
    refine S_new nc_X6_8 dX6_isle_8 (pc' := 11) rfl (fun x8 h8 => ?_)
    refine S_dup dX6_isle_11 rfl (pc' := 12) rfl ?_
    refine S_ctor ml_X6_256 rfl mc_X6_init dX6_isle_12 [] rfl (fun v h2 q => c_X6_init Z l _ _ q) ⟨Nat.le_of_ble_eq_true rfl, Nat.le_of_ble_eq_true rfl⟩ (rest := [.ref (zb Z + x8), .ref (zb Z + t)]) (Nat.le_of_ble_eq_true rfl) rfl (pc' := 15) rfl (fun _ h12 => ?_)
    refine S_putR fl_X6_252 (Or.inl ⟨_, rfl⟩) (fun q => by cases q) (by decide) rfl dX6_isle_15 (pc' := 18) rfl (fun h15 => ?_)
    refine S_aload_n dX6_isle_18 rfl 0 rfl (pc' := 19) rfl ?_
    refine S_getR fl_X6_252 rfl dX6_isle_19 (pc' := 22) rfl (fun x19 => ?_)
    refine S_aload_n dX6_isle_22 rfl 0 rfl (pc' := 23) rfl ?_
    refine S_invv ml_X6_257 mi_X6_takeFrom (ci := 6) ⟨_, rfl, rfl⟩ (by decide) dX6_isle_23 [.ref (zb Z + t)] rfl (fun v h2 q => c_X6_takeFrom Z l _ _ _ q) ⟨Nat.le_of_ble_eq_true rfl, Nat.le_of_ble_eq_true rfl⟩ (rest := []) (Nat.le_of_ble_eq_true rfl) rfl (pc' := 26) rfl (fun _ h23 => ?_)
    refine S_aload_n dX6_isle_26 rfl 0 rfl (pc' := 27) rfl ?_
    refine S_invi ml_X6_261 mi_X6_readAll (ci := 6) ⟨_, rfl, rfl⟩ (by decide) dX6_isle_27 [] rfl (fun v h2 q => c_X6_readAll Z l _ _ q) ⟨Nat.le_of_ble_eq_true rfl, Nat.le_of_ble_eq_true rfl⟩ (rest := []) (Nat.le_of_ble_eq_true rfl) rfl (pc' := 30) rfl (fun x27 h27 => ?_)
    refine S_istore_n dX6_isle_30 rfl (by decide) (lo' := [(1, .int x27), (0, .ref (zb Z + t))]) rfl (pc' := 31) rfl ?_
    refine S_aload_n dX6_isle_31 rfl 1 rfl (pc' := 32) rfl ?_
    refine S_iconst dX6_isle_32 (v := 0) rfl (pc' := 33) rfl ?_
    refine S_putI fl_X6_166 (by decide) rfl dX6_isle_33 (pc' := 36) rfl (fun h33 => ?_)
    refine S_iload_n dX6_isle_36 rfl 0 rfl (pc' := 37) rfl ?_
    refine S_if_ne dX6_isle_37 63 rfl (pc' := 40) rfl (fun g37 => ?_) (fun g37 => ?_)
    · refine S_aload_n dX6_isle_63 rfl 1 rfl (pc' := 64) rfl ?_
      refine S_getI fl_X6_246 rfl dX6_isle_64 (pc' := 67) rfl (fun x64 => ?_)
      exact S_iret rfl dX6_isle_67
    · refine S_aload_n dX6_isle_40 rfl 1 rfl (pc' := 41) rfl ?_
      refine S_aload_n dX6_isle_41 rfl 1 rfl (pc' := 42) rfl ?_
      refine S_getR fl_X6_252 rfl dX6_isle_42 (pc' := 45) rfl (fun x42 => ?_)
      refine S_invv ml_X6_257 mi_X6_takeFrom (ci := 6) ⟨_, rfl, rfl⟩ (by decide) dX6_isle_45 [.ref (zb Z + x42)] rfl (fun v h2 q => c_X6_takeFrom Z l _ _ _ q) ⟨Nat.le_of_ble_eq_true rfl, Nat.le_of_ble_eq_true rfl⟩ (rest := []) (Nat.le_of_ble_eq_true rfl) rfl (pc' := 48) rfl (fun _ h45 => ?_)
      refine S_aload_n dX6_isle_48 rfl 1 rfl (pc' := 49) rfl ?_
      refine S_bipush dX6_isle_49 (v := (-2)) rfl (pc' := 51) rfl ?_
      refine S_invi ml_X6_108 mi_X6_refuse (ci := 6) ⟨_, rfl, rfl⟩ (by decide) dX6_isle_51 [.int (-2)] rfl (fun v h2 q => c_X6_refuse Z l _ _ _ q) ⟨Nat.le_of_ble_eq_true rfl, Nat.le_of_ble_eq_true rfl⟩ (rest := []) (Nat.le_of_ble_eq_true rfl) rfl (pc' := 54) rfl (fun x51 h51 => ?_)
      refine S_pop dX6_isle_54 rfl (pc' := 55) rfl ?_
      refine S_bipush dX6_isle_55 (v := (-20)) rfl (pc' := 57) rfl ?_
      refine S_aload_n dX6_isle_57 rfl 1 rfl (pc' := 58) rfl ?_
      refine S_getI fl_X6_187 rfl dX6_isle_58 (pc' := 61) rfl (fun x58 => ?_)
      refine S_isub dX6_isle_61 (pc' := 62) rfl ?_
      exact S_iret rfl dX6_isle_62
  · refine S_aload_n dX6_isle_18 rfl 0 rfl (pc' := 19) rfl ?_
    refine S_getR fl_X6_252 rfl dX6_isle_19 (pc' := 22) rfl (fun x19 => ?_)
    refine S_aload_n dX6_isle_22 rfl 0 rfl (pc' := 23) rfl ?_
    refine S_invv ml_X6_257 mi_X6_takeFrom (ci := 6) ⟨_, rfl, rfl⟩ (by decide) dX6_isle_23 [.ref (zb Z + t)] rfl (fun v h2 q => c_X6_takeFrom Z l _ _ _ q) ⟨Nat.le_of_ble_eq_true rfl, Nat.le_of_ble_eq_true rfl⟩ (rest := []) (Nat.le_of_ble_eq_true rfl) rfl (pc' := 26) rfl (fun _ h23 => ?_)
    refine S_aload_n dX6_isle_26 rfl 0 rfl (pc' := 27) rfl ?_
    refine S_invi ml_X6_261 mi_X6_readAll (ci := 6) ⟨_, rfl, rfl⟩ (by decide) dX6_isle_27 [] rfl (fun v h2 q => c_X6_readAll Z l _ _ q) ⟨Nat.le_of_ble_eq_true rfl, Nat.le_of_ble_eq_true rfl⟩ (rest := []) (Nat.le_of_ble_eq_true rfl) rfl (pc' := 30) rfl (fun x27 h27 => ?_)
    refine S_istore_n dX6_isle_30 rfl (by decide) (lo' := [(1, .int x27), (0, .ref (zb Z + t))]) rfl (pc' := 31) rfl ?_
    refine S_aload_n dX6_isle_31 rfl 1 rfl (pc' := 32) rfl ?_
    refine S_iconst dX6_isle_32 (v := 0) rfl (pc' := 33) rfl ?_
    refine S_putI fl_X6_166 (by decide) rfl dX6_isle_33 (pc' := 36) rfl (fun h33 => ?_)
    refine S_iload_n dX6_isle_36 rfl 0 rfl (pc' := 37) rfl ?_
    refine S_if_ne dX6_isle_37 63 rfl (pc' := 40) rfl (fun g37 => ?_) (fun g37 => ?_)
    · refine S_aload_n dX6_isle_63 rfl 1 rfl (pc' := 64) rfl ?_
      refine S_getI fl_X6_246 rfl dX6_isle_64 (pc' := 67) rfl (fun x64 => ?_)
      exact S_iret rfl dX6_isle_67
    · refine S_aload_n dX6_isle_40 rfl 1 rfl (pc' := 41) rfl ?_
      refine S_aload_n dX6_isle_41 rfl 1 rfl (pc' := 42) rfl ?_
      refine S_getR fl_X6_252 rfl dX6_isle_42 (pc' := 45) rfl (fun x42 => ?_)
      refine S_invv ml_X6_257 mi_X6_takeFrom (ci := 6) ⟨_, rfl, rfl⟩ (by decide) dX6_isle_45 [.ref (zb Z + x42)] rfl (fun v h2 q => c_X6_takeFrom Z l _ _ _ q) ⟨Nat.le_of_ble_eq_true rfl, Nat.le_of_ble_eq_true rfl⟩ (rest := []) (Nat.le_of_ble_eq_true rfl) rfl (pc' := 48) rfl (fun _ h45 => ?_)
      refine S_aload_n dX6_isle_48 rfl 1 rfl (pc' := 49) rfl ?_
      refine S_bipush dX6_isle_49 (v := (-2)) rfl (pc' := 51) rfl ?_
      refine S_invi ml_X6_108 mi_X6_refuse (ci := 6) ⟨_, rfl, rfl⟩ (by decide) dX6_isle_51 [.int (-2)] rfl (fun v h2 q => c_X6_refuse Z l _ _ _ q) ⟨Nat.le_of_ble_eq_true rfl, Nat.le_of_ble_eq_true rfl⟩ (rest := []) (Nat.le_of_ble_eq_true rfl) rfl (pc' := 54) rfl (fun x51 h51 => ?_)
      refine S_pop dX6_isle_54 rfl (pc' := 55) rfl ?_
      refine S_bipush dX6_isle_55 (v := (-20)) rfl (pc' := 57) rfl ?_
      refine S_aload_n dX6_isle_57 rfl 1 rfl (pc' := 58) rfl ?_
      refine S_getI fl_X6_187 rfl dX6_isle_58 (pc' := 61) rfl (fun x58 => ?_)
      refine S_isub dX6_isle_61 (pc' := 62) rfl ?_
      exact S_iret rfl dX6_isle_62
theorem dX6_holdOf_0 : decode cX6_holdOf 0 = .ok (.aload_n 0, 1) := by decide +kernel
theorem dX6_holdOf_1 : decode cX6_holdOf 1 = .ok (.iload_n 1, 1) := by decide +kernel
theorem dX6_holdOf_2 : decode cX6_holdOf 2 = .ok (.aload_n 0, 1) := by decide +kernel
theorem dX6_holdOf_3 : decode cX6_holdOf 3 = .ok (.getfield 56, 3) := by decide +kernel
theorem dX6_holdOf_6 : decode cX6_holdOf 6 = .ok (.iload_n 2, 1) := by decide +kernel
theorem dX6_holdOf_7 : decode cX6_holdOf 7 = .ok (.iaload, 1) := by decide +kernel
theorem dX6_holdOf_8 : decode cX6_holdOf 8 = .ok (.invokevirtual 129, 3) := by decide +kernel
theorem dX6_holdOf_11 : decode cX6_holdOf 11 = .ok (.ireturn, 1) := by decide +kernel
set_option maxRecDepth 100000 in
set_option maxHeartbeats 4000000 in
theorem c_X6_holdOf (Z : ZZ) (l : Launch) (t : Nat) (a1 : Int32) (a2 : Int32) (h : HP) {v : Int32} {h1 : HP} (ho : f_X6_holdOf t a1 a2 h = some (v, h1)) : MetP Z l yX6_holdOf cX6_holdOf 3 (some .int) 2 43 [.ref (zb Z + t), .int a1, .int a2] h (some (.int v)) h1 := by
  refine MetP_of ho (by decide +kernel) (Nat.le_of_ble_eq_true rfl) [(0, .ref (zb Z + t)), (1, .int a1), (2, .int a2)] rfl (own := RX6) rfl (nm := "holdOf") rfl ?_
  unfold f_X6_holdOf
  refine S_aload_n dX6_holdOf_0 rfl 0 rfl (pc' := 1) rfl ?_
  refine S_iload_n dX6_holdOf_1 rfl 1 rfl (pc' := 2) rfl ?_
  refine S_aload_n dX6_holdOf_2 rfl 0 rfl (pc' := 3) rfl ?_
  refine S_getR fl_X6_56 rfl dX6_holdOf_3 (pc' := 6) rfl (fun x3 => ?_)
  refine S_iload_n dX6_holdOf_6 rfl 2 rfl (pc' := 7) rfl ?_
  refine S_iaload dX6_holdOf_7 (pc' := 8) rfl (fun x7 => ?_)
  refine S_invi ml_X6_129 mi_X6_holdBy (ci := 6) ⟨_, rfl, rfl⟩ (by decide) dX6_holdOf_8 [.int a1, .int x7] rfl (fun v h2 q => c_X6_holdBy Z l _ _ _ _ q) ⟨Nat.le_of_ble_eq_true rfl, Nat.le_of_ble_eq_true rfl⟩ (rest := []) (Nat.le_of_ble_eq_true rfl) rfl (pc' := 11) rfl (fun x8 h8 => ?_)
  exact S_iret rfl dX6_holdOf_11
theorem dX6_songsOf_0 : decode cX6_songsOf 0 = .ok (.iconst 0, 1) := by decide +kernel
theorem dX6_songsOf_1 : decode cX6_songsOf 1 = .ok (.istore_n 2, 1) := by decide +kernel
theorem dX6_songsOf_2 : decode cX6_songsOf 2 = .ok (.iconst 0, 1) := by decide +kernel
theorem dX6_songsOf_3 : decode cX6_songsOf 3 = .ok (.istore_n 3, 1) := by decide +kernel
theorem dX6_songsOf_4 : decode cX6_songsOf 4 = .ok (.iload_n 3, 1) := by decide +kernel
theorem dX6_songsOf_5 : decode cX6_songsOf 5 = .ok (.aload_n 0, 1) := by decide +kernel
theorem dX6_songsOf_6 : decode cX6_songsOf 6 = .ok (.getfield 99, 3) := by decide +kernel
theorem dX6_songsOf_9 : decode cX6_songsOf 9 = .ok (.if_icmp .ge 28, 3) := by decide +kernel
theorem dX6_songsOf_12 : decode cX6_songsOf 12 = .ok (.iload_n 2, 1) := by decide +kernel
theorem dX6_songsOf_13 : decode cX6_songsOf 13 = .ok (.aload_n 0, 1) := by decide +kernel
theorem dX6_songsOf_14 : decode cX6_songsOf 14 = .ok (.iload_n 1, 1) := by decide +kernel
theorem dX6_songsOf_15 : decode cX6_songsOf 15 = .ok (.iload_n 3, 1) := by decide +kernel
theorem dX6_songsOf_16 : decode cX6_songsOf 16 = .ok (.invokevirtual 267, 3) := by decide +kernel
theorem dX6_songsOf_19 : decode cX6_songsOf 19 = .ok (.ifCond .eq 9, 3) := by decide +kernel
theorem dX6_songsOf_22 : decode cX6_songsOf 22 = .ok (.iconst 1, 1) := by decide +kernel
theorem dX6_songsOf_23 : decode cX6_songsOf 23 = .ok (.iload_n 3, 1) := by decide +kernel
theorem dX6_songsOf_24 : decode cX6_songsOf 24 = .ok (.ishl, 1) := by decide +kernel
theorem dX6_songsOf_25 : decode cX6_songsOf 25 = .ok (.goto 4, 3) := by decide +kernel
theorem dX6_songsOf_28 : decode cX6_songsOf 28 = .ok (.iconst 0, 1) := by decide +kernel
theorem dX6_songsOf_29 : decode cX6_songsOf 29 = .ok (.ior, 1) := by decide +kernel
theorem dX6_songsOf_30 : decode cX6_songsOf 30 = .ok (.istore_n 2, 1) := by decide +kernel
theorem dX6_songsOf_31 : decode cX6_songsOf 31 = .ok (.iinc 3 1, 3) := by decide +kernel
theorem dX6_songsOf_34 : decode cX6_songsOf 34 = .ok (.goto (-30), 3) := by decide +kernel
theorem dX6_songsOf_37 : decode cX6_songsOf 37 = .ok (.iload_n 2, 1) := by decide +kernel
theorem dX6_songsOf_38 : decode cX6_songsOf 38 = .ok (.ireturn, 1) := by decide +kernel
set_option maxRecDepth 100000 in
set_option maxHeartbeats 4000000 in
theorem lc_X6_songsOf_4 (Z : ZZ) (l : Launch) (a0 : Nat) (a1 : Int32) {args : Array Value} {h0 h1 : HP} {v0 : Int32} (K : Int32 → HP → Option (Int32 × HP)) (F : Int32 → Int32 → HP → Option (Int32 × HP))
    (hK : ∀ (b2 : Int32) (h : HP), Sim Z l cX6_songsOf RX6 4 1 22 (some .int) "songsOf" args (Mq Z args h0 h1 (some (.int v0))) h0 h1 v0 37 [(2, .int b2)] [] h (K b2 h))
    (hF : ∀ (b2 : Int32) (b3 : Int32) (h : HP), Sim Z l cX6_songsOf RX6 4 1 22 (some .int) "songsOf" args (Mq Z args h0 h1 (some (.int v0))) h0 h1 v0 4 [(0, .ref (zb Z + a0)), (1, .int a1), (2, .int b2), (3, .int b3)] [] h (F b2 b3 h)) :
    ∀ (b2 : Int32) (b3 : Int32) (h : HP), Sim Z l cX6_songsOf RX6 4 1 22 (some .int) "songsOf" args (Mq Z args h0 h1 (some (.int v0))) h0 h1 v0 4 [(0, .ref (zb Z + a0)), (1, .int a1), (2, .int b2), (3, .int b3)] [] h (lb_X6_songsOf_4 a0 a1 K F b2 b3 h) := by
  intro b2 b3 h
  unfold lb_X6_songsOf_4
  refine S_iload_n dX6_songsOf_4 rfl 3 rfl (pc' := 5) rfl ?_
  refine S_aload_n dX6_songsOf_5 rfl 0 rfl (pc' := 6) rfl ?_
  refine S_getI fl_X6_99 rfl dX6_songsOf_6 (pc' := 9) rfl (fun x6 => ?_)
  refine S_icmp_ge dX6_songsOf_9 37 rfl (pc' := 12) rfl (fun g9 => ?_) (fun g9 => ?_)
  · refine Sim.sub [2] rfl ?_
    exact hK _ _
  · refine S_iload_n dX6_songsOf_12 rfl 2 rfl (pc' := 13) rfl ?_
    refine S_aload_n dX6_songsOf_13 rfl 0 rfl (pc' := 14) rfl ?_
    refine S_iload_n dX6_songsOf_14 rfl 1 rfl (pc' := 15) rfl ?_
    refine S_iload_n dX6_songsOf_15 rfl 3 rfl (pc' := 16) rfl ?_
    refine S_invi ml_X6_267 mi_X6_knowsIt (ci := 6) ⟨_, rfl, rfl⟩ (by decide) dX6_songsOf_16 [.int a1, .int b3] rfl (fun v h2 q => c_X6_knowsIt Z l _ _ _ _ q) ⟨Nat.le_of_ble_eq_true rfl, Nat.le_of_ble_eq_true rfl⟩ (rest := [.int b2]) (Nat.le_of_ble_eq_true rfl) rfl (pc' := 19) rfl (fun x16 h16 => ?_)
    refine S_if_eq dX6_songsOf_19 28 rfl (pc' := 22) rfl (fun g19 => ?_) (fun g19 => ?_)
    · refine S_iconst dX6_songsOf_28 (v := 0) rfl (pc' := 29) rfl ?_
      refine S_ior dX6_songsOf_29 (pc' := 30) rfl ?_
      refine S_istore_n dX6_songsOf_30 rfl (by decide) (lo' := [(2, .int (b2 ||| 0)), (0, .ref (zb Z + a0)), (1, .int a1), (3, .int b3)]) rfl (pc' := 31) rfl ?_
      refine S_iinc dX6_songsOf_31 (q := 3) rfl (v := b3 + 1) rfl (by decide) (lo' := [(3, .int (b3 + 1)), (2, .int (b2 ||| 0)), (0, .ref (zb Z + a0)), (1, .int a1)]) rfl (pc' := 34) rfl ?_
      refine S_goto dX6_songsOf_34 4 rfl ?_
      refine Sim.sub [2, 3, 1, 0] rfl ?_
      exact hF _ _ _
    · refine S_iconst dX6_songsOf_22 (v := 1) rfl (pc' := 23) rfl ?_
      refine S_iload_n dX6_songsOf_23 rfl 3 rfl (pc' := 24) rfl ?_
      refine S_ishl dX6_songsOf_24 (pc' := 25) rfl ?_
      refine S_goto dX6_songsOf_25 29 rfl ?_
      refine S_ior dX6_songsOf_29 (pc' := 30) rfl ?_
      refine S_istore_n dX6_songsOf_30 rfl (by decide) (lo' := [(2, .int (b2 ||| (1 <<< (b3 &&& 31)))), (0, .ref (zb Z + a0)), (1, .int a1), (3, .int b3)]) rfl (pc' := 31) rfl ?_
      refine S_iinc dX6_songsOf_31 (q := 3) rfl (v := b3 + 1) rfl (by decide) (lo' := [(3, .int (b3 + 1)), (2, .int (b2 ||| (1 <<< (b3 &&& 31)))), (0, .ref (zb Z + a0)), (1, .int a1)]) rfl (pc' := 34) rfl ?_
      refine S_goto dX6_songsOf_34 4 rfl ?_
      refine Sim.sub [2, 3, 1, 0] rfl ?_
      exact hF _ _ _
theorem lq_X6_songsOf_4 (Z : ZZ) (l : Launch) (a0 : Nat) (a1 : Int32) {args : Array Value} {h0 h1 : HP} {v0 : Int32} (K : Int32 → HP → Option (Int32 × HP))
    (hK : ∀ (b2 : Int32) (h : HP), Sim Z l cX6_songsOf RX6 4 1 22 (some .int) "songsOf" args (Mq Z args h0 h1 (some (.int v0))) h0 h1 v0 37 [(2, .int b2)] [] h (K b2 h)) :
    ∀ (k : Nat) (b2 : Int32) (b3 : Int32) (h : HP), Sim Z l cX6_songsOf RX6 4 1 22 (some .int) "songsOf" args (Mq Z args h0 h1 (some (.int v0))) h0 h1 v0 4 [(0, .ref (zb Z + a0)), (1, .int a1), (2, .int b2), (3, .int b3)] [] h (lp_X6_songsOf_4 a0 a1 K k b2 b3 h) := by
  intro k
  induction k with
  | zero => exact fun _ _ _ => Sim.none
  | succ k ih => exact lc_X6_songsOf_4 Z l a0 a1 K _ hK ih
set_option maxRecDepth 100000 in
set_option maxHeartbeats 4000000 in
theorem c_X6_songsOf (Z : ZZ) (l : Launch) (t : Nat) (a1 : Int32) (h : HP) {v : Int32} {h1 : HP} (ho : f_X6_songsOf t a1 h = some (v, h1)) : MetP Z l yX6_songsOf cX6_songsOf 4 (some .int) 1 22 [.ref (zb Z + t), .int a1] h (some (.int v)) h1 := by
  refine MetP_of ho (by decide +kernel) (Nat.le_of_ble_eq_true rfl) [(0, .ref (zb Z + t)), (1, .int a1)] rfl (own := RX6) rfl (nm := "songsOf") rfl ?_
  unfold f_X6_songsOf
  refine S_iconst dX6_songsOf_0 (v := 0) rfl (pc' := 1) rfl ?_
  refine S_istore_n dX6_songsOf_1 rfl (by decide) (lo' := [(2, .int 0), (0, .ref (zb Z + t)), (1, .int a1)]) rfl (pc' := 2) rfl ?_
  refine S_iconst dX6_songsOf_2 (v := 0) rfl (pc' := 3) rfl ?_
  refine S_istore_n dX6_songsOf_3 rfl (by decide) (lo' := [(3, .int 0), (2, .int 0), (0, .ref (zb Z + t)), (1, .int a1)]) rfl (pc' := 4) rfl ?_
  refine Sim.sub [2, 3, 1, 0] rfl ?_
  refine lq_X6_songsOf_4 Z l t a1 _ ?_ 1000 _ _ _
  intro b2_4 h4_
  refine S_iload_n dX6_songsOf_37 rfl 0 rfl (pc' := 38) rfl ?_
  exact S_iret rfl dX6_songsOf_38
theorem dX6_holdersOf_0 : decode cX6_holdersOf 0 = .ok (.iconst 0, 1) := by decide +kernel
theorem dX6_holdersOf_1 : decode cX6_holdersOf 1 = .ok (.istore_n 2, 1) := by decide +kernel
theorem dX6_holdersOf_2 : decode cX6_holdersOf 2 = .ok (.iconst 0, 1) := by decide +kernel
theorem dX6_holdersOf_3 : decode cX6_holdersOf 3 = .ok (.istore_n 3, 1) := by decide +kernel
theorem dX6_holdersOf_4 : decode cX6_holdersOf 4 = .ok (.iload_n 3, 1) := by decide +kernel
theorem dX6_holdersOf_5 : decode cX6_holdersOf 5 = .ok (.aload_n 0, 1) := by decide +kernel
theorem dX6_holdersOf_6 : decode cX6_holdersOf 6 = .ok (.getfield 92, 3) := by decide +kernel
theorem dX6_holdersOf_9 : decode cX6_holdersOf 9 = .ok (.if_icmp .ge 28, 3) := by decide +kernel
theorem dX6_holdersOf_12 : decode cX6_holdersOf 12 = .ok (.iload_n 2, 1) := by decide +kernel
theorem dX6_holdersOf_13 : decode cX6_holdersOf 13 = .ok (.aload_n 0, 1) := by decide +kernel
theorem dX6_holdersOf_14 : decode cX6_holdersOf 14 = .ok (.iload_n 3, 1) := by decide +kernel
theorem dX6_holdersOf_15 : decode cX6_holdersOf 15 = .ok (.iload_n 1, 1) := by decide +kernel
theorem dX6_holdersOf_16 : decode cX6_holdersOf 16 = .ok (.invokevirtual 267, 3) := by decide +kernel
theorem dX6_holdersOf_19 : decode cX6_holdersOf 19 = .ok (.ifCond .eq 9, 3) := by decide +kernel
theorem dX6_holdersOf_22 : decode cX6_holdersOf 22 = .ok (.iconst 1, 1) := by decide +kernel
theorem dX6_holdersOf_23 : decode cX6_holdersOf 23 = .ok (.iload_n 3, 1) := by decide +kernel
theorem dX6_holdersOf_24 : decode cX6_holdersOf 24 = .ok (.ishl, 1) := by decide +kernel
theorem dX6_holdersOf_25 : decode cX6_holdersOf 25 = .ok (.goto 4, 3) := by decide +kernel
theorem dX6_holdersOf_28 : decode cX6_holdersOf 28 = .ok (.iconst 0, 1) := by decide +kernel
theorem dX6_holdersOf_29 : decode cX6_holdersOf 29 = .ok (.ior, 1) := by decide +kernel
theorem dX6_holdersOf_30 : decode cX6_holdersOf 30 = .ok (.istore_n 2, 1) := by decide +kernel
theorem dX6_holdersOf_31 : decode cX6_holdersOf 31 = .ok (.iinc 3 1, 3) := by decide +kernel
theorem dX6_holdersOf_34 : decode cX6_holdersOf 34 = .ok (.goto (-30), 3) := by decide +kernel
theorem dX6_holdersOf_37 : decode cX6_holdersOf 37 = .ok (.iload_n 2, 1) := by decide +kernel
theorem dX6_holdersOf_38 : decode cX6_holdersOf 38 = .ok (.ireturn, 1) := by decide +kernel
set_option maxRecDepth 100000 in
set_option maxHeartbeats 4000000 in
theorem lc_X6_holdersOf_4 (Z : ZZ) (l : Launch) (a0 : Nat) (a1 : Int32) {args : Array Value} {h0 h1 : HP} {v0 : Int32} (K : Int32 → HP → Option (Int32 × HP)) (F : Int32 → Int32 → HP → Option (Int32 × HP))
    (hK : ∀ (b2 : Int32) (h : HP), Sim Z l cX6_holdersOf RX6 4 1 22 (some .int) "holdersOf" args (Mq Z args h0 h1 (some (.int v0))) h0 h1 v0 37 [(2, .int b2)] [] h (K b2 h))
    (hF : ∀ (b2 : Int32) (b3 : Int32) (h : HP), Sim Z l cX6_holdersOf RX6 4 1 22 (some .int) "holdersOf" args (Mq Z args h0 h1 (some (.int v0))) h0 h1 v0 4 [(0, .ref (zb Z + a0)), (1, .int a1), (2, .int b2), (3, .int b3)] [] h (F b2 b3 h)) :
    ∀ (b2 : Int32) (b3 : Int32) (h : HP), Sim Z l cX6_holdersOf RX6 4 1 22 (some .int) "holdersOf" args (Mq Z args h0 h1 (some (.int v0))) h0 h1 v0 4 [(0, .ref (zb Z + a0)), (1, .int a1), (2, .int b2), (3, .int b3)] [] h (lb_X6_holdersOf_4 a0 a1 K F b2 b3 h) := by
  intro b2 b3 h
  unfold lb_X6_holdersOf_4
  refine S_iload_n dX6_holdersOf_4 rfl 3 rfl (pc' := 5) rfl ?_
  refine S_aload_n dX6_holdersOf_5 rfl 0 rfl (pc' := 6) rfl ?_
  refine S_getI fl_X6_92 rfl dX6_holdersOf_6 (pc' := 9) rfl (fun x6 => ?_)
  refine S_icmp_ge dX6_holdersOf_9 37 rfl (pc' := 12) rfl (fun g9 => ?_) (fun g9 => ?_)
  · refine Sim.sub [2] rfl ?_
    exact hK _ _
  · refine S_iload_n dX6_holdersOf_12 rfl 2 rfl (pc' := 13) rfl ?_
    refine S_aload_n dX6_holdersOf_13 rfl 0 rfl (pc' := 14) rfl ?_
    refine S_iload_n dX6_holdersOf_14 rfl 3 rfl (pc' := 15) rfl ?_
    refine S_iload_n dX6_holdersOf_15 rfl 1 rfl (pc' := 16) rfl ?_
    refine S_invi ml_X6_267 mi_X6_knowsIt (ci := 6) ⟨_, rfl, rfl⟩ (by decide) dX6_holdersOf_16 [.int b3, .int a1] rfl (fun v h2 q => c_X6_knowsIt Z l _ _ _ _ q) ⟨Nat.le_of_ble_eq_true rfl, Nat.le_of_ble_eq_true rfl⟩ (rest := [.int b2]) (Nat.le_of_ble_eq_true rfl) rfl (pc' := 19) rfl (fun x16 h16 => ?_)
    refine S_if_eq dX6_holdersOf_19 28 rfl (pc' := 22) rfl (fun g19 => ?_) (fun g19 => ?_)
    · refine S_iconst dX6_holdersOf_28 (v := 0) rfl (pc' := 29) rfl ?_
      refine S_ior dX6_holdersOf_29 (pc' := 30) rfl ?_
      refine S_istore_n dX6_holdersOf_30 rfl (by decide) (lo' := [(2, .int (b2 ||| 0)), (0, .ref (zb Z + a0)), (1, .int a1), (3, .int b3)]) rfl (pc' := 31) rfl ?_
      refine S_iinc dX6_holdersOf_31 (q := 3) rfl (v := b3 + 1) rfl (by decide) (lo' := [(3, .int (b3 + 1)), (2, .int (b2 ||| 0)), (0, .ref (zb Z + a0)), (1, .int a1)]) rfl (pc' := 34) rfl ?_
      refine S_goto dX6_holdersOf_34 4 rfl ?_
      refine Sim.sub [2, 3, 1, 0] rfl ?_
      exact hF _ _ _
    · refine S_iconst dX6_holdersOf_22 (v := 1) rfl (pc' := 23) rfl ?_
      refine S_iload_n dX6_holdersOf_23 rfl 3 rfl (pc' := 24) rfl ?_
      refine S_ishl dX6_holdersOf_24 (pc' := 25) rfl ?_
      refine S_goto dX6_holdersOf_25 29 rfl ?_
      refine S_ior dX6_holdersOf_29 (pc' := 30) rfl ?_
      refine S_istore_n dX6_holdersOf_30 rfl (by decide) (lo' := [(2, .int (b2 ||| (1 <<< (b3 &&& 31)))), (0, .ref (zb Z + a0)), (1, .int a1), (3, .int b3)]) rfl (pc' := 31) rfl ?_
      refine S_iinc dX6_holdersOf_31 (q := 3) rfl (v := b3 + 1) rfl (by decide) (lo' := [(3, .int (b3 + 1)), (2, .int (b2 ||| (1 <<< (b3 &&& 31)))), (0, .ref (zb Z + a0)), (1, .int a1)]) rfl (pc' := 34) rfl ?_
      refine S_goto dX6_holdersOf_34 4 rfl ?_
      refine Sim.sub [2, 3, 1, 0] rfl ?_
      exact hF _ _ _
theorem lq_X6_holdersOf_4 (Z : ZZ) (l : Launch) (a0 : Nat) (a1 : Int32) {args : Array Value} {h0 h1 : HP} {v0 : Int32} (K : Int32 → HP → Option (Int32 × HP))
    (hK : ∀ (b2 : Int32) (h : HP), Sim Z l cX6_holdersOf RX6 4 1 22 (some .int) "holdersOf" args (Mq Z args h0 h1 (some (.int v0))) h0 h1 v0 37 [(2, .int b2)] [] h (K b2 h)) :
    ∀ (k : Nat) (b2 : Int32) (b3 : Int32) (h : HP), Sim Z l cX6_holdersOf RX6 4 1 22 (some .int) "holdersOf" args (Mq Z args h0 h1 (some (.int v0))) h0 h1 v0 4 [(0, .ref (zb Z + a0)), (1, .int a1), (2, .int b2), (3, .int b3)] [] h (lp_X6_holdersOf_4 a0 a1 K k b2 b3 h) := by
  intro k
  induction k with
  | zero => exact fun _ _ _ => Sim.none
  | succ k ih => exact lc_X6_holdersOf_4 Z l a0 a1 K _ hK ih
set_option maxRecDepth 100000 in
set_option maxHeartbeats 4000000 in
theorem c_X6_holdersOf (Z : ZZ) (l : Launch) (t : Nat) (a1 : Int32) (h : HP) {v : Int32} {h1 : HP} (ho : f_X6_holdersOf t a1 h = some (v, h1)) : MetP Z l yX6_holdersOf cX6_holdersOf 4 (some .int) 1 22 [.ref (zb Z + t), .int a1] h (some (.int v)) h1 := by
  refine MetP_of ho (by decide +kernel) (Nat.le_of_ble_eq_true rfl) [(0, .ref (zb Z + t)), (1, .int a1)] rfl (own := RX6) rfl (nm := "holdersOf") rfl ?_
  unfold f_X6_holdersOf
  refine S_iconst dX6_holdersOf_0 (v := 0) rfl (pc' := 1) rfl ?_
  refine S_istore_n dX6_holdersOf_1 rfl (by decide) (lo' := [(2, .int 0), (0, .ref (zb Z + t)), (1, .int a1)]) rfl (pc' := 2) rfl ?_
  refine S_iconst dX6_holdersOf_2 (v := 0) rfl (pc' := 3) rfl ?_
  refine S_istore_n dX6_holdersOf_3 rfl (by decide) (lo' := [(3, .int 0), (2, .int 0), (0, .ref (zb Z + t)), (1, .int a1)]) rfl (pc' := 4) rfl ?_
  refine Sim.sub [2, 3, 1, 0] rfl ?_
  refine lq_X6_holdersOf_4 Z l t a1 _ ?_ 1000 _ _ _
  intro b2_4 h4_
  refine S_iload_n dX6_holdersOf_37 rfl 0 rfl (pc' := 38) rfl ?_
  exact S_iret rfl dX6_holdersOf_38
theorem dX6_known_0 : decode cX6_known 0 = .ok (.iconst 0, 1) := by decide +kernel
theorem dX6_known_1 : decode cX6_known 1 = .ok (.istore_n 1, 1) := by decide +kernel
theorem dX6_known_2 : decode cX6_known 2 = .ok (.iconst 0, 1) := by decide +kernel
theorem dX6_known_3 : decode cX6_known 3 = .ok (.istore_n 2, 1) := by decide +kernel
theorem dX6_known_4 : decode cX6_known 4 = .ok (.iload_n 2, 1) := by decide +kernel
theorem dX6_known_5 : decode cX6_known 5 = .ok (.aload_n 0, 1) := by decide +kernel
theorem dX6_known_6 : decode cX6_known 6 = .ok (.getfield 92, 3) := by decide +kernel
theorem dX6_known_9 : decode cX6_known 9 = .ok (.if_icmp .ge 17, 3) := by decide +kernel
theorem dX6_known_12 : decode cX6_known 12 = .ok (.iload_n 1, 1) := by decide +kernel
theorem dX6_known_13 : decode cX6_known 13 = .ok (.aload_n 0, 1) := by decide +kernel
theorem dX6_known_14 : decode cX6_known 14 = .ok (.iload_n 2, 1) := by decide +kernel
theorem dX6_known_15 : decode cX6_known 15 = .ok (.invokevirtual 270, 3) := by decide +kernel
theorem dX6_known_18 : decode cX6_known 18 = .ok (.ior, 1) := by decide +kernel
theorem dX6_known_19 : decode cX6_known 19 = .ok (.istore_n 1, 1) := by decide +kernel
theorem dX6_known_20 : decode cX6_known 20 = .ok (.iinc 2 1, 3) := by decide +kernel
theorem dX6_known_23 : decode cX6_known 23 = .ok (.goto (-19), 3) := by decide +kernel
theorem dX6_known_26 : decode cX6_known 26 = .ok (.iload_n 1, 1) := by decide +kernel
theorem dX6_known_27 : decode cX6_known 27 = .ok (.ireturn, 1) := by decide +kernel
set_option maxRecDepth 100000 in
set_option maxHeartbeats 4000000 in
theorem lc_X6_known_4 (Z : ZZ) (l : Launch) (a0 : Nat) {args : Array Value} {h0 h1 : HP} {v0 : Int32} (K : Int32 → HP → Option (Int32 × HP)) (F : Int32 → Int32 → HP → Option (Int32 × HP))
    (hK : ∀ (b1 : Int32) (h : HP), Sim Z l cX6_known RX6 3 2 45 (some .int) "known" args (Mq Z args h0 h1 (some (.int v0))) h0 h1 v0 26 [(1, .int b1)] [] h (K b1 h))
    (hF : ∀ (b1 : Int32) (b2 : Int32) (h : HP), Sim Z l cX6_known RX6 3 2 45 (some .int) "known" args (Mq Z args h0 h1 (some (.int v0))) h0 h1 v0 4 [(0, .ref (zb Z + a0)), (1, .int b1), (2, .int b2)] [] h (F b1 b2 h)) :
    ∀ (b1 : Int32) (b2 : Int32) (h : HP), Sim Z l cX6_known RX6 3 2 45 (some .int) "known" args (Mq Z args h0 h1 (some (.int v0))) h0 h1 v0 4 [(0, .ref (zb Z + a0)), (1, .int b1), (2, .int b2)] [] h (lb_X6_known_4 a0 K F b1 b2 h) := by
  intro b1 b2 h
  unfold lb_X6_known_4
  refine S_iload_n dX6_known_4 rfl 2 rfl (pc' := 5) rfl ?_
  refine S_aload_n dX6_known_5 rfl 0 rfl (pc' := 6) rfl ?_
  refine S_getI fl_X6_92 rfl dX6_known_6 (pc' := 9) rfl (fun x6 => ?_)
  refine S_icmp_ge dX6_known_9 26 rfl (pc' := 12) rfl (fun g9 => ?_) (fun g9 => ?_)
  · refine Sim.sub [1] rfl ?_
    exact hK _ _
  · refine S_iload_n dX6_known_12 rfl 1 rfl (pc' := 13) rfl ?_
    refine S_aload_n dX6_known_13 rfl 0 rfl (pc' := 14) rfl ?_
    refine S_iload_n dX6_known_14 rfl 2 rfl (pc' := 15) rfl ?_
    refine S_invi ml_X6_270 mi_X6_songsOf (ci := 6) ⟨_, rfl, rfl⟩ (by decide) dX6_known_15 [.int b2] rfl (fun v h2 q => c_X6_songsOf Z l _ _ _ q) ⟨Nat.le_of_ble_eq_true rfl, Nat.le_of_ble_eq_true rfl⟩ (rest := [.int b1]) (Nat.le_of_ble_eq_true rfl) rfl (pc' := 18) rfl (fun x15 h15 => ?_)
    refine S_ior dX6_known_18 (pc' := 19) rfl ?_
    refine S_istore_n dX6_known_19 rfl (by decide) (lo' := [(1, .int (b1 ||| x15)), (0, .ref (zb Z + a0)), (2, .int b2)]) rfl (pc' := 20) rfl ?_
    refine S_iinc dX6_known_20 (q := 2) rfl (v := b2 + 1) rfl (by decide) (lo' := [(2, .int (b2 + 1)), (1, .int (b1 ||| x15)), (0, .ref (zb Z + a0))]) rfl (pc' := 23) rfl ?_
    refine S_goto dX6_known_23 4 rfl ?_
    refine Sim.sub [2, 1, 0] rfl ?_
    exact hF _ _ _
theorem lq_X6_known_4 (Z : ZZ) (l : Launch) (a0 : Nat) {args : Array Value} {h0 h1 : HP} {v0 : Int32} (K : Int32 → HP → Option (Int32 × HP))
    (hK : ∀ (b1 : Int32) (h : HP), Sim Z l cX6_known RX6 3 2 45 (some .int) "known" args (Mq Z args h0 h1 (some (.int v0))) h0 h1 v0 26 [(1, .int b1)] [] h (K b1 h)) :
    ∀ (k : Nat) (b1 : Int32) (b2 : Int32) (h : HP), Sim Z l cX6_known RX6 3 2 45 (some .int) "known" args (Mq Z args h0 h1 (some (.int v0))) h0 h1 v0 4 [(0, .ref (zb Z + a0)), (1, .int b1), (2, .int b2)] [] h (lp_X6_known_4 a0 K k b1 b2 h) := by
  intro k
  induction k with
  | zero => exact fun _ _ _ => Sim.none
  | succ k ih => exact lc_X6_known_4 Z l a0 K _ hK ih
set_option maxRecDepth 100000 in
set_option maxHeartbeats 4000000 in
theorem c_X6_known (Z : ZZ) (l : Launch) (t : Nat) (h : HP) {v : Int32} {h1 : HP} (ho : f_X6_known t h = some (v, h1)) : MetP Z l yX6_known cX6_known 3 (some .int) 2 45 [.ref (zb Z + t)] h (some (.int v)) h1 := by
  refine MetP_of ho (by decide +kernel) (Nat.le_of_ble_eq_true rfl) [(0, .ref (zb Z + t))] rfl (own := RX6) rfl (nm := "known") rfl ?_
  unfold f_X6_known
  refine S_iconst dX6_known_0 (v := 0) rfl (pc' := 1) rfl ?_
  refine S_istore_n dX6_known_1 rfl (by decide) (lo' := [(1, .int 0), (0, .ref (zb Z + t))]) rfl (pc' := 2) rfl ?_
  refine S_iconst dX6_known_2 (v := 0) rfl (pc' := 3) rfl ?_
  refine S_istore_n dX6_known_3 rfl (by decide) (lo' := [(2, .int 0), (1, .int 0), (0, .ref (zb Z + t))]) rfl (pc' := 4) rfl ?_
  refine Sim.sub [2, 1, 0] rfl ?_
  refine lq_X6_known_4 Z l t _ ?_ 1000 _ _ _
  intro b1_4 h4_
  refine S_iload_n dX6_known_26 rfl 0 rfl (pc' := 27) rfl ?_
  exact S_iret rfl dX6_known_27
theorem dX6_findsAll_0 : decode cX6_findsAll 0 = .ok (.iconst (-1), 1) := by decide +kernel
theorem dX6_findsAll_1 : decode cX6_findsAll 1 = .ok (.istore_n 1, 1) := by decide +kernel
theorem dX6_findsAll_2 : decode cX6_findsAll 2 = .ok (.iconst 0, 1) := by decide +kernel
theorem dX6_findsAll_3 : decode cX6_findsAll 3 = .ok (.istore_n 2, 1) := by decide +kernel
theorem dX6_findsAll_4 : decode cX6_findsAll 4 = .ok (.iload_n 2, 1) := by decide +kernel
theorem dX6_findsAll_5 : decode cX6_findsAll 5 = .ok (.aload_n 0, 1) := by decide +kernel
theorem dX6_findsAll_6 : decode cX6_findsAll 6 = .ok (.getfield 92, 3) := by decide +kernel
theorem dX6_findsAll_9 : decode cX6_findsAll 9 = .ok (.if_icmp .ge 35, 3) := by decide +kernel
theorem dX6_findsAll_12 : decode cX6_findsAll 12 = .ok (.iload_n 1, 1) := by decide +kernel
theorem dX6_findsAll_13 : decode cX6_findsAll 13 = .ok (.iconst (-1), 1) := by decide +kernel
theorem dX6_findsAll_14 : decode cX6_findsAll 14 = .ok (.if_icmp .eq 18, 3) := by decide +kernel
theorem dX6_findsAll_17 : decode cX6_findsAll 17 = .ok (.aload_n 0, 1) := by decide +kernel
theorem dX6_findsAll_18 : decode cX6_findsAll 18 = .ok (.getfield 47, 3) := by decide +kernel
theorem dX6_findsAll_21 : decode cX6_findsAll 21 = .ok (.iload_n 2, 1) := by decide +kernel
theorem dX6_findsAll_22 : decode cX6_findsAll 22 = .ok (.iaload, 1) := by decide +kernel
theorem dX6_findsAll_23 : decode cX6_findsAll 23 = .ok (.aload_n 0, 1) := by decide +kernel
theorem dX6_findsAll_24 : decode cX6_findsAll 24 = .ok (.getfield 47, 3) := by decide +kernel
theorem dX6_findsAll_27 : decode cX6_findsAll 27 = .ok (.iload_n 1, 1) := by decide +kernel
theorem dX6_findsAll_28 : decode cX6_findsAll 28 = .ok (.iaload, 1) := by decide +kernel
theorem dX6_findsAll_29 : decode cX6_findsAll 29 = .ok (.if_icmp .le 7, 3) := by decide +kernel
theorem dX6_findsAll_32 : decode cX6_findsAll 32 = .ok (.iload_n 2, 1) := by decide +kernel
theorem dX6_findsAll_33 : decode cX6_findsAll 33 = .ok (.goto 4, 3) := by decide +kernel
theorem dX6_findsAll_36 : decode cX6_findsAll 36 = .ok (.iload_n 1, 1) := by decide +kernel
theorem dX6_findsAll_37 : decode cX6_findsAll 37 = .ok (.istore_n 1, 1) := by decide +kernel
theorem dX6_findsAll_38 : decode cX6_findsAll 38 = .ok (.iinc 2 1, 3) := by decide +kernel
theorem dX6_findsAll_41 : decode cX6_findsAll 41 = .ok (.goto (-37), 3) := by decide +kernel
theorem dX6_findsAll_44 : decode cX6_findsAll 44 = .ok (.iload_n 1, 1) := by decide +kernel
theorem dX6_findsAll_45 : decode cX6_findsAll 45 = .ok (.ireturn, 1) := by decide +kernel
set_option maxRecDepth 100000 in
set_option maxHeartbeats 4000000 in
theorem lc_X6_findsAll_4 (Z : ZZ) (l : Launch) (a0 : Nat) {args : Array Value} {h0 h1 : HP} {v0 : Int32} (K : Int32 → HP → Option (Int32 × HP)) (F : Int32 → Int32 → HP → Option (Int32 × HP))
    (hK : ∀ (b1 : Int32) (h : HP), Sim Z l cX6_findsAll RX6 3 0 0 (some .int) "findsAll" args (Mq Z args h0 h1 (some (.int v0))) h0 h1 v0 44 [(1, .int b1)] [] h (K b1 h))
    (hF : ∀ (b1 : Int32) (b2 : Int32) (h : HP), Sim Z l cX6_findsAll RX6 3 0 0 (some .int) "findsAll" args (Mq Z args h0 h1 (some (.int v0))) h0 h1 v0 4 [(0, .ref (zb Z + a0)), (1, .int b1), (2, .int b2)] [] h (F b1 b2 h)) :
    ∀ (b1 : Int32) (b2 : Int32) (h : HP), Sim Z l cX6_findsAll RX6 3 0 0 (some .int) "findsAll" args (Mq Z args h0 h1 (some (.int v0))) h0 h1 v0 4 [(0, .ref (zb Z + a0)), (1, .int b1), (2, .int b2)] [] h (lb_X6_findsAll_4 a0 K F b1 b2 h) := by
  intro b1 b2 h
  unfold lb_X6_findsAll_4
  refine S_iload_n dX6_findsAll_4 rfl 2 rfl (pc' := 5) rfl ?_
  refine S_aload_n dX6_findsAll_5 rfl 0 rfl (pc' := 6) rfl ?_
  refine S_getI fl_X6_92 rfl dX6_findsAll_6 (pc' := 9) rfl (fun x6 => ?_)
  refine S_icmp_ge dX6_findsAll_9 44 rfl (pc' := 12) rfl (fun g9 => ?_) (fun g9 => ?_)
  · refine Sim.sub [1] rfl ?_
    exact hK _ _
  · refine S_iload_n dX6_findsAll_12 rfl 1 rfl (pc' := 13) rfl ?_
    refine S_iconst dX6_findsAll_13 (v := (-1)) rfl (pc' := 14) rfl ?_
    refine S_icmp_eq dX6_findsAll_14 32 rfl (pc' := 17) rfl (fun g14 => ?_) (fun g14 => ?_)
    · refine S_iload_n dX6_findsAll_32 rfl 2 rfl (pc' := 33) rfl ?_
      refine S_goto dX6_findsAll_33 37 rfl ?_
      refine S_istore_n dX6_findsAll_37 rfl (by decide) (lo' := [(1, .int b2), (0, .ref (zb Z + a0)), (2, .int b2)]) rfl (pc' := 38) rfl ?_
      refine S_iinc dX6_findsAll_38 (q := 2) rfl (v := b2 + 1) rfl (by decide) (lo' := [(2, .int (b2 + 1)), (1, .int b2), (0, .ref (zb Z + a0))]) rfl (pc' := 41) rfl ?_
      refine S_goto dX6_findsAll_41 4 rfl ?_
      refine Sim.sub [2, 1, 0] rfl ?_
      exact hF _ _ _
    · refine S_aload_n dX6_findsAll_17 rfl 0 rfl (pc' := 18) rfl ?_
      refine S_getR fl_X6_47 rfl dX6_findsAll_18 (pc' := 21) rfl (fun x18 => ?_)
      refine S_iload_n dX6_findsAll_21 rfl 2 rfl (pc' := 22) rfl ?_
      refine S_iaload dX6_findsAll_22 (pc' := 23) rfl (fun x22 => ?_)
      refine S_aload_n dX6_findsAll_23 rfl 0 rfl (pc' := 24) rfl ?_
      refine S_getR fl_X6_47 rfl dX6_findsAll_24 (pc' := 27) rfl (fun x24 => ?_)
      refine S_iload_n dX6_findsAll_27 rfl 1 rfl (pc' := 28) rfl ?_
      refine S_iaload dX6_findsAll_28 (pc' := 29) rfl (fun x28 => ?_)
      refine S_icmp_le dX6_findsAll_29 36 rfl (pc' := 32) rfl (fun g29 => ?_) (fun g29 => ?_)
      · refine S_iload_n dX6_findsAll_36 rfl 1 rfl (pc' := 37) rfl ?_
        refine S_istore_n dX6_findsAll_37 rfl (by decide) (lo' := [(1, .int b1), (0, .ref (zb Z + a0)), (2, .int b2)]) rfl (pc' := 38) rfl ?_
        refine S_iinc dX6_findsAll_38 (q := 2) rfl (v := b2 + 1) rfl (by decide) (lo' := [(2, .int (b2 + 1)), (1, .int b1), (0, .ref (zb Z + a0))]) rfl (pc' := 41) rfl ?_
        refine S_goto dX6_findsAll_41 4 rfl ?_
        refine Sim.sub [2, 1, 0] rfl ?_
        exact hF _ _ _
      · refine S_iload_n dX6_findsAll_32 rfl 2 rfl (pc' := 33) rfl ?_
        refine S_goto dX6_findsAll_33 37 rfl ?_
        refine S_istore_n dX6_findsAll_37 rfl (by decide) (lo' := [(1, .int b2), (0, .ref (zb Z + a0)), (2, .int b2)]) rfl (pc' := 38) rfl ?_
        refine S_iinc dX6_findsAll_38 (q := 2) rfl (v := b2 + 1) rfl (by decide) (lo' := [(2, .int (b2 + 1)), (1, .int b2), (0, .ref (zb Z + a0))]) rfl (pc' := 41) rfl ?_
        refine S_goto dX6_findsAll_41 4 rfl ?_
        refine Sim.sub [2, 1, 0] rfl ?_
        exact hF _ _ _
theorem lq_X6_findsAll_4 (Z : ZZ) (l : Launch) (a0 : Nat) {args : Array Value} {h0 h1 : HP} {v0 : Int32} (K : Int32 → HP → Option (Int32 × HP))
    (hK : ∀ (b1 : Int32) (h : HP), Sim Z l cX6_findsAll RX6 3 0 0 (some .int) "findsAll" args (Mq Z args h0 h1 (some (.int v0))) h0 h1 v0 44 [(1, .int b1)] [] h (K b1 h)) :
    ∀ (k : Nat) (b1 : Int32) (b2 : Int32) (h : HP), Sim Z l cX6_findsAll RX6 3 0 0 (some .int) "findsAll" args (Mq Z args h0 h1 (some (.int v0))) h0 h1 v0 4 [(0, .ref (zb Z + a0)), (1, .int b1), (2, .int b2)] [] h (lp_X6_findsAll_4 a0 K k b1 b2 h) := by
  intro k
  induction k with
  | zero => exact fun _ _ _ => Sim.none
  | succ k ih => exact lc_X6_findsAll_4 Z l a0 K _ hK ih
set_option maxRecDepth 100000 in
set_option maxHeartbeats 4000000 in
theorem c_X6_findsAll (Z : ZZ) (l : Launch) (t : Nat) (h : HP) {v : Int32} {h1 : HP} (ho : f_X6_findsAll t h = some (v, h1)) : MetP Z l yX6_findsAll cX6_findsAll 3 (some .int) 0 0 [.ref (zb Z + t)] h (some (.int v)) h1 := by
  refine MetP_of ho (by decide +kernel) (Nat.le_of_ble_eq_true rfl) [(0, .ref (zb Z + t))] rfl (own := RX6) rfl (nm := "findsAll") rfl ?_
  unfold f_X6_findsAll
  refine S_iconst dX6_findsAll_0 (v := (-1)) rfl (pc' := 1) rfl ?_
  refine S_istore_n dX6_findsAll_1 rfl (by decide) (lo' := [(1, .int (-1)), (0, .ref (zb Z + t))]) rfl (pc' := 2) rfl ?_
  refine S_iconst dX6_findsAll_2 (v := 0) rfl (pc' := 3) rfl ?_
  refine S_istore_n dX6_findsAll_3 rfl (by decide) (lo' := [(2, .int 0), (1, .int (-1)), (0, .ref (zb Z + t))]) rfl (pc' := 4) rfl ?_
  refine Sim.sub [2, 1, 0] rfl ?_
  refine lq_X6_findsAll_4 Z l t _ ?_ 1000 _ _ _
  intro b1_4 h4_
  refine S_iload_n dX6_findsAll_44 rfl 0 rfl (pc' := 45) rfl ?_
  exact S_iret rfl dX6_findsAll_45
theorem dX6_forgetsAll_0 : decode cX6_forgetsAll 0 = .ok (.iconst 0, 1) := by decide +kernel
theorem dX6_forgetsAll_1 : decode cX6_forgetsAll 1 = .ok (.istore_n 1, 1) := by decide +kernel
theorem dX6_forgetsAll_2 : decode cX6_forgetsAll 2 = .ok (.iload_n 1, 1) := by decide +kernel
theorem dX6_forgetsAll_3 : decode cX6_forgetsAll 3 = .ok (.aload_n 0, 1) := by decide +kernel
theorem dX6_forgetsAll_4 : decode cX6_forgetsAll 4 = .ok (.getfield 92, 3) := by decide +kernel
theorem dX6_forgetsAll_7 : decode cX6_forgetsAll 7 = .ok (.if_icmp .ge 113, 3) := by decide +kernel
theorem dX6_forgetsAll_10 : decode cX6_forgetsAll 10 = .ok (.iconst 0, 1) := by decide +kernel
theorem dX6_forgetsAll_11 : decode cX6_forgetsAll 11 = .ok (.istore_n 2, 1) := by decide +kernel
theorem dX6_forgetsAll_12 : decode cX6_forgetsAll 12 = .ok (.iload_n 2, 1) := by decide +kernel
theorem dX6_forgetsAll_13 : decode cX6_forgetsAll 13 = .ok (.aload_n 0, 1) := by decide +kernel
theorem dX6_forgetsAll_14 : decode cX6_forgetsAll 14 = .ok (.getfield 99, 3) := by decide +kernel
theorem dX6_forgetsAll_17 : decode cX6_forgetsAll 17 = .ok (.if_icmp .ge 97, 3) := by decide +kernel
theorem dX6_forgetsAll_20 : decode cX6_forgetsAll 20 = .ok (.iload_n 1, 1) := by decide +kernel
theorem dX6_forgetsAll_21 : decode cX6_forgetsAll 21 = .ok (.bipush 6, 2) := by decide +kernel
theorem dX6_forgetsAll_23 : decode cX6_forgetsAll 23 = .ok (.imul, 1) := by decide +kernel
theorem dX6_forgetsAll_24 : decode cX6_forgetsAll 24 = .ok (.iload_n 2, 1) := by decide +kernel
theorem dX6_forgetsAll_25 : decode cX6_forgetsAll 25 = .ok (.iadd, 1) := by decide +kernel
theorem dX6_forgetsAll_26 : decode cX6_forgetsAll 26 = .ok (.istore_n 3, 1) := by decide +kernel
theorem dX6_forgetsAll_27 : decode cX6_forgetsAll 27 = .ok (.aload_n 0, 1) := by decide +kernel
theorem dX6_forgetsAll_28 : decode cX6_forgetsAll 28 = .ok (.getfield 68, 3) := by decide +kernel
theorem dX6_forgetsAll_31 : decode cX6_forgetsAll 31 = .ok (.iload_n 3, 1) := by decide +kernel
theorem dX6_forgetsAll_32 : decode cX6_forgetsAll 32 = .ok (.iaload, 1) := by decide +kernel
theorem dX6_forgetsAll_33 : decode cX6_forgetsAll 33 = .ok (.ifCond .lt 75, 3) := by decide +kernel
theorem dX6_forgetsAll_36 : decode cX6_forgetsAll 36 = .ok (.aload_n 0, 1) := by decide +kernel
theorem dX6_forgetsAll_37 : decode cX6_forgetsAll 37 = .ok (.getfield 68, 3) := by decide +kernel
theorem dX6_forgetsAll_40 : decode cX6_forgetsAll 40 = .ok (.iload_n 3, 1) := by decide +kernel
theorem dX6_forgetsAll_41 : decode cX6_forgetsAll 41 = .ok (.aload_n 0, 1) := by decide +kernel
theorem dX6_forgetsAll_42 : decode cX6_forgetsAll 42 = .ok (.getfield 68, 3) := by decide +kernel
theorem dX6_forgetsAll_45 : decode cX6_forgetsAll 45 = .ok (.iload_n 3, 1) := by decide +kernel
theorem dX6_forgetsAll_46 : decode cX6_forgetsAll 46 = .ok (.iaload, 1) := by decide +kernel
theorem dX6_forgetsAll_47 : decode cX6_forgetsAll 47 = .ok (.bipush 99, 2) := by decide +kernel
theorem dX6_forgetsAll_49 : decode cX6_forgetsAll 49 = .ok (.if_icmp .ge 14, 3) := by decide +kernel
theorem dX6_forgetsAll_52 : decode cX6_forgetsAll 52 = .ok (.aload_n 0, 1) := by decide +kernel
theorem dX6_forgetsAll_53 : decode cX6_forgetsAll 53 = .ok (.getfield 68, 3) := by decide +kernel
theorem dX6_forgetsAll_56 : decode cX6_forgetsAll 56 = .ok (.iload_n 3, 1) := by decide +kernel
theorem dX6_forgetsAll_57 : decode cX6_forgetsAll 57 = .ok (.iaload, 1) := by decide +kernel
theorem dX6_forgetsAll_58 : decode cX6_forgetsAll 58 = .ok (.iconst 1, 1) := by decide +kernel
theorem dX6_forgetsAll_59 : decode cX6_forgetsAll 59 = .ok (.iadd, 1) := by decide +kernel
theorem dX6_forgetsAll_60 : decode cX6_forgetsAll 60 = .ok (.goto 5, 3) := by decide +kernel
theorem dX6_forgetsAll_63 : decode cX6_forgetsAll 63 = .ok (.bipush 99, 2) := by decide +kernel
theorem dX6_forgetsAll_65 : decode cX6_forgetsAll 65 = .ok (.iastore, 1) := by decide +kernel
theorem dX6_forgetsAll_66 : decode cX6_forgetsAll 66 = .ok (.aload_n 0, 1) := by decide +kernel
theorem dX6_forgetsAll_67 : decode cX6_forgetsAll 67 = .ok (.getfield 68, 3) := by decide +kernel
theorem dX6_forgetsAll_70 : decode cX6_forgetsAll 70 = .ok (.iload_n 3, 1) := by decide +kernel
theorem dX6_forgetsAll_71 : decode cX6_forgetsAll 71 = .ok (.aload_n 0, 1) := by decide +kernel
theorem dX6_forgetsAll_72 : decode cX6_forgetsAll 72 = .ok (.getfield 68, 3) := by decide +kernel
theorem dX6_forgetsAll_75 : decode cX6_forgetsAll 75 = .ok (.iload_n 3, 1) := by decide +kernel
theorem dX6_forgetsAll_76 : decode cX6_forgetsAll 76 = .ok (.iaload, 1) := by decide +kernel
theorem dX6_forgetsAll_77 : decode cX6_forgetsAll 77 = .ok (.aload_n 0, 1) := by decide +kernel
theorem dX6_forgetsAll_78 : decode cX6_forgetsAll 78 = .ok (.iload_n 1, 1) := by decide +kernel
theorem dX6_forgetsAll_79 : decode cX6_forgetsAll 79 = .ok (.iload_n 2, 1) := by decide +kernel
theorem dX6_forgetsAll_80 : decode cX6_forgetsAll 80 = .ok (.invokevirtual 273, 3) := by decide +kernel
theorem dX6_forgetsAll_83 : decode cX6_forgetsAll 83 = .ok (.if_icmp .le 18, 3) := by decide +kernel
theorem dX6_forgetsAll_86 : decode cX6_forgetsAll 86 = .ok (.aload_n 0, 1) := by decide +kernel
theorem dX6_forgetsAll_87 : decode cX6_forgetsAll 87 = .ok (.getfield 133, 3) := by decide +kernel
theorem dX6_forgetsAll_90 : decode cX6_forgetsAll 90 = .ok (.iload_n 1, 1) := by decide +kernel
theorem dX6_forgetsAll_91 : decode cX6_forgetsAll 91 = .ok (.ishr, 1) := by decide +kernel
theorem dX6_forgetsAll_92 : decode cX6_forgetsAll 92 = .ok (.iconst 1, 1) := by decide +kernel
theorem dX6_forgetsAll_93 : decode cX6_forgetsAll 93 = .ok (.iand, 1) := by decide +kernel
theorem dX6_forgetsAll_94 : decode cX6_forgetsAll 94 = .ok (.ifCond .ne 7, 3) := by decide +kernel
theorem dX6_forgetsAll_97 : decode cX6_forgetsAll 97 = .ok (.iconst (-1), 1) := by decide +kernel
theorem dX6_forgetsAll_98 : decode cX6_forgetsAll 98 = .ok (.goto 9, 3) := by decide +kernel
theorem dX6_forgetsAll_101 : decode cX6_forgetsAll 101 = .ok (.aload_n 0, 1) := by decide +kernel
theorem dX6_forgetsAll_102 : decode cX6_forgetsAll 102 = .ok (.getfield 68, 3) := by decide +kernel
theorem dX6_forgetsAll_105 : decode cX6_forgetsAll 105 = .ok (.iload_n 3, 1) := by decide +kernel
theorem dX6_forgetsAll_106 : decode cX6_forgetsAll 106 = .ok (.iaload, 1) := by decide +kernel
theorem dX6_forgetsAll_107 : decode cX6_forgetsAll 107 = .ok (.iastore, 1) := by decide +kernel
theorem dX6_forgetsAll_108 : decode cX6_forgetsAll 108 = .ok (.iinc 2 1, 3) := by decide +kernel
theorem dX6_forgetsAll_111 : decode cX6_forgetsAll 111 = .ok (.goto (-99), 3) := by decide +kernel
theorem dX6_forgetsAll_114 : decode cX6_forgetsAll 114 = .ok (.iinc 1 1, 3) := by decide +kernel
theorem dX6_forgetsAll_117 : decode cX6_forgetsAll 117 = .ok (.goto (-115), 3) := by decide +kernel
theorem dX6_forgetsAll_120 : decode cX6_forgetsAll 120 = .ok (.return_, 1) := by decide +kernel
set_option maxRecDepth 100000 in
set_option maxHeartbeats 4000000 in
theorem lc_X6_forgetsAll_12 (Z : ZZ) (l : Launch) (a0 : Nat) (a1 : Int32) {args : Array Value} {h0 h1 : HP} {v0 : Unit} (K : HP → Option (Unit × HP)) (F : Int32 → HP → Option (Unit × HP))
    (hK : ∀ (h : HP), Sim Z l cX6_forgetsAll RX6 4 3 65 (none) "forgetsAll" args (Mq Z args h0 h1 (none)) h0 h1 v0 114 [(0, .ref (zb Z + a0)), (1, .int a1)] [] h (K h))
    (hF : ∀ (b2 : Int32) (h : HP), Sim Z l cX6_forgetsAll RX6 4 3 65 (none) "forgetsAll" args (Mq Z args h0 h1 (none)) h0 h1 v0 12 [(0, .ref (zb Z + a0)), (1, .int a1), (2, .int b2)] [] h (F b2 h)) :
    ∀ (b2 : Int32) (h : HP), Sim Z l cX6_forgetsAll RX6 4 3 65 (none) "forgetsAll" args (Mq Z args h0 h1 (none)) h0 h1 v0 12 [(0, .ref (zb Z + a0)), (1, .int a1), (2, .int b2)] [] h (lb_X6_forgetsAll_12 a0 a1 K F b2 h) := by
  intro b2 h
  unfold lb_X6_forgetsAll_12
  refine S_iload_n dX6_forgetsAll_12 rfl 2 rfl (pc' := 13) rfl ?_
  refine S_aload_n dX6_forgetsAll_13 rfl 0 rfl (pc' := 14) rfl ?_
  refine S_getI fl_X6_99 rfl dX6_forgetsAll_14 (pc' := 17) rfl (fun x14 => ?_)
  refine S_icmp_ge dX6_forgetsAll_17 114 rfl (pc' := 20) rfl (fun g17 => ?_) (fun g17 => ?_)
  · refine Sim.sub [0, 1] rfl ?_
    exact hK _
  · refine S_iload_n dX6_forgetsAll_20 rfl 1 rfl (pc' := 21) rfl ?_
    refine S_bipush dX6_forgetsAll_21 (v := 6) rfl (pc' := 23) rfl ?_
    refine S_imul dX6_forgetsAll_23 (pc' := 24) rfl ?_
    refine S_iload_n dX6_forgetsAll_24 rfl 2 rfl (pc' := 25) rfl ?_
    refine S_iadd dX6_forgetsAll_25 (pc' := 26) rfl ?_
    refine S_istore_n dX6_forgetsAll_26 rfl (by decide) (lo' := [(3, .int ((a1 * 6) + b2)), (0, .ref (zb Z + a0)), (1, .int a1), (2, .int b2)]) rfl (pc' := 27) rfl ?_
    refine S_aload_n dX6_forgetsAll_27 rfl 1 rfl (pc' := 28) rfl ?_
    refine S_getR fl_X6_68 rfl dX6_forgetsAll_28 (pc' := 31) rfl (fun x28 => ?_)
    refine S_iload_n dX6_forgetsAll_31 rfl 0 rfl (pc' := 32) rfl ?_
    refine S_iaload dX6_forgetsAll_32 (pc' := 33) rfl (fun x32 => ?_)
    refine S_if_lt dX6_forgetsAll_33 108 rfl (pc' := 36) rfl (fun g33 => ?_) (fun g33 => ?_)
    · refine S_iinc dX6_forgetsAll_108 (q := 3) rfl (v := b2 + 1) rfl (by decide) (lo' := [(2, .int (b2 + 1)), (3, .int ((a1 * 6) + b2)), (0, .ref (zb Z + a0)), (1, .int a1)]) rfl (pc' := 111) rfl ?_
      refine S_goto dX6_forgetsAll_111 12 rfl ?_
      refine Sim.sub [2, 3, 0] rfl ?_
      exact hF _ _
    · refine S_aload_n dX6_forgetsAll_36 rfl 1 rfl (pc' := 37) rfl ?_
      refine S_getR fl_X6_68 rfl dX6_forgetsAll_37 (pc' := 40) rfl (fun x37 => ?_)
      refine S_iload_n dX6_forgetsAll_40 rfl 0 rfl (pc' := 41) rfl ?_
      refine S_aload_n dX6_forgetsAll_41 rfl 1 rfl (pc' := 42) rfl ?_
      refine S_getR fl_X6_68 rfl dX6_forgetsAll_42 (pc' := 45) rfl (fun x42 => ?_)
      refine S_iload_n dX6_forgetsAll_45 rfl 0 rfl (pc' := 46) rfl ?_
      refine S_iaload dX6_forgetsAll_46 (pc' := 47) rfl (fun x46 => ?_)
      refine S_bipush dX6_forgetsAll_47 (v := 99) rfl (pc' := 49) rfl ?_
      refine S_icmp_ge dX6_forgetsAll_49 63 rfl (pc' := 52) rfl (fun g49 => ?_) (fun g49 => ?_)
      · refine S_bipush dX6_forgetsAll_63 (v := 99) rfl (pc' := 65) rfl ?_
        refine S_iastore dX6_forgetsAll_65 (pc' := 66) rfl (fun h65 => ?_)
        refine S_aload_n dX6_forgetsAll_66 rfl 1 rfl (pc' := 67) rfl ?_
        refine S_getR fl_X6_68 rfl dX6_forgetsAll_67 (pc' := 70) rfl (fun x67 => ?_)
        refine S_iload_n dX6_forgetsAll_70 rfl 0 rfl (pc' := 71) rfl ?_
        refine S_aload_n dX6_forgetsAll_71 rfl 1 rfl (pc' := 72) rfl ?_
        refine S_getR fl_X6_68 rfl dX6_forgetsAll_72 (pc' := 75) rfl (fun x72 => ?_)
        refine S_iload_n dX6_forgetsAll_75 rfl 0 rfl (pc' := 76) rfl ?_
        refine S_iaload dX6_forgetsAll_76 (pc' := 77) rfl (fun x76 => ?_)
        refine S_aload_n dX6_forgetsAll_77 rfl 1 rfl (pc' := 78) rfl ?_
        refine S_iload_n dX6_forgetsAll_78 rfl 2 rfl (pc' := 79) rfl ?_
        refine S_iload_n dX6_forgetsAll_79 rfl 3 rfl (pc' := 80) rfl ?_
        refine S_invi ml_X6_273 mi_X6_holdOf (ci := 6) ⟨_, rfl, rfl⟩ (by decide) dX6_forgetsAll_80 [.int a1, .int b2] rfl (fun v h2 q => c_X6_holdOf Z l _ _ _ _ q) ⟨Nat.le_of_ble_eq_true rfl, Nat.le_of_ble_eq_true rfl⟩ (rest := [.int x76, .int ((a1 * 6) + b2), .ref (zb Z + x67)]) (Nat.le_of_ble_eq_true rfl) rfl (pc' := 83) rfl (fun x80 h80 => ?_)
        refine S_icmp_le dX6_forgetsAll_83 101 rfl (pc' := 86) rfl (fun g83 => ?_) (fun g83 => ?_)
        · refine S_aload_n dX6_forgetsAll_101 rfl 1 rfl (pc' := 102) rfl ?_
          refine S_getR fl_X6_68 rfl dX6_forgetsAll_102 (pc' := 105) rfl (fun x102 => ?_)
          refine S_iload_n dX6_forgetsAll_105 rfl 0 rfl (pc' := 106) rfl ?_
          refine S_iaload dX6_forgetsAll_106 (pc' := 107) rfl (fun x106 => ?_)
          refine S_iastore dX6_forgetsAll_107 (pc' := 108) rfl (fun h107 => ?_)
          refine S_iinc dX6_forgetsAll_108 (q := 3) rfl (v := b2 + 1) rfl (by decide) (lo' := [(2, .int (b2 + 1)), (3, .int ((a1 * 6) + b2)), (0, .ref (zb Z + a0)), (1, .int a1)]) rfl (pc' := 111) rfl ?_
          refine S_goto dX6_forgetsAll_111 12 rfl ?_
          refine Sim.sub [2, 3, 0] rfl ?_
          exact hF _ _
        · refine S_aload_n dX6_forgetsAll_86 rfl 1 rfl (pc' := 87) rfl ?_
          refine S_getI fl_X6_133 rfl dX6_forgetsAll_87 (pc' := 90) rfl (fun x87 => ?_)
          refine S_iload_n dX6_forgetsAll_90 rfl 2 rfl (pc' := 91) rfl ?_
          refine S_ishr dX6_forgetsAll_91 (pc' := 92) rfl ?_
          refine S_iconst dX6_forgetsAll_92 (v := 1) rfl (pc' := 93) rfl ?_
          refine S_iand dX6_forgetsAll_93 (pc' := 94) rfl ?_
          refine S_if_ne dX6_forgetsAll_94 101 rfl (pc' := 97) rfl (fun g94 => ?_) (fun g94 => ?_)
          · refine S_aload_n dX6_forgetsAll_101 rfl 1 rfl (pc' := 102) rfl ?_
            refine S_getR fl_X6_68 rfl dX6_forgetsAll_102 (pc' := 105) rfl (fun x102 => ?_)
            refine S_iload_n dX6_forgetsAll_105 rfl 0 rfl (pc' := 106) rfl ?_
            refine S_iaload dX6_forgetsAll_106 (pc' := 107) rfl (fun x106 => ?_)
            refine S_iastore dX6_forgetsAll_107 (pc' := 108) rfl (fun h107 => ?_)
            refine S_iinc dX6_forgetsAll_108 (q := 3) rfl (v := b2 + 1) rfl (by decide) (lo' := [(2, .int (b2 + 1)), (3, .int ((a1 * 6) + b2)), (0, .ref (zb Z + a0)), (1, .int a1)]) rfl (pc' := 111) rfl ?_
            refine S_goto dX6_forgetsAll_111 12 rfl ?_
            refine Sim.sub [2, 3, 0] rfl ?_
            exact hF _ _
          · refine S_iconst dX6_forgetsAll_97 (v := (-1)) rfl (pc' := 98) rfl ?_
            refine S_goto dX6_forgetsAll_98 107 rfl ?_
            refine S_iastore dX6_forgetsAll_107 (pc' := 108) rfl (fun h107 => ?_)
            refine S_iinc dX6_forgetsAll_108 (q := 3) rfl (v := b2 + 1) rfl (by decide) (lo' := [(2, .int (b2 + 1)), (3, .int ((a1 * 6) + b2)), (0, .ref (zb Z + a0)), (1, .int a1)]) rfl (pc' := 111) rfl ?_
            refine S_goto dX6_forgetsAll_111 12 rfl ?_
            refine Sim.sub [2, 3, 0] rfl ?_
            exact hF _ _
      · refine S_aload_n dX6_forgetsAll_52 rfl 1 rfl (pc' := 53) rfl ?_
        refine S_getR fl_X6_68 rfl dX6_forgetsAll_53 (pc' := 56) rfl (fun x53 => ?_)
        refine S_iload_n dX6_forgetsAll_56 rfl 0 rfl (pc' := 57) rfl ?_
        refine S_iaload dX6_forgetsAll_57 (pc' := 58) rfl (fun x57 => ?_)
        refine S_iconst dX6_forgetsAll_58 (v := 1) rfl (pc' := 59) rfl ?_
        refine S_iadd dX6_forgetsAll_59 (pc' := 60) rfl ?_
        refine S_goto dX6_forgetsAll_60 65 rfl ?_
        refine S_iastore dX6_forgetsAll_65 (pc' := 66) rfl (fun h65 => ?_)
        refine S_aload_n dX6_forgetsAll_66 rfl 1 rfl (pc' := 67) rfl ?_
        refine S_getR fl_X6_68 rfl dX6_forgetsAll_67 (pc' := 70) rfl (fun x67 => ?_)
        refine S_iload_n dX6_forgetsAll_70 rfl 0 rfl (pc' := 71) rfl ?_
        refine S_aload_n dX6_forgetsAll_71 rfl 1 rfl (pc' := 72) rfl ?_
        refine S_getR fl_X6_68 rfl dX6_forgetsAll_72 (pc' := 75) rfl (fun x72 => ?_)
        refine S_iload_n dX6_forgetsAll_75 rfl 0 rfl (pc' := 76) rfl ?_
        refine S_iaload dX6_forgetsAll_76 (pc' := 77) rfl (fun x76 => ?_)
        refine S_aload_n dX6_forgetsAll_77 rfl 1 rfl (pc' := 78) rfl ?_
        refine S_iload_n dX6_forgetsAll_78 rfl 2 rfl (pc' := 79) rfl ?_
        refine S_iload_n dX6_forgetsAll_79 rfl 3 rfl (pc' := 80) rfl ?_
        refine S_invi ml_X6_273 mi_X6_holdOf (ci := 6) ⟨_, rfl, rfl⟩ (by decide) dX6_forgetsAll_80 [.int a1, .int b2] rfl (fun v h2 q => c_X6_holdOf Z l _ _ _ _ q) ⟨Nat.le_of_ble_eq_true rfl, Nat.le_of_ble_eq_true rfl⟩ (rest := [.int x76, .int ((a1 * 6) + b2), .ref (zb Z + x67)]) (Nat.le_of_ble_eq_true rfl) rfl (pc' := 83) rfl (fun x80 h80 => ?_)
        refine S_icmp_le dX6_forgetsAll_83 101 rfl (pc' := 86) rfl (fun g83 => ?_) (fun g83 => ?_)
        · refine S_aload_n dX6_forgetsAll_101 rfl 1 rfl (pc' := 102) rfl ?_
          refine S_getR fl_X6_68 rfl dX6_forgetsAll_102 (pc' := 105) rfl (fun x102 => ?_)
          refine S_iload_n dX6_forgetsAll_105 rfl 0 rfl (pc' := 106) rfl ?_
          refine S_iaload dX6_forgetsAll_106 (pc' := 107) rfl (fun x106 => ?_)
          refine S_iastore dX6_forgetsAll_107 (pc' := 108) rfl (fun h107 => ?_)
          refine S_iinc dX6_forgetsAll_108 (q := 3) rfl (v := b2 + 1) rfl (by decide) (lo' := [(2, .int (b2 + 1)), (3, .int ((a1 * 6) + b2)), (0, .ref (zb Z + a0)), (1, .int a1)]) rfl (pc' := 111) rfl ?_
          refine S_goto dX6_forgetsAll_111 12 rfl ?_
          refine Sim.sub [2, 3, 0] rfl ?_
          exact hF _ _
        · refine S_aload_n dX6_forgetsAll_86 rfl 1 rfl (pc' := 87) rfl ?_
          refine S_getI fl_X6_133 rfl dX6_forgetsAll_87 (pc' := 90) rfl (fun x87 => ?_)
          refine S_iload_n dX6_forgetsAll_90 rfl 2 rfl (pc' := 91) rfl ?_
          refine S_ishr dX6_forgetsAll_91 (pc' := 92) rfl ?_
          refine S_iconst dX6_forgetsAll_92 (v := 1) rfl (pc' := 93) rfl ?_
          refine S_iand dX6_forgetsAll_93 (pc' := 94) rfl ?_
          refine S_if_ne dX6_forgetsAll_94 101 rfl (pc' := 97) rfl (fun g94 => ?_) (fun g94 => ?_)
          · refine S_aload_n dX6_forgetsAll_101 rfl 1 rfl (pc' := 102) rfl ?_
            refine S_getR fl_X6_68 rfl dX6_forgetsAll_102 (pc' := 105) rfl (fun x102 => ?_)
            refine S_iload_n dX6_forgetsAll_105 rfl 0 rfl (pc' := 106) rfl ?_
            refine S_iaload dX6_forgetsAll_106 (pc' := 107) rfl (fun x106 => ?_)
            refine S_iastore dX6_forgetsAll_107 (pc' := 108) rfl (fun h107 => ?_)
            refine S_iinc dX6_forgetsAll_108 (q := 3) rfl (v := b2 + 1) rfl (by decide) (lo' := [(2, .int (b2 + 1)), (3, .int ((a1 * 6) + b2)), (0, .ref (zb Z + a0)), (1, .int a1)]) rfl (pc' := 111) rfl ?_
            refine S_goto dX6_forgetsAll_111 12 rfl ?_
            refine Sim.sub [2, 3, 0] rfl ?_
            exact hF _ _
          · refine S_iconst dX6_forgetsAll_97 (v := (-1)) rfl (pc' := 98) rfl ?_
            refine S_goto dX6_forgetsAll_98 107 rfl ?_
            refine S_iastore dX6_forgetsAll_107 (pc' := 108) rfl (fun h107 => ?_)
            refine S_iinc dX6_forgetsAll_108 (q := 3) rfl (v := b2 + 1) rfl (by decide) (lo' := [(2, .int (b2 + 1)), (3, .int ((a1 * 6) + b2)), (0, .ref (zb Z + a0)), (1, .int a1)]) rfl (pc' := 111) rfl ?_
            refine S_goto dX6_forgetsAll_111 12 rfl ?_
            refine Sim.sub [2, 3, 0] rfl ?_
            exact hF _ _
theorem lq_X6_forgetsAll_12 (Z : ZZ) (l : Launch) (a0 : Nat) (a1 : Int32) {args : Array Value} {h0 h1 : HP} {v0 : Unit} (K : HP → Option (Unit × HP))
    (hK : ∀ (h : HP), Sim Z l cX6_forgetsAll RX6 4 3 65 (none) "forgetsAll" args (Mq Z args h0 h1 (none)) h0 h1 v0 114 [(0, .ref (zb Z + a0)), (1, .int a1)] [] h (K h)) :
    ∀ (k : Nat) (b2 : Int32) (h : HP), Sim Z l cX6_forgetsAll RX6 4 3 65 (none) "forgetsAll" args (Mq Z args h0 h1 (none)) h0 h1 v0 12 [(0, .ref (zb Z + a0)), (1, .int a1), (2, .int b2)] [] h (lp_X6_forgetsAll_12 a0 a1 K k b2 h) := by
  intro k
  induction k with
  | zero => exact fun _ _ => Sim.none
  | succ k ih => exact lc_X6_forgetsAll_12 Z l a0 a1 K _ hK ih
set_option maxRecDepth 100000 in
set_option maxHeartbeats 4000000 in
theorem lc_X6_forgetsAll_2 (Z : ZZ) (l : Launch) (a0 : Nat) {args : Array Value} {h0 h1 : HP} {v0 : Unit} (K : HP → Option (Unit × HP)) (F : Int32 → HP → Option (Unit × HP))
    (hK : ∀ (h : HP), Sim Z l cX6_forgetsAll RX6 4 3 65 (none) "forgetsAll" args (Mq Z args h0 h1 (none)) h0 h1 v0 120 [] [] h (K h))
    (hF : ∀ (b1 : Int32) (h : HP), Sim Z l cX6_forgetsAll RX6 4 3 65 (none) "forgetsAll" args (Mq Z args h0 h1 (none)) h0 h1 v0 2 [(0, .ref (zb Z + a0)), (1, .int b1)] [] h (F b1 h)) :
    ∀ (b1 : Int32) (h : HP), Sim Z l cX6_forgetsAll RX6 4 3 65 (none) "forgetsAll" args (Mq Z args h0 h1 (none)) h0 h1 v0 2 [(0, .ref (zb Z + a0)), (1, .int b1)] [] h (lb_X6_forgetsAll_2 a0 K F b1 h) := by
  intro b1 h
  unfold lb_X6_forgetsAll_2
  refine S_iload_n dX6_forgetsAll_2 rfl 1 rfl (pc' := 3) rfl ?_
  refine S_aload_n dX6_forgetsAll_3 rfl 0 rfl (pc' := 4) rfl ?_
  refine S_getI fl_X6_92 rfl dX6_forgetsAll_4 (pc' := 7) rfl (fun x4 => ?_)
  refine S_icmp_ge dX6_forgetsAll_7 120 rfl (pc' := 10) rfl (fun g7 => ?_) (fun g7 => ?_)
  · refine Sim.sub [] rfl ?_
    exact hK _
  · refine S_iconst dX6_forgetsAll_10 (v := 0) rfl (pc' := 11) rfl ?_
    refine S_istore_n dX6_forgetsAll_11 rfl (by decide) (lo' := [(2, .int 0), (0, .ref (zb Z + a0)), (1, .int b1)]) rfl (pc' := 12) rfl ?_
    refine Sim.sub [1, 2, 0] rfl ?_
    refine lq_X6_forgetsAll_12 Z l a0 b1 _ ?_ 1000 _ _
    intro h12_
    refine S_iinc dX6_forgetsAll_114 (q := 1) rfl (v := b1 + 1) rfl (by decide) (lo' := [(1, .int (b1 + 1)), (0, .ref (zb Z + a0))]) rfl (pc' := 117) rfl ?_
    refine S_goto dX6_forgetsAll_117 2 rfl ?_
    refine Sim.sub [1, 0] rfl ?_
    exact hF _ _
theorem lq_X6_forgetsAll_2 (Z : ZZ) (l : Launch) (a0 : Nat) {args : Array Value} {h0 h1 : HP} {v0 : Unit} (K : HP → Option (Unit × HP))
    (hK : ∀ (h : HP), Sim Z l cX6_forgetsAll RX6 4 3 65 (none) "forgetsAll" args (Mq Z args h0 h1 (none)) h0 h1 v0 120 [] [] h (K h)) :
    ∀ (k : Nat) (b1 : Int32) (h : HP), Sim Z l cX6_forgetsAll RX6 4 3 65 (none) "forgetsAll" args (Mq Z args h0 h1 (none)) h0 h1 v0 2 [(0, .ref (zb Z + a0)), (1, .int b1)] [] h (lp_X6_forgetsAll_2 a0 K k b1 h) := by
  intro k
  induction k with
  | zero => exact fun _ _ => Sim.none
  | succ k ih => exact lc_X6_forgetsAll_2 Z l a0 K _ hK ih
set_option maxRecDepth 100000 in
set_option maxHeartbeats 4000000 in
theorem c_X6_forgetsAll (Z : ZZ) (l : Launch) (t : Nat) (h : HP) {v : Unit} {h1 : HP} (ho : f_X6_forgetsAll t h = some (v, h1)) : MetP Z l yX6_forgetsAll cX6_forgetsAll 4 (none) 3 65 [.ref (zb Z + t)] h (none) h1 := by
  refine MetP_of ho (by decide +kernel) (Nat.le_of_ble_eq_true rfl) [(0, .ref (zb Z + t))] rfl (own := RX6) rfl (nm := "forgetsAll") rfl ?_
  unfold f_X6_forgetsAll
  refine S_iconst dX6_forgetsAll_0 (v := 0) rfl (pc' := 1) rfl ?_
  refine S_istore_n dX6_forgetsAll_1 rfl (by decide) (lo' := [(1, .int 0), (0, .ref (zb Z + t))]) rfl (pc' := 2) rfl ?_
  refine Sim.sub [1, 0] rfl ?_
  refine lq_X6_forgetsAll_2 Z l t _ ?_ 1000 _ _
  intro h2_
  exact S_vret rfl dX6_forgetsAll_120
theorem dX6_picksUp_0 : decode cX6_picksUp 0 = .ok (.iconst 0, 1) := by decide +kernel
theorem dX6_picksUp_1 : decode cX6_picksUp 1 = .ok (.istore_n 1, 1) := by decide +kernel
theorem dX6_picksUp_2 : decode cX6_picksUp 2 = .ok (.iload_n 1, 1) := by decide +kernel
theorem dX6_picksUp_3 : decode cX6_picksUp 3 = .ok (.aload_n 0, 1) := by decide +kernel
theorem dX6_picksUp_4 : decode cX6_picksUp 4 = .ok (.getfield 92, 3) := by decide +kernel
theorem dX6_picksUp_7 : decode cX6_picksUp 7 = .ok (.if_icmp .ge 20, 3) := by decide +kernel
theorem dX6_picksUp_10 : decode cX6_picksUp 10 = .ok (.aload_n 0, 1) := by decide +kernel
theorem dX6_picksUp_11 : decode cX6_picksUp 11 = .ok (.getfield 77, 3) := by decide +kernel
theorem dX6_picksUp_14 : decode cX6_picksUp 14 = .ok (.iload_n 1, 1) := by decide +kernel
theorem dX6_picksUp_15 : decode cX6_picksUp 15 = .ok (.aload_n 0, 1) := by decide +kernel
theorem dX6_picksUp_16 : decode cX6_picksUp 16 = .ok (.iload_n 1, 1) := by decide +kernel
theorem dX6_picksUp_17 : decode cX6_picksUp 17 = .ok (.invokevirtual 270, 3) := by decide +kernel
theorem dX6_picksUp_20 : decode cX6_picksUp 20 = .ok (.iastore, 1) := by decide +kernel
theorem dX6_picksUp_21 : decode cX6_picksUp 21 = .ok (.iinc 1 1, 3) := by decide +kernel
theorem dX6_picksUp_24 : decode cX6_picksUp 24 = .ok (.goto (-22), 3) := by decide +kernel
theorem dX6_picksUp_27 : decode cX6_picksUp 27 = .ok (.iconst 0, 1) := by decide +kernel
theorem dX6_picksUp_28 : decode cX6_picksUp 28 = .ok (.istore_n 1, 1) := by decide +kernel
theorem dX6_picksUp_29 : decode cX6_picksUp 29 = .ok (.iload_n 1, 1) := by decide +kernel
theorem dX6_picksUp_30 : decode cX6_picksUp 30 = .ok (.aload_n 0, 1) := by decide +kernel
theorem dX6_picksUp_31 : decode cX6_picksUp 31 = .ok (.getfield 92, 3) := by decide +kernel
theorem dX6_picksUp_34 : decode cX6_picksUp 34 = .ok (.if_icmp .ge 110, 3) := by decide +kernel
theorem dX6_picksUp_37 : decode cX6_picksUp 37 = .ok (.iconst 0, 1) := by decide +kernel
theorem dX6_picksUp_38 : decode cX6_picksUp 38 = .ok (.istore_n 2, 1) := by decide +kernel
theorem dX6_picksUp_39 : decode cX6_picksUp 39 = .ok (.iconst 0, 1) := by decide +kernel
theorem dX6_picksUp_40 : decode cX6_picksUp 40 = .ok (.istore_n 3, 1) := by decide +kernel
theorem dX6_picksUp_41 : decode cX6_picksUp 41 = .ok (.iload_n 3, 1) := by decide +kernel
theorem dX6_picksUp_42 : decode cX6_picksUp 42 = .ok (.aload_n 0, 1) := by decide +kernel
theorem dX6_picksUp_43 : decode cX6_picksUp 43 = .ok (.getfield 92, 3) := by decide +kernel
theorem dX6_picksUp_46 : decode cX6_picksUp 46 = .ok (.if_icmp .ge 36, 3) := by decide +kernel
theorem dX6_picksUp_49 : decode cX6_picksUp 49 = .ok (.iload_n 2, 1) := by decide +kernel
theorem dX6_picksUp_50 : decode cX6_picksUp 50 = .ok (.aload_n 0, 1) := by decide +kernel
theorem dX6_picksUp_51 : decode cX6_picksUp 51 = .ok (.getfield 53, 3) := by decide +kernel
theorem dX6_picksUp_54 : decode cX6_picksUp 54 = .ok (.iload_n 1, 1) := by decide +kernel
theorem dX6_picksUp_55 : decode cX6_picksUp 55 = .ok (.iaload, 1) := by decide +kernel
theorem dX6_picksUp_56 : decode cX6_picksUp 56 = .ok (.iload_n 3, 1) := by decide +kernel
theorem dX6_picksUp_57 : decode cX6_picksUp 57 = .ok (.ishr, 1) := by decide +kernel
theorem dX6_picksUp_58 : decode cX6_picksUp 58 = .ok (.iconst 1, 1) := by decide +kernel
theorem dX6_picksUp_59 : decode cX6_picksUp 59 = .ok (.iand, 1) := by decide +kernel
theorem dX6_picksUp_60 : decode cX6_picksUp 60 = .ok (.iconst 1, 1) := by decide +kernel
theorem dX6_picksUp_61 : decode cX6_picksUp 61 = .ok (.if_icmp .ne 12, 3) := by decide +kernel
theorem dX6_picksUp_64 : decode cX6_picksUp 64 = .ok (.aload_n 0, 1) := by decide +kernel
theorem dX6_picksUp_65 : decode cX6_picksUp 65 = .ok (.getfield 77, 3) := by decide +kernel
theorem dX6_picksUp_68 : decode cX6_picksUp 68 = .ok (.iload_n 3, 1) := by decide +kernel
theorem dX6_picksUp_69 : decode cX6_picksUp 69 = .ok (.iaload, 1) := by decide +kernel
theorem dX6_picksUp_70 : decode cX6_picksUp 70 = .ok (.goto 4, 3) := by decide +kernel
theorem dX6_picksUp_73 : decode cX6_picksUp 73 = .ok (.iconst 0, 1) := by decide +kernel
theorem dX6_picksUp_74 : decode cX6_picksUp 74 = .ok (.ior, 1) := by decide +kernel
theorem dX6_picksUp_75 : decode cX6_picksUp 75 = .ok (.istore_n 2, 1) := by decide +kernel
theorem dX6_picksUp_76 : decode cX6_picksUp 76 = .ok (.iinc 3 1, 3) := by decide +kernel
theorem dX6_picksUp_79 : decode cX6_picksUp 79 = .ok (.goto (-38), 3) := by decide +kernel
theorem dX6_picksUp_82 : decode cX6_picksUp 82 = .ok (.iconst 0, 1) := by decide +kernel
theorem dX6_picksUp_83 : decode cX6_picksUp 83 = .ok (.istore_n 3, 1) := by decide +kernel
theorem dX6_picksUp_84 : decode cX6_picksUp 84 = .ok (.iload_n 3, 1) := by decide +kernel
theorem dX6_picksUp_85 : decode cX6_picksUp 85 = .ok (.aload_n 0, 1) := by decide +kernel
theorem dX6_picksUp_86 : decode cX6_picksUp 86 = .ok (.getfield 99, 3) := by decide +kernel
theorem dX6_picksUp_89 : decode cX6_picksUp 89 = .ok (.if_icmp .ge 49, 3) := by decide +kernel
theorem dX6_picksUp_92 : decode cX6_picksUp 92 = .ok (.aload_n 0, 1) := by decide +kernel
theorem dX6_picksUp_93 : decode cX6_picksUp 93 = .ok (.getfield 41, 3) := by decide +kernel
theorem dX6_picksUp_96 : decode cX6_picksUp 96 = .ok (.iload_n 1, 1) := by decide +kernel
theorem dX6_picksUp_97 : decode cX6_picksUp 97 = .ok (.iaload, 1) := by decide +kernel
theorem dX6_picksUp_98 : decode cX6_picksUp 98 = .ok (.iconst 5, 1) := by decide +kernel
theorem dX6_picksUp_99 : decode cX6_picksUp 99 = .ok (.if_icmp .ne 39, 3) := by decide +kernel
theorem dX6_picksUp_102 : decode cX6_picksUp 102 = .ok (.iload_n 2, 1) := by decide +kernel
theorem dX6_picksUp_103 : decode cX6_picksUp 103 = .ok (.aload_n 0, 1) := by decide +kernel
theorem dX6_picksUp_104 : decode cX6_picksUp 104 = .ok (.getfield 77, 3) := by decide +kernel
theorem dX6_picksUp_107 : decode cX6_picksUp 107 = .ok (.iload_n 1, 1) := by decide +kernel
theorem dX6_picksUp_108 : decode cX6_picksUp 108 = .ok (.iaload, 1) := by decide +kernel
theorem dX6_picksUp_109 : decode cX6_picksUp 109 = .ok (.iconst (-1), 1) := by decide +kernel
theorem dX6_picksUp_110 : decode cX6_picksUp 110 = .ok (.ixor, 1) := by decide +kernel
theorem dX6_picksUp_111 : decode cX6_picksUp 111 = .ok (.iand, 1) := by decide +kernel
theorem dX6_picksUp_112 : decode cX6_picksUp 112 = .ok (.iload_n 3, 1) := by decide +kernel
theorem dX6_picksUp_113 : decode cX6_picksUp 113 = .ok (.ishr, 1) := by decide +kernel
theorem dX6_picksUp_114 : decode cX6_picksUp 114 = .ok (.iconst 1, 1) := by decide +kernel
theorem dX6_picksUp_115 : decode cX6_picksUp 115 = .ok (.iand, 1) := by decide +kernel
theorem dX6_picksUp_116 : decode cX6_picksUp 116 = .ok (.iconst 1, 1) := by decide +kernel
theorem dX6_picksUp_117 : decode cX6_picksUp 117 = .ok (.if_icmp .ne 15, 3) := by decide +kernel
theorem dX6_picksUp_120 : decode cX6_picksUp 120 = .ok (.aload_n 0, 1) := by decide +kernel
theorem dX6_picksUp_121 : decode cX6_picksUp 121 = .ok (.getfield 68, 3) := by decide +kernel
theorem dX6_picksUp_124 : decode cX6_picksUp 124 = .ok (.iload_n 1, 1) := by decide +kernel
theorem dX6_picksUp_125 : decode cX6_picksUp 125 = .ok (.bipush 6, 2) := by decide +kernel
theorem dX6_picksUp_127 : decode cX6_picksUp 127 = .ok (.imul, 1) := by decide +kernel
theorem dX6_picksUp_128 : decode cX6_picksUp 128 = .ok (.iload_n 3, 1) := by decide +kernel
theorem dX6_picksUp_129 : decode cX6_picksUp 129 = .ok (.iadd, 1) := by decide +kernel
theorem dX6_picksUp_130 : decode cX6_picksUp 130 = .ok (.iconst 0, 1) := by decide +kernel
theorem dX6_picksUp_131 : decode cX6_picksUp 131 = .ok (.iastore, 1) := by decide +kernel
theorem dX6_picksUp_132 : decode cX6_picksUp 132 = .ok (.iinc 3 1, 3) := by decide +kernel
theorem dX6_picksUp_135 : decode cX6_picksUp 135 = .ok (.goto (-51), 3) := by decide +kernel
theorem dX6_picksUp_138 : decode cX6_picksUp 138 = .ok (.iinc 1 1, 3) := by decide +kernel
theorem dX6_picksUp_141 : decode cX6_picksUp 141 = .ok (.goto (-112), 3) := by decide +kernel
theorem dX6_picksUp_144 : decode cX6_picksUp 144 = .ok (.return_, 1) := by decide +kernel
set_option maxRecDepth 100000 in
set_option maxHeartbeats 4000000 in
theorem lc_X6_picksUp_2 (Z : ZZ) (l : Launch) (a0 : Nat) {args : Array Value} {h0 h1 : HP} {v0 : Unit} (K : HP → Option (Unit × HP)) (F : Int32 → HP → Option (Unit × HP))
    (hK : ∀ (h : HP), Sim Z l cX6_picksUp RX6 4 2 45 (none) "picksUp" args (Mq Z args h0 h1 (none)) h0 h1 v0 27 [(0, .ref (zb Z + a0))] [] h (K h))
    (hF : ∀ (b1 : Int32) (h : HP), Sim Z l cX6_picksUp RX6 4 2 45 (none) "picksUp" args (Mq Z args h0 h1 (none)) h0 h1 v0 2 [(0, .ref (zb Z + a0)), (1, .int b1)] [] h (F b1 h)) :
    ∀ (b1 : Int32) (h : HP), Sim Z l cX6_picksUp RX6 4 2 45 (none) "picksUp" args (Mq Z args h0 h1 (none)) h0 h1 v0 2 [(0, .ref (zb Z + a0)), (1, .int b1)] [] h (lb_X6_picksUp_2 a0 K F b1 h) := by
  intro b1 h
  unfold lb_X6_picksUp_2
  refine S_iload_n dX6_picksUp_2 rfl 1 rfl (pc' := 3) rfl ?_
  refine S_aload_n dX6_picksUp_3 rfl 0 rfl (pc' := 4) rfl ?_
  refine S_getI fl_X6_92 rfl dX6_picksUp_4 (pc' := 7) rfl (fun x4 => ?_)
  refine S_icmp_ge dX6_picksUp_7 27 rfl (pc' := 10) rfl (fun g7 => ?_) (fun g7 => ?_)
  · refine Sim.sub [0] rfl ?_
    exact hK _
  · refine S_aload_n dX6_picksUp_10 rfl 0 rfl (pc' := 11) rfl ?_
    refine S_getR fl_X6_77 rfl dX6_picksUp_11 (pc' := 14) rfl (fun x11 => ?_)
    refine S_iload_n dX6_picksUp_14 rfl 1 rfl (pc' := 15) rfl ?_
    refine S_aload_n dX6_picksUp_15 rfl 0 rfl (pc' := 16) rfl ?_
    refine S_iload_n dX6_picksUp_16 rfl 1 rfl (pc' := 17) rfl ?_
    refine S_invi ml_X6_270 mi_X6_songsOf (ci := 6) ⟨_, rfl, rfl⟩ (by decide) dX6_picksUp_17 [.int b1] rfl (fun v h2 q => c_X6_songsOf Z l _ _ _ q) ⟨Nat.le_of_ble_eq_true rfl, Nat.le_of_ble_eq_true rfl⟩ (rest := [.int b1, .ref (zb Z + x11)]) (Nat.le_of_ble_eq_true rfl) rfl (pc' := 20) rfl (fun x17 h17 => ?_)
    refine S_iastore dX6_picksUp_20 (pc' := 21) rfl (fun h20 => ?_)
    refine S_iinc dX6_picksUp_21 (q := 1) rfl (v := b1 + 1) rfl (by decide) (lo' := [(1, .int (b1 + 1)), (0, .ref (zb Z + a0))]) rfl (pc' := 24) rfl ?_
    refine S_goto dX6_picksUp_24 2 rfl ?_
    refine Sim.sub [1, 0] rfl ?_
    exact hF _ _
theorem lq_X6_picksUp_2 (Z : ZZ) (l : Launch) (a0 : Nat) {args : Array Value} {h0 h1 : HP} {v0 : Unit} (K : HP → Option (Unit × HP))
    (hK : ∀ (h : HP), Sim Z l cX6_picksUp RX6 4 2 45 (none) "picksUp" args (Mq Z args h0 h1 (none)) h0 h1 v0 27 [(0, .ref (zb Z + a0))] [] h (K h)) :
    ∀ (k : Nat) (b1 : Int32) (h : HP), Sim Z l cX6_picksUp RX6 4 2 45 (none) "picksUp" args (Mq Z args h0 h1 (none)) h0 h1 v0 2 [(0, .ref (zb Z + a0)), (1, .int b1)] [] h (lp_X6_picksUp_2 a0 K k b1 h) := by
  intro k
  induction k with
  | zero => exact fun _ _ => Sim.none
  | succ k ih => exact lc_X6_picksUp_2 Z l a0 K _ hK ih
set_option maxRecDepth 100000 in
set_option maxHeartbeats 4000000 in
theorem lc_X6_picksUp_41 (Z : ZZ) (l : Launch) (a0 : Nat) (a1 : Int32) {args : Array Value} {h0 h1 : HP} {v0 : Unit} (K : Int32 → HP → Option (Unit × HP)) (F : Int32 → Int32 → HP → Option (Unit × HP))
    (hK : ∀ (b2 : Int32) (h : HP), Sim Z l cX6_picksUp RX6 4 2 45 (none) "picksUp" args (Mq Z args h0 h1 (none)) h0 h1 v0 82 [(0, .ref (zb Z + a0)), (1, .int a1), (2, .int b2)] [] h (K b2 h))
    (hF : ∀ (b2 : Int32) (b3 : Int32) (h : HP), Sim Z l cX6_picksUp RX6 4 2 45 (none) "picksUp" args (Mq Z args h0 h1 (none)) h0 h1 v0 41 [(0, .ref (zb Z + a0)), (1, .int a1), (2, .int b2), (3, .int b3)] [] h (F b2 b3 h)) :
    ∀ (b2 : Int32) (b3 : Int32) (h : HP), Sim Z l cX6_picksUp RX6 4 2 45 (none) "picksUp" args (Mq Z args h0 h1 (none)) h0 h1 v0 41 [(0, .ref (zb Z + a0)), (1, .int a1), (2, .int b2), (3, .int b3)] [] h (lb_X6_picksUp_41 a0 a1 K F b2 b3 h) := by
  intro b2 b3 h
  unfold lb_X6_picksUp_41
  refine S_iload_n dX6_picksUp_41 rfl 3 rfl (pc' := 42) rfl ?_
  refine S_aload_n dX6_picksUp_42 rfl 0 rfl (pc' := 43) rfl ?_
  refine S_getI fl_X6_92 rfl dX6_picksUp_43 (pc' := 46) rfl (fun x43 => ?_)
  refine S_icmp_ge dX6_picksUp_46 82 rfl (pc' := 49) rfl (fun g46 => ?_) (fun g46 => ?_)
  · refine Sim.sub [0, 1, 2] rfl ?_
    exact hK _ _
  · refine S_iload_n dX6_picksUp_49 rfl 2 rfl (pc' := 50) rfl ?_
    refine S_aload_n dX6_picksUp_50 rfl 0 rfl (pc' := 51) rfl ?_
    refine S_getR fl_X6_53 rfl dX6_picksUp_51 (pc' := 54) rfl (fun x51 => ?_)
    refine S_iload_n dX6_picksUp_54 rfl 1 rfl (pc' := 55) rfl ?_
    refine S_iaload dX6_picksUp_55 (pc' := 56) rfl (fun x55 => ?_)
    refine S_iload_n dX6_picksUp_56 rfl 3 rfl (pc' := 57) rfl ?_
    refine S_ishr dX6_picksUp_57 (pc' := 58) rfl ?_
    refine S_iconst dX6_picksUp_58 (v := 1) rfl (pc' := 59) rfl ?_
    refine S_iand dX6_picksUp_59 (pc' := 60) rfl ?_
    refine S_iconst dX6_picksUp_60 (v := 1) rfl (pc' := 61) rfl ?_
    refine S_icmp_ne dX6_picksUp_61 73 rfl (pc' := 64) rfl (fun g61 => ?_) (fun g61 => ?_)
    · refine S_iconst dX6_picksUp_73 (v := 0) rfl (pc' := 74) rfl ?_
      refine S_ior dX6_picksUp_74 (pc' := 75) rfl ?_
      refine S_istore_n dX6_picksUp_75 rfl (by decide) (lo' := [(2, .int (b2 ||| 0)), (0, .ref (zb Z + a0)), (1, .int a1), (3, .int b3)]) rfl (pc' := 76) rfl ?_
      refine S_iinc dX6_picksUp_76 (q := 3) rfl (v := b3 + 1) rfl (by decide) (lo' := [(3, .int (b3 + 1)), (2, .int (b2 ||| 0)), (0, .ref (zb Z + a0)), (1, .int a1)]) rfl (pc' := 79) rfl ?_
      refine S_goto dX6_picksUp_79 41 rfl ?_
      refine Sim.sub [2, 3, 1, 0] rfl ?_
      exact hF _ _ _
    · refine S_aload_n dX6_picksUp_64 rfl 0 rfl (pc' := 65) rfl ?_
      refine S_getR fl_X6_77 rfl dX6_picksUp_65 (pc' := 68) rfl (fun x65 => ?_)
      refine S_iload_n dX6_picksUp_68 rfl 3 rfl (pc' := 69) rfl ?_
      refine S_iaload dX6_picksUp_69 (pc' := 70) rfl (fun x69 => ?_)
      refine S_goto dX6_picksUp_70 74 rfl ?_
      refine S_ior dX6_picksUp_74 (pc' := 75) rfl ?_
      refine S_istore_n dX6_picksUp_75 rfl (by decide) (lo' := [(2, .int (b2 ||| x69)), (0, .ref (zb Z + a0)), (1, .int a1), (3, .int b3)]) rfl (pc' := 76) rfl ?_
      refine S_iinc dX6_picksUp_76 (q := 3) rfl (v := b3 + 1) rfl (by decide) (lo' := [(3, .int (b3 + 1)), (2, .int (b2 ||| x69)), (0, .ref (zb Z + a0)), (1, .int a1)]) rfl (pc' := 79) rfl ?_
      refine S_goto dX6_picksUp_79 41 rfl ?_
      refine Sim.sub [2, 3, 1, 0] rfl ?_
      exact hF _ _ _
theorem lq_X6_picksUp_41 (Z : ZZ) (l : Launch) (a0 : Nat) (a1 : Int32) {args : Array Value} {h0 h1 : HP} {v0 : Unit} (K : Int32 → HP → Option (Unit × HP))
    (hK : ∀ (b2 : Int32) (h : HP), Sim Z l cX6_picksUp RX6 4 2 45 (none) "picksUp" args (Mq Z args h0 h1 (none)) h0 h1 v0 82 [(0, .ref (zb Z + a0)), (1, .int a1), (2, .int b2)] [] h (K b2 h)) :
    ∀ (k : Nat) (b2 : Int32) (b3 : Int32) (h : HP), Sim Z l cX6_picksUp RX6 4 2 45 (none) "picksUp" args (Mq Z args h0 h1 (none)) h0 h1 v0 41 [(0, .ref (zb Z + a0)), (1, .int a1), (2, .int b2), (3, .int b3)] [] h (lp_X6_picksUp_41 a0 a1 K k b2 b3 h) := by
  intro k
  induction k with
  | zero => exact fun _ _ _ => Sim.none
  | succ k ih => exact lc_X6_picksUp_41 Z l a0 a1 K _ hK ih
set_option maxRecDepth 100000 in
set_option maxHeartbeats 4000000 in
theorem lc_X6_picksUp_84 (Z : ZZ) (l : Launch) (a0 : Nat) (a1 : Int32) (a2 : Int32) {args : Array Value} {h0 h1 : HP} {v0 : Unit} (K : HP → Option (Unit × HP)) (F : Int32 → HP → Option (Unit × HP))
    (hK : ∀ (h : HP), Sim Z l cX6_picksUp RX6 4 2 45 (none) "picksUp" args (Mq Z args h0 h1 (none)) h0 h1 v0 138 [(0, .ref (zb Z + a0)), (1, .int a1)] [] h (K h))
    (hF : ∀ (b3 : Int32) (h : HP), Sim Z l cX6_picksUp RX6 4 2 45 (none) "picksUp" args (Mq Z args h0 h1 (none)) h0 h1 v0 84 [(0, .ref (zb Z + a0)), (1, .int a1), (2, .int a2), (3, .int b3)] [] h (F b3 h)) :
    ∀ (b3 : Int32) (h : HP), Sim Z l cX6_picksUp RX6 4 2 45 (none) "picksUp" args (Mq Z args h0 h1 (none)) h0 h1 v0 84 [(0, .ref (zb Z + a0)), (1, .int a1), (2, .int a2), (3, .int b3)] [] h (lb_X6_picksUp_84 a0 a1 a2 K F b3 h) := by
  intro b3 h
  unfold lb_X6_picksUp_84
  refine S_iload_n dX6_picksUp_84 rfl 3 rfl (pc' := 85) rfl ?_
  refine S_aload_n dX6_picksUp_85 rfl 0 rfl (pc' := 86) rfl ?_
  refine S_getI fl_X6_99 rfl dX6_picksUp_86 (pc' := 89) rfl (fun x86 => ?_)
  refine S_icmp_ge dX6_picksUp_89 138 rfl (pc' := 92) rfl (fun g89 => ?_) (fun g89 => ?_)
  · refine Sim.sub [0, 1] rfl ?_
    exact hK _
  · refine S_aload_n dX6_picksUp_92 rfl 0 rfl (pc' := 93) rfl ?_
    refine S_getR fl_X6_41 rfl dX6_picksUp_93 (pc' := 96) rfl (fun x93 => ?_)
    refine S_iload_n dX6_picksUp_96 rfl 1 rfl (pc' := 97) rfl ?_
    refine S_iaload dX6_picksUp_97 (pc' := 98) rfl (fun x97 => ?_)
    refine S_iconst dX6_picksUp_98 (v := 5) rfl (pc' := 99) rfl ?_
    refine S_icmp_ne dX6_picksUp_99 138 rfl (pc' := 102) rfl (fun g99 => ?_) (fun g99 => ?_)
    · refine Sim.sub [0, 1] rfl ?_
      exact hK _
    · refine S_iload_n dX6_picksUp_102 rfl 2 rfl (pc' := 103) rfl ?_
      refine S_aload_n dX6_picksUp_103 rfl 0 rfl (pc' := 104) rfl ?_
      refine S_getR fl_X6_77 rfl dX6_picksUp_104 (pc' := 107) rfl (fun x104 => ?_)
      refine S_iload_n dX6_picksUp_107 rfl 1 rfl (pc' := 108) rfl ?_
      refine S_iaload dX6_picksUp_108 (pc' := 109) rfl (fun x108 => ?_)
      refine S_iconst dX6_picksUp_109 (v := (-1)) rfl (pc' := 110) rfl ?_
      refine S_ixor dX6_picksUp_110 (pc' := 111) rfl ?_
      refine S_iand dX6_picksUp_111 (pc' := 112) rfl ?_
      refine S_iload_n dX6_picksUp_112 rfl 3 rfl (pc' := 113) rfl ?_
      refine S_ishr dX6_picksUp_113 (pc' := 114) rfl ?_
      refine S_iconst dX6_picksUp_114 (v := 1) rfl (pc' := 115) rfl ?_
      refine S_iand dX6_picksUp_115 (pc' := 116) rfl ?_
      refine S_iconst dX6_picksUp_116 (v := 1) rfl (pc' := 117) rfl ?_
      refine S_icmp_ne dX6_picksUp_117 132 rfl (pc' := 120) rfl (fun g117 => ?_) (fun g117 => ?_)
      · refine S_iinc dX6_picksUp_132 (q := 3) rfl (v := b3 + 1) rfl (by decide) (lo' := [(3, .int (b3 + 1)), (0, .ref (zb Z + a0)), (1, .int a1), (2, .int a2)]) rfl (pc' := 135) rfl ?_
        refine S_goto dX6_picksUp_135 84 rfl ?_
        refine Sim.sub [1, 2, 3, 0] rfl ?_
        exact hF _ _
      · refine S_aload_n dX6_picksUp_120 rfl 0 rfl (pc' := 121) rfl ?_
        refine S_getR fl_X6_68 rfl dX6_picksUp_121 (pc' := 124) rfl (fun x121 => ?_)
        refine S_iload_n dX6_picksUp_124 rfl 1 rfl (pc' := 125) rfl ?_
        refine S_bipush dX6_picksUp_125 (v := 6) rfl (pc' := 127) rfl ?_
        refine S_imul dX6_picksUp_127 (pc' := 128) rfl ?_
        refine S_iload_n dX6_picksUp_128 rfl 3 rfl (pc' := 129) rfl ?_
        refine S_iadd dX6_picksUp_129 (pc' := 130) rfl ?_
        refine S_iconst dX6_picksUp_130 (v := 0) rfl (pc' := 131) rfl ?_
        refine S_iastore dX6_picksUp_131 (pc' := 132) rfl (fun h131 => ?_)
        refine S_iinc dX6_picksUp_132 (q := 3) rfl (v := b3 + 1) rfl (by decide) (lo' := [(3, .int (b3 + 1)), (0, .ref (zb Z + a0)), (1, .int a1), (2, .int a2)]) rfl (pc' := 135) rfl ?_
        refine S_goto dX6_picksUp_135 84 rfl ?_
        refine Sim.sub [1, 2, 3, 0] rfl ?_
        exact hF _ _
theorem lq_X6_picksUp_84 (Z : ZZ) (l : Launch) (a0 : Nat) (a1 : Int32) (a2 : Int32) {args : Array Value} {h0 h1 : HP} {v0 : Unit} (K : HP → Option (Unit × HP))
    (hK : ∀ (h : HP), Sim Z l cX6_picksUp RX6 4 2 45 (none) "picksUp" args (Mq Z args h0 h1 (none)) h0 h1 v0 138 [(0, .ref (zb Z + a0)), (1, .int a1)] [] h (K h)) :
    ∀ (k : Nat) (b3 : Int32) (h : HP), Sim Z l cX6_picksUp RX6 4 2 45 (none) "picksUp" args (Mq Z args h0 h1 (none)) h0 h1 v0 84 [(0, .ref (zb Z + a0)), (1, .int a1), (2, .int a2), (3, .int b3)] [] h (lp_X6_picksUp_84 a0 a1 a2 K k b3 h) := by
  intro k
  induction k with
  | zero => exact fun _ _ => Sim.none
  | succ k ih => exact lc_X6_picksUp_84 Z l a0 a1 a2 K _ hK ih
set_option maxRecDepth 100000 in
set_option maxHeartbeats 4000000 in
theorem lc_X6_picksUp_29 (Z : ZZ) (l : Launch) (a0 : Nat) {args : Array Value} {h0 h1 : HP} {v0 : Unit} (K : HP → Option (Unit × HP)) (F : Int32 → HP → Option (Unit × HP))
    (hK : ∀ (h : HP), Sim Z l cX6_picksUp RX6 4 2 45 (none) "picksUp" args (Mq Z args h0 h1 (none)) h0 h1 v0 144 [] [] h (K h))
    (hF : ∀ (b1 : Int32) (h : HP), Sim Z l cX6_picksUp RX6 4 2 45 (none) "picksUp" args (Mq Z args h0 h1 (none)) h0 h1 v0 29 [(0, .ref (zb Z + a0)), (1, .int b1)] [] h (F b1 h)) :
    ∀ (b1 : Int32) (h : HP), Sim Z l cX6_picksUp RX6 4 2 45 (none) "picksUp" args (Mq Z args h0 h1 (none)) h0 h1 v0 29 [(0, .ref (zb Z + a0)), (1, .int b1)] [] h (lb_X6_picksUp_29 a0 K F b1 h) := by
  intro b1 h
  unfold lb_X6_picksUp_29
  refine S_iload_n dX6_picksUp_29 rfl 1 rfl (pc' := 30) rfl ?_
  refine S_aload_n dX6_picksUp_30 rfl 0 rfl (pc' := 31) rfl ?_
  refine S_getI fl_X6_92 rfl dX6_picksUp_31 (pc' := 34) rfl (fun x31 => ?_)
  refine S_icmp_ge dX6_picksUp_34 144 rfl (pc' := 37) rfl (fun g34 => ?_) (fun g34 => ?_)
  · refine Sim.sub [] rfl ?_
    exact hK _
  · refine S_iconst dX6_picksUp_37 (v := 0) rfl (pc' := 38) rfl ?_
    refine S_istore_n dX6_picksUp_38 rfl (by decide) (lo' := [(2, .int 0), (0, .ref (zb Z + a0)), (1, .int b1)]) rfl (pc' := 39) rfl ?_
    refine S_iconst dX6_picksUp_39 (v := 0) rfl (pc' := 40) rfl ?_
    refine S_istore_n dX6_picksUp_40 rfl (by decide) (lo' := [(3, .int 0), (2, .int 0), (0, .ref (zb Z + a0)), (1, .int b1)]) rfl (pc' := 41) rfl ?_
    refine Sim.sub [2, 3, 1, 0] rfl ?_
    refine lq_X6_picksUp_41 Z l a0 b1 _ ?_ 1000 _ _ _
    intro b2_41 h41_
    refine S_iconst dX6_picksUp_82 (v := 0) rfl (pc' := 83) rfl ?_
    refine S_istore_n dX6_picksUp_83 rfl (by decide) (lo' := [(3, .int 0), (0, .ref (zb Z + a0)), (1, .int b1), (2, .int b2_41)]) rfl (pc' := 84) rfl ?_
    refine Sim.sub [1, 2, 3, 0] rfl ?_
    refine lq_X6_picksUp_84 Z l a0 b1 b2_41 _ ?_ 1000 _ _
    intro h84_
    refine S_iinc dX6_picksUp_138 (q := 1) rfl (v := b1 + 1) rfl (by decide) (lo' := [(1, .int (b1 + 1)), (0, .ref (zb Z + a0))]) rfl (pc' := 141) rfl ?_
    refine S_goto dX6_picksUp_141 29 rfl ?_
    refine Sim.sub [1, 0] rfl ?_
    exact hF _ _
theorem lq_X6_picksUp_29 (Z : ZZ) (l : Launch) (a0 : Nat) {args : Array Value} {h0 h1 : HP} {v0 : Unit} (K : HP → Option (Unit × HP))
    (hK : ∀ (h : HP), Sim Z l cX6_picksUp RX6 4 2 45 (none) "picksUp" args (Mq Z args h0 h1 (none)) h0 h1 v0 144 [] [] h (K h)) :
    ∀ (k : Nat) (b1 : Int32) (h : HP), Sim Z l cX6_picksUp RX6 4 2 45 (none) "picksUp" args (Mq Z args h0 h1 (none)) h0 h1 v0 29 [(0, .ref (zb Z + a0)), (1, .int b1)] [] h (lp_X6_picksUp_29 a0 K k b1 h) := by
  intro k
  induction k with
  | zero => exact fun _ _ => Sim.none
  | succ k ih => exact lc_X6_picksUp_29 Z l a0 K _ hK ih
set_option maxRecDepth 100000 in
set_option maxHeartbeats 4000000 in
theorem c_X6_picksUp (Z : ZZ) (l : Launch) (t : Nat) (h : HP) {v : Unit} {h1 : HP} (ho : f_X6_picksUp t h = some (v, h1)) : MetP Z l yX6_picksUp cX6_picksUp 4 (none) 2 45 [.ref (zb Z + t)] h (none) h1 := by
  refine MetP_of ho (by decide +kernel) (Nat.le_of_ble_eq_true rfl) [(0, .ref (zb Z + t))] rfl (own := RX6) rfl (nm := "picksUp") rfl ?_
  unfold f_X6_picksUp
  refine S_iconst dX6_picksUp_0 (v := 0) rfl (pc' := 1) rfl ?_
  refine S_istore_n dX6_picksUp_1 rfl (by decide) (lo' := [(1, .int 0), (0, .ref (zb Z + t))]) rfl (pc' := 2) rfl ?_
  refine Sim.sub [1, 0] rfl ?_
  refine lq_X6_picksUp_2 Z l t _ ?_ 1000 _ _
  intro h2_
  refine S_iconst dX6_picksUp_27 (v := 0) rfl (pc' := 28) rfl ?_
  refine S_istore_n dX6_picksUp_28 rfl (by decide) (lo' := [(1, .int 0), (0, .ref (zb Z + t))]) rfl (pc' := 29) rfl ?_
  refine Sim.sub [1, 0] rfl ?_
  refine lq_X6_picksUp_29 Z l t _ ?_ 1000 _ _
  intro h29_
  exact S_vret rfl dX6_picksUp_144
theorem dX6_passes_0 : decode cX6_passes 0 = .ok (.aload_n 0, 1) := by decide +kernel
theorem dX6_passes_1 : decode cX6_passes 1 = .ok (.aload_n 0, 1) := by decide +kernel
theorem dX6_passes_2 : decode cX6_passes 2 = .ok (.getfield 161, 3) := by decide +kernel
theorem dX6_passes_5 : decode cX6_passes 5 = .ok (.sipush 999, 3) := by decide +kernel
theorem dX6_passes_8 : decode cX6_passes 8 = .ok (.if_icmp .ge 12, 3) := by decide +kernel
theorem dX6_passes_11 : decode cX6_passes 11 = .ok (.aload_n 0, 1) := by decide +kernel
theorem dX6_passes_12 : decode cX6_passes 12 = .ok (.getfield 161, 3) := by decide +kernel
theorem dX6_passes_15 : decode cX6_passes 15 = .ok (.iconst 1, 1) := by decide +kernel
theorem dX6_passes_16 : decode cX6_passes 16 = .ok (.iadd, 1) := by decide +kernel
theorem dX6_passes_17 : decode cX6_passes 17 = .ok (.goto 6, 3) := by decide +kernel
theorem dX6_passes_20 : decode cX6_passes 20 = .ok (.sipush 999, 3) := by decide +kernel
theorem dX6_passes_23 : decode cX6_passes 23 = .ok (.putfield 161, 3) := by decide +kernel
theorem dX6_passes_26 : decode cX6_passes 26 = .ok (.aload_n 0, 1) := by decide +kernel
theorem dX6_passes_27 : decode cX6_passes 27 = .ok (.invokevirtual 276, 3) := by decide +kernel
theorem dX6_passes_30 : decode cX6_passes 30 = .ok (.aload_n 0, 1) := by decide +kernel
theorem dX6_passes_31 : decode cX6_passes 31 = .ok (.invokevirtual 279, 3) := by decide +kernel
theorem dX6_passes_34 : decode cX6_passes 34 = .ok (.iconst 0, 1) := by decide +kernel
theorem dX6_passes_35 : decode cX6_passes 35 = .ok (.istore_n 1, 1) := by decide +kernel
theorem dX6_passes_36 : decode cX6_passes 36 = .ok (.aload_n 0, 1) := by decide +kernel
theorem dX6_passes_37 : decode cX6_passes 37 = .ok (.invokevirtual 282, 3) := by decide +kernel
theorem dX6_passes_40 : decode cX6_passes 40 = .ok (.istore_n 2, 1) := by decide +kernel
theorem dX6_passes_41 : decode cX6_passes 41 = .ok (.iconst 0, 1) := by decide +kernel
theorem dX6_passes_42 : decode cX6_passes 42 = .ok (.istore_n 3, 1) := by decide +kernel
theorem dX6_passes_43 : decode cX6_passes 43 = .ok (.iload_n 3, 1) := by decide +kernel
theorem dX6_passes_44 : decode cX6_passes 44 = .ok (.aload_n 0, 1) := by decide +kernel
theorem dX6_passes_45 : decode cX6_passes 45 = .ok (.getfield 99, 3) := by decide +kernel
theorem dX6_passes_48 : decode cX6_passes 48 = .ok (.if_icmp .ge 88, 3) := by decide +kernel
theorem dX6_passes_51 : decode cX6_passes 51 = .ok (.aload_n 0, 1) := by decide +kernel
theorem dX6_passes_52 : decode cX6_passes 52 = .ok (.getfield 62, 3) := by decide +kernel
theorem dX6_passes_55 : decode cX6_passes 55 = .ok (.iload_n 3, 1) := by decide +kernel
theorem dX6_passes_56 : decode cX6_passes 56 = .ok (.iaload, 1) := by decide +kernel
theorem dX6_passes_57 : decode cX6_passes 57 = .ok (.iconst 1, 1) := by decide +kernel
theorem dX6_passes_58 : decode cX6_passes 58 = .ok (.if_icmp .ne 48, 3) := by decide +kernel
theorem dX6_passes_61 : decode cX6_passes 61 = .ok (.aload_n 0, 1) := by decide +kernel
theorem dX6_passes_62 : decode cX6_passes 62 = .ok (.getfield 59, 3) := by decide +kernel
theorem dX6_passes_65 : decode cX6_passes 65 = .ok (.iload_n 3, 1) := by decide +kernel
theorem dX6_passes_66 : decode cX6_passes 66 = .ok (.iaload, 1) := by decide +kernel
theorem dX6_passes_67 : decode cX6_passes 67 = .ok (.aload_n 0, 1) := by decide +kernel
theorem dX6_passes_68 : decode cX6_passes 68 = .ok (.getfield 161, 3) := by decide +kernel
theorem dX6_passes_71 : decode cX6_passes 71 = .ok (.iconst 5, 1) := by decide +kernel
theorem dX6_passes_72 : decode cX6_passes 72 = .ok (.irem, 1) := by decide +kernel
theorem dX6_passes_73 : decode cX6_passes 73 = .ok (.if_icmp .ne 33, 3) := by decide +kernel
theorem dX6_passes_76 : decode cX6_passes 76 = .ok (.iload_n 2, 1) := by decide +kernel
theorem dX6_passes_77 : decode cX6_passes 77 = .ok (.iconst (-1), 1) := by decide +kernel
theorem dX6_passes_78 : decode cX6_passes 78 = .ok (.if_icmp .eq 28, 3) := by decide +kernel
theorem dX6_passes_81 : decode cX6_passes 81 = .ok (.aload_n 0, 1) := by decide +kernel
theorem dX6_passes_82 : decode cX6_passes 82 = .ok (.getfield 68, 3) := by decide +kernel
theorem dX6_passes_85 : decode cX6_passes 85 = .ok (.iload_n 2, 1) := by decide +kernel
theorem dX6_passes_86 : decode cX6_passes 86 = .ok (.bipush 6, 2) := by decide +kernel
theorem dX6_passes_88 : decode cX6_passes 88 = .ok (.imul, 1) := by decide +kernel
theorem dX6_passes_89 : decode cX6_passes 89 = .ok (.iload_n 3, 1) := by decide +kernel
theorem dX6_passes_90 : decode cX6_passes 90 = .ok (.iadd, 1) := by decide +kernel
theorem dX6_passes_91 : decode cX6_passes 91 = .ok (.iconst 0, 1) := by decide +kernel
theorem dX6_passes_92 : decode cX6_passes 92 = .ok (.iastore, 1) := by decide +kernel
theorem dX6_passes_93 : decode cX6_passes 93 = .ok (.aload_n 0, 1) := by decide +kernel
theorem dX6_passes_94 : decode cX6_passes 94 = .ok (.getfield 62, 3) := by decide +kernel
theorem dX6_passes_97 : decode cX6_passes 97 = .ok (.iload_n 3, 1) := by decide +kernel
theorem dX6_passes_98 : decode cX6_passes 98 = .ok (.iconst 2, 1) := by decide +kernel
theorem dX6_passes_99 : decode cX6_passes 99 = .ok (.iastore, 1) := by decide +kernel
theorem dX6_passes_100 : decode cX6_passes 100 = .ok (.iinc 1 1, 3) := by decide +kernel
theorem dX6_passes_103 : decode cX6_passes 103 = .ok (.goto 27, 3) := by decide +kernel
theorem dX6_passes_106 : decode cX6_passes 106 = .ok (.aload_n 0, 1) := by decide +kernel
theorem dX6_passes_107 : decode cX6_passes 107 = .ok (.getfield 62, 3) := by decide +kernel
theorem dX6_passes_110 : decode cX6_passes 110 = .ok (.iload_n 3, 1) := by decide +kernel
theorem dX6_passes_111 : decode cX6_passes 111 = .ok (.iaload, 1) := by decide +kernel
theorem dX6_passes_112 : decode cX6_passes 112 = .ok (.ifCond .ne 18, 3) := by decide +kernel
theorem dX6_passes_115 : decode cX6_passes 115 = .ok (.aload_n 0, 1) := by decide +kernel
theorem dX6_passes_116 : decode cX6_passes 116 = .ok (.iload_n 3, 1) := by decide +kernel
theorem dX6_passes_117 : decode cX6_passes 117 = .ok (.invokevirtual 285, 3) := by decide +kernel
theorem dX6_passes_120 : decode cX6_passes 120 = .ok (.ifCond .ne 10, 3) := by decide +kernel
theorem dX6_passes_123 : decode cX6_passes 123 = .ok (.aload_n 0, 1) := by decide +kernel
theorem dX6_passes_124 : decode cX6_passes 124 = .ok (.getfield 62, 3) := by decide +kernel
theorem dX6_passes_127 : decode cX6_passes 127 = .ok (.iload_n 3, 1) := by decide +kernel
theorem dX6_passes_128 : decode cX6_passes 128 = .ok (.iconst 1, 1) := by decide +kernel
theorem dX6_passes_129 : decode cX6_passes 129 = .ok (.iastore, 1) := by decide +kernel
theorem dX6_passes_130 : decode cX6_passes 130 = .ok (.iinc 3 1, 3) := by decide +kernel
theorem dX6_passes_133 : decode cX6_passes 133 = .ok (.goto (-90), 3) := by decide +kernel
theorem dX6_passes_136 : decode cX6_passes 136 = .ok (.iload_n 1, 1) := by decide +kernel
theorem dX6_passes_137 : decode cX6_passes 137 = .ok (.ireturn, 1) := by decide +kernel
set_option maxRecDepth 100000 in
set_option maxHeartbeats 4000000 in
theorem lc_X6_passes_43 (Z : ZZ) (l : Launch) (a0 : Nat) (a2 : Int32) {args : Array Value} {h0 h1 : HP} {v0 : Int32} (K : Int32 → HP → Option (Int32 × HP)) (F : Int32 → Int32 → HP → Option (Int32 × HP))
    (hK : ∀ (b1 : Int32) (h : HP), Sim Z l cX6_passes RX6 4 4 88 (some .int) "passes" args (Mq Z args h0 h1 (some (.int v0))) h0 h1 v0 136 [(1, .int b1)] [] h (K b1 h))
    (hF : ∀ (b1 : Int32) (b3 : Int32) (h : HP), Sim Z l cX6_passes RX6 4 4 88 (some .int) "passes" args (Mq Z args h0 h1 (some (.int v0))) h0 h1 v0 43 [(0, .ref (zb Z + a0)), (1, .int b1), (2, .int a2), (3, .int b3)] [] h (F b1 b3 h)) :
    ∀ (b1 : Int32) (b3 : Int32) (h : HP), Sim Z l cX6_passes RX6 4 4 88 (some .int) "passes" args (Mq Z args h0 h1 (some (.int v0))) h0 h1 v0 43 [(0, .ref (zb Z + a0)), (1, .int b1), (2, .int a2), (3, .int b3)] [] h (lb_X6_passes_43 a0 a2 K F b1 b3 h) := by
  intro b1 b3 h
  unfold lb_X6_passes_43
  refine S_iload_n dX6_passes_43 rfl 3 rfl (pc' := 44) rfl ?_
  refine S_aload_n dX6_passes_44 rfl 0 rfl (pc' := 45) rfl ?_
  refine S_getI fl_X6_99 rfl dX6_passes_45 (pc' := 48) rfl (fun x45 => ?_)
  refine S_icmp_ge dX6_passes_48 136 rfl (pc' := 51) rfl (fun g48 => ?_) (fun g48 => ?_)
  · refine Sim.sub [1] rfl ?_
    exact hK _ _
  · refine S_aload_n dX6_passes_51 rfl 0 rfl (pc' := 52) rfl ?_
    refine S_getR fl_X6_62 rfl dX6_passes_52 (pc' := 55) rfl (fun x52 => ?_)
    refine S_iload_n dX6_passes_55 rfl 3 rfl (pc' := 56) rfl ?_
    refine S_iaload dX6_passes_56 (pc' := 57) rfl (fun x56 => ?_)
    refine S_iconst dX6_passes_57 (v := 1) rfl (pc' := 58) rfl ?_
    refine S_icmp_ne dX6_passes_58 106 rfl (pc' := 61) rfl (fun g58 => ?_) (fun g58 => ?_)
    · refine S_aload_n dX6_passes_106 rfl 0 rfl (pc' := 107) rfl ?_
      refine S_getR fl_X6_62 rfl dX6_passes_107 (pc' := 110) rfl (fun x107 => ?_)
      refine S_iload_n dX6_passes_110 rfl 3 rfl (pc' := 111) rfl ?_
      refine S_iaload dX6_passes_111 (pc' := 112) rfl (fun x111 => ?_)
      refine S_if_ne dX6_passes_112 130 rfl (pc' := 115) rfl (fun g112 => ?_) (fun g112 => ?_)
      · refine S_iinc dX6_passes_130 (q := 3) rfl (v := b3 + 1) rfl (by decide) (lo' := [(3, .int (b3 + 1)), (0, .ref (zb Z + a0)), (1, .int b1), (2, .int a2)]) rfl (pc' := 133) rfl ?_
        refine S_goto dX6_passes_133 43 rfl ?_
        refine Sim.sub [1, 2, 3, 0] rfl ?_
        exact hF _ _ _
      · refine S_aload_n dX6_passes_115 rfl 0 rfl (pc' := 116) rfl ?_
        refine S_iload_n dX6_passes_116 rfl 3 rfl (pc' := 117) rfl ?_
        refine S_invi ml_X6_285 mi_X6_holdersOf (ci := 6) ⟨_, rfl, rfl⟩ (by decide) dX6_passes_117 [.int b3] rfl (fun v h2 q => c_X6_holdersOf Z l _ _ _ q) ⟨Nat.le_of_ble_eq_true rfl, Nat.le_of_ble_eq_true rfl⟩ (rest := []) (Nat.le_of_ble_eq_true rfl) rfl (pc' := 120) rfl (fun x117 h117 => ?_)
        refine S_if_ne dX6_passes_120 130 rfl (pc' := 123) rfl (fun g120 => ?_) (fun g120 => ?_)
        · refine S_iinc dX6_passes_130 (q := 3) rfl (v := b3 + 1) rfl (by decide) (lo' := [(3, .int (b3 + 1)), (0, .ref (zb Z + a0)), (1, .int b1), (2, .int a2)]) rfl (pc' := 133) rfl ?_
          refine S_goto dX6_passes_133 43 rfl ?_
          refine Sim.sub [1, 2, 3, 0] rfl ?_
          exact hF _ _ _
        · refine S_aload_n dX6_passes_123 rfl 0 rfl (pc' := 124) rfl ?_
          refine S_getR fl_X6_62 rfl dX6_passes_124 (pc' := 127) rfl (fun x124 => ?_)
          refine S_iload_n dX6_passes_127 rfl 3 rfl (pc' := 128) rfl ?_
          refine S_iconst dX6_passes_128 (v := 1) rfl (pc' := 129) rfl ?_
          refine S_iastore dX6_passes_129 (pc' := 130) rfl (fun h129 => ?_)
          refine S_iinc dX6_passes_130 (q := 3) rfl (v := b3 + 1) rfl (by decide) (lo' := [(3, .int (b3 + 1)), (0, .ref (zb Z + a0)), (1, .int b1), (2, .int a2)]) rfl (pc' := 133) rfl ?_
          refine S_goto dX6_passes_133 43 rfl ?_
          refine Sim.sub [1, 2, 3, 0] rfl ?_
          exact hF _ _ _
    · refine S_aload_n dX6_passes_61 rfl 0 rfl (pc' := 62) rfl ?_
      refine S_getR fl_X6_59 rfl dX6_passes_62 (pc' := 65) rfl (fun x62 => ?_)
      refine S_iload_n dX6_passes_65 rfl 3 rfl (pc' := 66) rfl ?_
      refine S_iaload dX6_passes_66 (pc' := 67) rfl (fun x66 => ?_)
      refine S_aload_n dX6_passes_67 rfl 0 rfl (pc' := 68) rfl ?_
      refine S_getI fl_X6_161 rfl dX6_passes_68 (pc' := 71) rfl (fun x68 => ?_)
      refine S_iconst dX6_passes_71 (v := 5) rfl (pc' := 72) rfl ?_
      refine S_irem dX6_passes_72 (pc' := 73) rfl ?_
      refine S_icmp_ne dX6_passes_73 106 rfl (pc' := 76) rfl (fun g73 => ?_) (fun g73 => ?_)
      · refine S_aload_n dX6_passes_106 rfl 0 rfl (pc' := 107) rfl ?_
        refine S_getR fl_X6_62 rfl dX6_passes_107 (pc' := 110) rfl (fun x107 => ?_)
        refine S_iload_n dX6_passes_110 rfl 3 rfl (pc' := 111) rfl ?_
        refine S_iaload dX6_passes_111 (pc' := 112) rfl (fun x111 => ?_)
        refine S_if_ne dX6_passes_112 130 rfl (pc' := 115) rfl (fun g112 => ?_) (fun g112 => ?_)
        · refine S_iinc dX6_passes_130 (q := 3) rfl (v := b3 + 1) rfl (by decide) (lo' := [(3, .int (b3 + 1)), (0, .ref (zb Z + a0)), (1, .int b1), (2, .int a2)]) rfl (pc' := 133) rfl ?_
          refine S_goto dX6_passes_133 43 rfl ?_
          refine Sim.sub [1, 2, 3, 0] rfl ?_
          exact hF _ _ _
        · refine S_aload_n dX6_passes_115 rfl 0 rfl (pc' := 116) rfl ?_
          refine S_iload_n dX6_passes_116 rfl 3 rfl (pc' := 117) rfl ?_
          refine S_invi ml_X6_285 mi_X6_holdersOf (ci := 6) ⟨_, rfl, rfl⟩ (by decide) dX6_passes_117 [.int b3] rfl (fun v h2 q => c_X6_holdersOf Z l _ _ _ q) ⟨Nat.le_of_ble_eq_true rfl, Nat.le_of_ble_eq_true rfl⟩ (rest := []) (Nat.le_of_ble_eq_true rfl) rfl (pc' := 120) rfl (fun x117 h117 => ?_)
          refine S_if_ne dX6_passes_120 130 rfl (pc' := 123) rfl (fun g120 => ?_) (fun g120 => ?_)
          · refine S_iinc dX6_passes_130 (q := 3) rfl (v := b3 + 1) rfl (by decide) (lo' := [(3, .int (b3 + 1)), (0, .ref (zb Z + a0)), (1, .int b1), (2, .int a2)]) rfl (pc' := 133) rfl ?_
            refine S_goto dX6_passes_133 43 rfl ?_
            refine Sim.sub [1, 2, 3, 0] rfl ?_
            exact hF _ _ _
          · refine S_aload_n dX6_passes_123 rfl 0 rfl (pc' := 124) rfl ?_
            refine S_getR fl_X6_62 rfl dX6_passes_124 (pc' := 127) rfl (fun x124 => ?_)
            refine S_iload_n dX6_passes_127 rfl 3 rfl (pc' := 128) rfl ?_
            refine S_iconst dX6_passes_128 (v := 1) rfl (pc' := 129) rfl ?_
            refine S_iastore dX6_passes_129 (pc' := 130) rfl (fun h129 => ?_)
            refine S_iinc dX6_passes_130 (q := 3) rfl (v := b3 + 1) rfl (by decide) (lo' := [(3, .int (b3 + 1)), (0, .ref (zb Z + a0)), (1, .int b1), (2, .int a2)]) rfl (pc' := 133) rfl ?_
            refine S_goto dX6_passes_133 43 rfl ?_
            refine Sim.sub [1, 2, 3, 0] rfl ?_
            exact hF _ _ _
      · refine S_iload_n dX6_passes_76 rfl 2 rfl (pc' := 77) rfl ?_
        refine S_iconst dX6_passes_77 (v := (-1)) rfl (pc' := 78) rfl ?_
        refine S_icmp_eq dX6_passes_78 106 rfl (pc' := 81) rfl (fun g78 => ?_) (fun g78 => ?_)
        · refine S_aload_n dX6_passes_106 rfl 0 rfl (pc' := 107) rfl ?_
          refine S_getR fl_X6_62 rfl dX6_passes_107 (pc' := 110) rfl (fun x107 => ?_)
          refine S_iload_n dX6_passes_110 rfl 3 rfl (pc' := 111) rfl ?_
          refine S_iaload dX6_passes_111 (pc' := 112) rfl (fun x111 => ?_)
          refine S_if_ne dX6_passes_112 130 rfl (pc' := 115) rfl (fun g112 => ?_) (fun g112 => ?_)
          · refine S_iinc dX6_passes_130 (q := 3) rfl (v := b3 + 1) rfl (by decide) (lo' := [(3, .int (b3 + 1)), (0, .ref (zb Z + a0)), (1, .int b1), (2, .int a2)]) rfl (pc' := 133) rfl ?_
            refine S_goto dX6_passes_133 43 rfl ?_
            refine Sim.sub [1, 2, 3, 0] rfl ?_
            exact hF _ _ _
          · refine S_aload_n dX6_passes_115 rfl 0 rfl (pc' := 116) rfl ?_
            refine S_iload_n dX6_passes_116 rfl 3 rfl (pc' := 117) rfl ?_
            refine S_invi ml_X6_285 mi_X6_holdersOf (ci := 6) ⟨_, rfl, rfl⟩ (by decide) dX6_passes_117 [.int b3] rfl (fun v h2 q => c_X6_holdersOf Z l _ _ _ q) ⟨Nat.le_of_ble_eq_true rfl, Nat.le_of_ble_eq_true rfl⟩ (rest := []) (Nat.le_of_ble_eq_true rfl) rfl (pc' := 120) rfl (fun x117 h117 => ?_)
            refine S_if_ne dX6_passes_120 130 rfl (pc' := 123) rfl (fun g120 => ?_) (fun g120 => ?_)
            · refine S_iinc dX6_passes_130 (q := 3) rfl (v := b3 + 1) rfl (by decide) (lo' := [(3, .int (b3 + 1)), (0, .ref (zb Z + a0)), (1, .int b1), (2, .int a2)]) rfl (pc' := 133) rfl ?_
              refine S_goto dX6_passes_133 43 rfl ?_
              refine Sim.sub [1, 2, 3, 0] rfl ?_
              exact hF _ _ _
            · refine S_aload_n dX6_passes_123 rfl 0 rfl (pc' := 124) rfl ?_
              refine S_getR fl_X6_62 rfl dX6_passes_124 (pc' := 127) rfl (fun x124 => ?_)
              refine S_iload_n dX6_passes_127 rfl 3 rfl (pc' := 128) rfl ?_
              refine S_iconst dX6_passes_128 (v := 1) rfl (pc' := 129) rfl ?_
              refine S_iastore dX6_passes_129 (pc' := 130) rfl (fun h129 => ?_)
              refine S_iinc dX6_passes_130 (q := 3) rfl (v := b3 + 1) rfl (by decide) (lo' := [(3, .int (b3 + 1)), (0, .ref (zb Z + a0)), (1, .int b1), (2, .int a2)]) rfl (pc' := 133) rfl ?_
              refine S_goto dX6_passes_133 43 rfl ?_
              refine Sim.sub [1, 2, 3, 0] rfl ?_
              exact hF _ _ _
        · refine S_aload_n dX6_passes_81 rfl 0 rfl (pc' := 82) rfl ?_
          refine S_getR fl_X6_68 rfl dX6_passes_82 (pc' := 85) rfl (fun x82 => ?_)
          refine S_iload_n dX6_passes_85 rfl 2 rfl (pc' := 86) rfl ?_
          refine S_bipush dX6_passes_86 (v := 6) rfl (pc' := 88) rfl ?_
          refine S_imul dX6_passes_88 (pc' := 89) rfl ?_
          refine S_iload_n dX6_passes_89 rfl 3 rfl (pc' := 90) rfl ?_
          refine S_iadd dX6_passes_90 (pc' := 91) rfl ?_
          refine S_iconst dX6_passes_91 (v := 0) rfl (pc' := 92) rfl ?_
          refine S_iastore dX6_passes_92 (pc' := 93) rfl (fun h92 => ?_)
          refine S_aload_n dX6_passes_93 rfl 0 rfl (pc' := 94) rfl ?_
          refine S_getR fl_X6_62 rfl dX6_passes_94 (pc' := 97) rfl (fun x94 => ?_)
          refine S_iload_n dX6_passes_97 rfl 3 rfl (pc' := 98) rfl ?_
          refine S_iconst dX6_passes_98 (v := 2) rfl (pc' := 99) rfl ?_
          refine S_iastore dX6_passes_99 (pc' := 100) rfl (fun h99 => ?_)
          refine S_iinc dX6_passes_100 (q := 1) rfl (v := b1 + 1) rfl (by decide) (lo' := [(1, .int (b1 + 1)), (0, .ref (zb Z + a0)), (2, .int a2), (3, .int b3)]) rfl (pc' := 103) rfl ?_
          refine S_goto dX6_passes_103 130 rfl ?_
          refine S_iinc dX6_passes_130 (q := 3) rfl (v := b3 + 1) rfl (by decide) (lo' := [(3, .int (b3 + 1)), (1, .int (b1 + 1)), (0, .ref (zb Z + a0)), (2, .int a2)]) rfl (pc' := 133) rfl ?_
          refine S_goto dX6_passes_133 43 rfl ?_
          refine Sim.sub [2, 1, 3, 0] rfl ?_
          exact hF _ _ _
theorem lq_X6_passes_43 (Z : ZZ) (l : Launch) (a0 : Nat) (a2 : Int32) {args : Array Value} {h0 h1 : HP} {v0 : Int32} (K : Int32 → HP → Option (Int32 × HP))
    (hK : ∀ (b1 : Int32) (h : HP), Sim Z l cX6_passes RX6 4 4 88 (some .int) "passes" args (Mq Z args h0 h1 (some (.int v0))) h0 h1 v0 136 [(1, .int b1)] [] h (K b1 h)) :
    ∀ (k : Nat) (b1 : Int32) (b3 : Int32) (h : HP), Sim Z l cX6_passes RX6 4 4 88 (some .int) "passes" args (Mq Z args h0 h1 (some (.int v0))) h0 h1 v0 43 [(0, .ref (zb Z + a0)), (1, .int b1), (2, .int a2), (3, .int b3)] [] h (lp_X6_passes_43 a0 a2 K k b1 b3 h) := by
  intro k
  induction k with
  | zero => exact fun _ _ _ => Sim.none
  | succ k ih => exact lc_X6_passes_43 Z l a0 a2 K _ hK ih
set_option maxRecDepth 100000 in
set_option maxHeartbeats 4000000 in
theorem c_X6_passes (Z : ZZ) (l : Launch) (t : Nat) (h : HP) {v : Int32} {h1 : HP} (ho : f_X6_passes t h = some (v, h1)) : MetP Z l yX6_passes cX6_passes 4 (some .int) 4 88 [.ref (zb Z + t)] h (some (.int v)) h1 := by
  refine MetP_of ho (by decide +kernel) (Nat.le_of_ble_eq_true rfl) [(0, .ref (zb Z + t))] rfl (own := RX6) rfl (nm := "passes") rfl ?_
  unfold f_X6_passes
  refine S_aload_n dX6_passes_0 rfl 0 rfl (pc' := 1) rfl ?_
  refine S_aload_n dX6_passes_1 rfl 0 rfl (pc' := 2) rfl ?_
  refine S_getI fl_X6_161 rfl dX6_passes_2 (pc' := 5) rfl (fun x2 => ?_)
  refine S_sipush dX6_passes_5 (v := 999) rfl (pc' := 8) rfl ?_
  refine S_icmp_ge dX6_passes_8 20 rfl (pc' := 11) rfl (fun g8 => ?_) (fun g8 => ?_)
  · refine S_sipush dX6_passes_20 (v := 999) rfl (pc' := 23) rfl ?_
    refine S_putI fl_X6_161 (by decide) rfl dX6_passes_23 (pc' := 26) rfl (fun h23 => ?_)
    refine S_aload_n dX6_passes_26 rfl 0 rfl (pc' := 27) rfl ?_
    refine S_invv ml_X6_276 mi_X6_forgetsAll (ci := 6) ⟨_, rfl, rfl⟩ (by decide) dX6_passes_27 [] rfl (fun v h2 q => c_X6_forgetsAll Z l _ _ q) ⟨Nat.le_of_ble_eq_true rfl, Nat.le_of_ble_eq_true rfl⟩ (rest := []) (Nat.le_of_ble_eq_true rfl) rfl (pc' := 30) rfl (fun _ h27 => ?_)
    refine S_aload_n dX6_passes_30 rfl 0 rfl (pc' := 31) rfl ?_
    refine S_invv ml_X6_279 mi_X6_picksUp (ci := 6) ⟨_, rfl, rfl⟩ (by decide) dX6_passes_31 [] rfl (fun v h2 q => c_X6_picksUp Z l _ _ q) ⟨Nat.le_of_ble_eq_true rfl, Nat.le_of_ble_eq_true rfl⟩ (rest := []) (Nat.le_of_ble_eq_true rfl) rfl (pc' := 34) rfl (fun _ h31 => ?_)
    refine S_iconst dX6_passes_34 (v := 0) rfl (pc' := 35) rfl ?_
    refine S_istore_n dX6_passes_35 rfl (by decide) (lo' := [(1, .int 0), (0, .ref (zb Z + t))]) rfl (pc' := 36) rfl ?_
    refine S_aload_n dX6_passes_36 rfl 1 rfl (pc' := 37) rfl ?_
    refine S_invi ml_X6_282 mi_X6_findsAll (ci := 6) ⟨_, rfl, rfl⟩ (by decide) dX6_passes_37 [] rfl (fun v h2 q => c_X6_findsAll Z l _ _ q) ⟨Nat.le_of_ble_eq_true rfl, Nat.le_of_ble_eq_true rfl⟩ (rest := []) (Nat.le_of_ble_eq_true rfl) rfl (pc' := 40) rfl (fun x37 h37 => ?_)
    refine S_istore_n dX6_passes_40 rfl (by decide) (lo' := [(2, .int x37), (1, .int 0), (0, .ref (zb Z + t))]) rfl (pc' := 41) rfl ?_
    refine S_iconst dX6_passes_41 (v := 0) rfl (pc' := 42) rfl ?_
    refine S_istore_n dX6_passes_42 rfl (by decide) (lo' := [(3, .int 0), (2, .int x37), (1, .int 0), (0, .ref (zb Z + t))]) rfl (pc' := 43) rfl ?_
    refine Sim.sub [3, 2, 1, 0] rfl ?_
    refine lq_X6_passes_43 Z l t x37 _ ?_ 1000 _ _ _
    intro b1_43 h43_
    refine S_iload_n dX6_passes_136 rfl 0 rfl (pc' := 137) rfl ?_
    exact S_iret rfl dX6_passes_137
  · refine S_aload_n dX6_passes_11 rfl 0 rfl (pc' := 12) rfl ?_
    refine S_getI fl_X6_161 rfl dX6_passes_12 (pc' := 15) rfl (fun x12 => ?_)
    refine S_iconst dX6_passes_15 (v := 1) rfl (pc' := 16) rfl ?_
    refine S_iadd dX6_passes_16 (pc' := 17) rfl ?_
    refine S_goto dX6_passes_17 23 rfl ?_
    refine S_putI fl_X6_161 (by decide) rfl dX6_passes_23 (pc' := 26) rfl (fun h23 => ?_)
    refine S_aload_n dX6_passes_26 rfl 0 rfl (pc' := 27) rfl ?_
    refine S_invv ml_X6_276 mi_X6_forgetsAll (ci := 6) ⟨_, rfl, rfl⟩ (by decide) dX6_passes_27 [] rfl (fun v h2 q => c_X6_forgetsAll Z l _ _ q) ⟨Nat.le_of_ble_eq_true rfl, Nat.le_of_ble_eq_true rfl⟩ (rest := []) (Nat.le_of_ble_eq_true rfl) rfl (pc' := 30) rfl (fun _ h27 => ?_)
    refine S_aload_n dX6_passes_30 rfl 0 rfl (pc' := 31) rfl ?_
    refine S_invv ml_X6_279 mi_X6_picksUp (ci := 6) ⟨_, rfl, rfl⟩ (by decide) dX6_passes_31 [] rfl (fun v h2 q => c_X6_picksUp Z l _ _ q) ⟨Nat.le_of_ble_eq_true rfl, Nat.le_of_ble_eq_true rfl⟩ (rest := []) (Nat.le_of_ble_eq_true rfl) rfl (pc' := 34) rfl (fun _ h31 => ?_)
    refine S_iconst dX6_passes_34 (v := 0) rfl (pc' := 35) rfl ?_
    refine S_istore_n dX6_passes_35 rfl (by decide) (lo' := [(1, .int 0), (0, .ref (zb Z + t))]) rfl (pc' := 36) rfl ?_
    refine S_aload_n dX6_passes_36 rfl 1 rfl (pc' := 37) rfl ?_
    refine S_invi ml_X6_282 mi_X6_findsAll (ci := 6) ⟨_, rfl, rfl⟩ (by decide) dX6_passes_37 [] rfl (fun v h2 q => c_X6_findsAll Z l _ _ q) ⟨Nat.le_of_ble_eq_true rfl, Nat.le_of_ble_eq_true rfl⟩ (rest := []) (Nat.le_of_ble_eq_true rfl) rfl (pc' := 40) rfl (fun x37 h37 => ?_)
    refine S_istore_n dX6_passes_40 rfl (by decide) (lo' := [(2, .int x37), (1, .int 0), (0, .ref (zb Z + t))]) rfl (pc' := 41) rfl ?_
    refine S_iconst dX6_passes_41 (v := 0) rfl (pc' := 42) rfl ?_
    refine S_istore_n dX6_passes_42 rfl (by decide) (lo' := [(3, .int 0), (2, .int x37), (1, .int 0), (0, .ref (zb Z + t))]) rfl (pc' := 43) rfl ?_
    refine Sim.sub [3, 2, 1, 0] rfl ?_
    refine lq_X6_passes_43 Z l t x37 _ ?_ 1000 _ _ _
    intro b1_43 h43_
    refine S_iload_n dX6_passes_136 rfl 0 rfl (pc' := 137) rfl ?_
    exact S_iret rfl dX6_passes_137
