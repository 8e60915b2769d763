theorem dX6_thought_0 : decode cX6_thought 0 = .ok (.aload_n 0, 1) := by decide +kernel
theorem dX6_thought_1 : decode cX6_thought 1 = .ok (.getfield 288, 3) := by decide +kernel
theorem dX6_thought_4 : decode cX6_thought 4 = .ok (.ifnonnull 14, 3) := by decide +kernel
theorem dX6_thought_7 : decode cX6_thought 7 = .ok (.aload_n 0, 1) := by decide +kernel
theorem dX6_thought_8 : decode cX6_thought 8 = .ok (.new 8, 3) := by decide +kernel
theorem dX6_thought_11 : decode cX6_thought 11 = .ok (.dup, 1) := by decide +kernel
theorem dX6_thought_12 : decode cX6_thought 12 = .ok (.invokespecial 256, 3) := by decide +kernel
theorem dX6_thought_15 : decode cX6_thought 15 = .ok (.putfield 288, 3) := by decide +kernel
theorem dX6_thought_18 : decode cX6_thought 18 = .ok (.aload_n 0, 1) := by decide +kernel
theorem dX6_thought_19 : decode cX6_thought 19 = .ok (.getfield 288, 3) := by decide +kernel
theorem dX6_thought_22 : decode cX6_thought 22 = .ok (.aload_n 0, 1) := by decide +kernel
theorem dX6_thought_23 : decode cX6_thought 23 = .ok (.invokevirtual 257, 3) := by decide +kernel
theorem dX6_thought_26 : decode cX6_thought 26 = .ok (.aload_n 0, 1) := by decide +kernel
theorem dX6_thought_27 : decode cX6_thought 27 = .ok (.getfield 288, 3) := by decide +kernel
theorem dX6_thought_30 : decode cX6_thought 30 = .ok (.areturn, 1) := by decide +kernel
set_option maxRecDepth 100000 in
set_option maxHeartbeats 4000000 in
theorem c_X6_thought (Z : ZZ) (l : Launch) (t : Nat) (h : HP) {v : Nat} {h1 : HP} (ho : f_X6_thought t h = some (v, h1)) : MetP Z l yX6_thought cX6_thought 1 (some (FieldType.object "LostBeforeSungModel")) 2 43 [.ref (zb Z + t)] h (some (.ref (zb Z + v))) h1 := by
  refine MetP_of ho (by decide +kernel) (Nat.le_of_ble_eq_true rfl) [(0, .ref (zb Z + t))] rfl (own := RX6) rfl (nm := "thought") rfl ?_
  unfold f_X6_thought
  refine S_aload_n dX6_thought_0 rfl 0 rfl (pc' := 1) rfl ?_
  refine S_getN fl_X6_288 rfl dX6_thought_1 (pc' := 4) rfl dX6_thought_4 18 rfl (pc2 := 7) rfl ?_ ?_
  · refine S_aload_n dX6_thought_7 rfl 0 rfl (pc' := 8) rfl ?_
    refine S_new nc_X6_8 dX6_thought_8 (pc' := 11) rfl (fun x8 h8 => ?_)
    refine S_dup dX6_thought_11 rfl (pc' := 12) rfl ?_
    refine S_ctor ml_X6_256 rfl mc_X6_init dX6_thought_12 [] rfl (fun v h2 q => c_X6_init Z l _ _ q) ⟨Nat.le_of_ble_eq_true rfl, Nat.le_of_ble_eq_true rfl⟩ (rest := [.ref (zb Z + x8), .ref (zb Z + t)]) (Nat.le_of_ble_eq_true rfl) rfl (pc' := 15) rfl (fun _ h12 => ?_)
    refine S_putR fl_X6_288 (Or.inl ⟨_, rfl⟩) (fun q => by cases q) (by decide) rfl dX6_thought_15 (pc' := 18) rfl (fun h15 => ?_)
    refine S_aload_n dX6_thought_18 rfl 0 rfl (pc' := 19) rfl ?_
    refine S_getR fl_X6_288 rfl dX6_thought_19 (pc' := 22) rfl (fun x19 => ?_)
    refine S_aload_n dX6_thought_22 rfl 0 rfl (pc' := 23) rfl ?_
    refine S_invv ml_X6_257 mi_X6_takeFrom (ci := 6) ⟨_, rfl, rfl⟩ (by decide) dX6_thought_23 [.ref (zb Z + t)] rfl (fun v h2 q => c_X6_takeFrom Z l _ _ _ q) ⟨Nat.le_of_ble_eq_true rfl, Nat.le_of_ble_eq_true rfl⟩ (rest := []) (Nat.le_of_ble_eq_true rfl) rfl (pc' := 26) rfl (fun _ h23 => ?_)
    refine S_aload_n dX6_thought_26 rfl 0 rfl (pc' := 27) rfl ?_
    refine S_getR fl_X6_288 rfl dX6_thought_27 (pc' := 30) rfl (fun x27 => ?_)
    exact S_aret rfl (Or.inl ⟨_, rfl⟩) dX6_thought_30
  · refine S_aload_n dX6_thought_18 rfl 0 rfl (pc' := 19) rfl ?_
    refine S_getR fl_X6_288 rfl dX6_thought_19 (pc' := 22) rfl (fun x19 => ?_)
    refine S_aload_n dX6_thought_22 rfl 0 rfl (pc' := 23) rfl ?_
    refine S_invv ml_X6_257 mi_X6_takeFrom (ci := 6) ⟨_, rfl, rfl⟩ (by decide) dX6_thought_23 [.ref (zb Z + t)] rfl (fun v h2 q => c_X6_takeFrom Z l _ _ _ q) ⟨Nat.le_of_ble_eq_true rfl, Nat.le_of_ble_eq_true rfl⟩ (rest := []) (Nat.le_of_ble_eq_true rfl) rfl (pc' := 26) rfl (fun _ h23 => ?_)
    refine S_aload_n dX6_thought_26 rfl 0 rfl (pc' := 27) rfl ?_
    refine S_getR fl_X6_288 rfl dX6_thought_27 (pc' := 30) rfl (fun x27 => ?_)
    exact S_aret rfl (Or.inl ⟨_, rfl⟩) dX6_thought_30
theorem dX6_tuneOf_0 : decode cX6_tuneOf 0 = .ok (.iconst 0, 1) := by decide +kernel
theorem dX6_tuneOf_1 : decode cX6_tuneOf 1 = .ok (.istore_n 2, 1) := by decide +kernel
theorem dX6_tuneOf_2 : decode cX6_tuneOf 2 = .ok (.iconst 0, 1) := by decide +kernel
theorem dX6_tuneOf_3 : decode cX6_tuneOf 3 = .ok (.istore_n 3, 1) := by decide +kernel
theorem dX6_tuneOf_4 : decode cX6_tuneOf 4 = .ok (.iload_n 3, 1) := by decide +kernel
theorem dX6_tuneOf_5 : decode cX6_tuneOf 5 = .ok (.bipush 8, 2) := by decide +kernel
theorem dX6_tuneOf_7 : decode cX6_tuneOf 7 = .ok (.if_icmp .ge 26, 3) := by decide +kernel
theorem dX6_tuneOf_10 : decode cX6_tuneOf 10 = .ok (.bipush 10, 2) := by decide +kernel
theorem dX6_tuneOf_12 : decode cX6_tuneOf 12 = .ok (.iload_n 2, 1) := by decide +kernel
theorem dX6_tuneOf_13 : decode cX6_tuneOf 13 = .ok (.imul, 1) := by decide +kernel
theorem dX6_tuneOf_14 : decode cX6_tuneOf 14 = .ok (.aload_n 0, 1) := by decide +kernel
theorem dX6_tuneOf_15 : decode cX6_tuneOf 15 = .ok (.getfield 65, 3) := by decide +kernel
theorem dX6_tuneOf_18 : decode cX6_tuneOf 18 = .ok (.iload_n 1, 1) := by decide +kernel
theorem dX6_tuneOf_19 : decode cX6_tuneOf 19 = .ok (.bipush 8, 2) := by decide +kernel
theorem dX6_tuneOf_21 : decode cX6_tuneOf 21 = .ok (.imul, 1) := by decide +kernel
theorem dX6_tuneOf_22 : decode cX6_tuneOf 22 = .ok (.iload_n 3, 1) := by decide +kernel
theorem dX6_tuneOf_23 : decode cX6_tuneOf 23 = .ok (.iadd, 1) := by decide +kernel
theorem dX6_tuneOf_24 : decode cX6_tuneOf 24 = .ok (.iaload, 1) := by decide +kernel
theorem dX6_tuneOf_25 : decode cX6_tuneOf 25 = .ok (.iadd, 1) := by decide +kernel
theorem dX6_tuneOf_26 : decode cX6_tuneOf 26 = .ok (.istore_n 2, 1) := by decide +kernel
theorem dX6_tuneOf_27 : decode cX6_tuneOf 27 = .ok (.iinc 3 1, 3) := by decide +kernel
theorem dX6_tuneOf_30 : decode cX6_tuneOf 30 = .ok (.goto (-26), 3) := by decide +kernel
theorem dX6_tuneOf_33 : decode cX6_tuneOf 33 = .ok (.iload_n 2, 1) := by decide +kernel
theorem dX6_tuneOf_34 : decode cX6_tuneOf 34 = .ok (.ireturn, 1) := by decide +kernel
set_option maxRecDepth 100000 in
set_option maxHeartbeats 4000000 in
theorem lc_X6_tuneOf_4 (Z : ZZ) (l : Launch) (a0 : Nat) (a1 : Int32) {args : Array Value} {h0 h1 : HP} {v0 : Int32} (K : Int32 → HP → Option (Int32 × HP)) (F : Int32 → Int32 → HP → Option (Int32 × HP))
    (hK : ∀ (b2 : Int32) (h : HP), Sim Z l cX6_tuneOf RX6 4 0 0 (some .int) "tuneOf" args (Mq Z args h0 h1 (some (.int v0))) h0 h1 v0 33 [(2, .int b2)] [] h (K b2 h))
    (hF : ∀ (b2 : Int32) (b3 : Int32) (h : HP), Sim Z l cX6_tuneOf RX6 4 0 0 (some .int) "tuneOf" args (Mq Z args h0 h1 (some (.int v0))) h0 h1 v0 4 [(0, .ref (zb Z + a0)), (1, .int a1), (2, .int b2), (3, .int b3)] [] h (F b2 b3 h)) :
    ∀ (b2 : Int32) (b3 : Int32) (h : HP), Sim Z l cX6_tuneOf RX6 4 0 0 (some .int) "tuneOf" args (Mq Z args h0 h1 (some (.int v0))) h0 h1 v0 4 [(0, .ref (zb Z + a0)), (1, .int a1), (2, .int b2), (3, .int b3)] [] h (lb_X6_tuneOf_4 a0 a1 K F b2 b3 h) := by
  intro b2 b3 h
  unfold lb_X6_tuneOf_4
  refine S_iload_n dX6_tuneOf_4 rfl 3 rfl (pc' := 5) rfl ?_
  refine S_bipush dX6_tuneOf_5 (v := 8) rfl (pc' := 7) rfl ?_
  refine S_icmp_ge dX6_tuneOf_7 33 rfl (pc' := 10) rfl (fun g7 => ?_) (fun g7 => ?_)
  · refine Sim.sub [2] rfl ?_
    exact hK _ _
  · refine S_bipush dX6_tuneOf_10 (v := 10) rfl (pc' := 12) rfl ?_
    refine S_iload_n dX6_tuneOf_12 rfl 2 rfl (pc' := 13) rfl ?_
    refine S_imul dX6_tuneOf_13 (pc' := 14) rfl ?_
    refine S_aload_n dX6_tuneOf_14 rfl 0 rfl (pc' := 15) rfl ?_
    refine S_getR fl_X6_65 rfl dX6_tuneOf_15 (pc' := 18) rfl (fun x15 => ?_)
    refine S_iload_n dX6_tuneOf_18 rfl 1 rfl (pc' := 19) rfl ?_
    refine S_bipush dX6_tuneOf_19 (v := 8) rfl (pc' := 21) rfl ?_
    refine S_imul dX6_tuneOf_21 (pc' := 22) rfl ?_
    refine S_iload_n dX6_tuneOf_22 rfl 3 rfl (pc' := 23) rfl ?_
    refine S_iadd dX6_tuneOf_23 (pc' := 24) rfl ?_
    refine S_iaload dX6_tuneOf_24 (pc' := 25) rfl (fun x24 => ?_)
    refine S_iadd dX6_tuneOf_25 (pc' := 26) rfl ?_
    refine S_istore_n dX6_tuneOf_26 rfl (by decide) (lo' := [(2, .int ((10 * b2) + x24)), (0, .ref (zb Z + a0)), (1, .int a1), (3, .int b3)]) rfl (pc' := 27) rfl ?_
    refine S_iinc dX6_tuneOf_27 (q := 3) rfl (v := b3 + 1) rfl (by decide) (lo' := [(3, .int (b3 + 1)), (2, .int ((10 * b2) + x24)), (0, .ref (zb Z + a0)), (1, .int a1)]) rfl (pc' := 30) rfl ?_
    refine S_goto dX6_tuneOf_30 4 rfl ?_
    refine Sim.sub [2, 3, 1, 0] rfl ?_
    exact hF _ _ _
theorem lq_X6_tuneOf_4 (Z : ZZ) (l : Launch) (a0 : Nat) (a1 : Int32) {args : Array Value} {h0 h1 : HP} {v0 : Int32} (K : Int32 → HP → Option (Int32 × HP))
    (hK : ∀ (b2 : Int32) (h : HP), Sim Z l cX6_tuneOf RX6 4 0 0 (some .int) "tuneOf" args (Mq Z args h0 h1 (some (.int v0))) h0 h1 v0 33 [(2, .int b2)] [] h (K b2 h)) :
    ∀ (k : Nat) (b2 : Int32) (b3 : Int32) (h : HP), Sim Z l cX6_tuneOf RX6 4 0 0 (some .int) "tuneOf" args (Mq Z args h0 h1 (some (.int v0))) h0 h1 v0 4 [(0, .ref (zb Z + a0)), (1, .int a1), (2, .int b2), (3, .int b3)] [] h (lp_X6_tuneOf_4 a0 a1 K k b2 b3 h) := by
  intro k
  induction k with
  | zero => exact fun _ _ _ => Sim.none
  | succ k ih => exact lc_X6_tuneOf_4 Z l a0 a1 K _ hK ih
set_option maxRecDepth 100000 in
set_option maxHeartbeats 4000000 in
theorem c_X6_tuneOf (Z : ZZ) (l : Launch) (t : Nat) (a1 : Int32) (h : HP) {v : Int32} {h1 : HP} (ho : f_X6_tuneOf t a1 h = some (v, h1)) : MetP Z l yX6_tuneOf cX6_tuneOf 4 (some .int) 0 0 [.ref (zb Z + t), .int a1] h (some (.int v)) h1 := by
  refine MetP_of ho (by decide +kernel) (Nat.le_of_ble_eq_true rfl) [(0, .ref (zb Z + t)), (1, .int a1)] rfl (own := RX6) rfl (nm := "tuneOf") rfl ?_
  unfold f_X6_tuneOf
  refine S_iconst dX6_tuneOf_0 (v := 0) rfl (pc' := 1) rfl ?_
  refine S_istore_n dX6_tuneOf_1 rfl (by decide) (lo' := [(2, .int 0), (0, .ref (zb Z + t)), (1, .int a1)]) rfl (pc' := 2) rfl ?_
  refine S_iconst dX6_tuneOf_2 (v := 0) rfl (pc' := 3) rfl ?_
  refine S_istore_n dX6_tuneOf_3 rfl (by decide) (lo' := [(3, .int 0), (2, .int 0), (0, .ref (zb Z + t)), (1, .int a1)]) rfl (pc' := 4) rfl ?_
  refine Sim.sub [2, 3, 1, 0] rfl ?_
  refine lq_X6_tuneOf_4 Z l t a1 _ ?_ 1000 _ _ _
  intro b2_4 h4_
  refine S_iload_n dX6_tuneOf_33 rfl 0 rfl (pc' := 34) rfl ?_
  exact S_iret rfl dX6_tuneOf_34
theorem dX6_personOf_0 : decode cX6_personOf 0 = .ok (.aload_n 0, 1) := by decide +kernel
theorem dX6_personOf_1 : decode cX6_personOf 1 = .ok (.iload_n 1, 1) := by decide +kernel
theorem dX6_personOf_2 : decode cX6_personOf 2 = .ok (.invokevirtual 119, 3) := by decide +kernel
theorem dX6_personOf_5 : decode cX6_personOf 5 = .ok (.ifCond .eq 15, 3) := by decide +kernel
theorem dX6_personOf_8 : decode cX6_personOf 8 = .ok (.iload_n 2, 1) := by decide +kernel
theorem dX6_personOf_9 : decode cX6_personOf 9 = .ok (.i2l, 1) := by decide +kernel
theorem dX6_personOf_10 : decode cX6_personOf 10 = .ok (.lconst 0, 1) := by decide +kernel
theorem dX6_personOf_11 : decode cX6_personOf 11 = .ok (.ldc2_w 291, 3) := by decide +kernel
theorem dX6_personOf_14 : decode cX6_personOf 14 = .ok (.invokestatic 95, 3) := by decide +kernel
theorem dX6_personOf_17 : decode cX6_personOf 17 = .ok (.ifCond .ne 10, 3) := by decide +kernel
theorem dX6_personOf_20 : decode cX6_personOf 20 = .ok (.aload_n 0, 1) := by decide +kernel
theorem dX6_personOf_21 : decode cX6_personOf 21 = .ok (.bipush (-2), 2) := by decide +kernel
theorem dX6_personOf_23 : decode cX6_personOf 23 = .ok (.invokevirtual 108, 3) := by decide +kernel
theorem dX6_personOf_26 : decode cX6_personOf 26 = .ok (.ireturn, 1) := by decide +kernel
theorem dX6_personOf_27 : decode cX6_personOf 27 = .ok (.iload_n 2, 1) := by decide +kernel
theorem dX6_personOf_28 : decode cX6_personOf 28 = .ok (.tableswitch 84 0 5 #[40, 47, 54, 61, 68, 77], 40) := by decide +kernel
theorem dX6_personOf_68 : decode cX6_personOf 68 = .ok (.aload_n 0, 1) := by decide +kernel
theorem dX6_personOf_69 : decode cX6_personOf 69 = .ok (.getfield 41, 3) := by decide +kernel
theorem dX6_personOf_72 : decode cX6_personOf 72 = .ok (.iload_n 1, 1) := by decide +kernel
theorem dX6_personOf_73 : decode cX6_personOf 73 = .ok (.iaload, 1) := by decide +kernel
theorem dX6_personOf_74 : decode cX6_personOf 74 = .ok (.ireturn, 1) := by decide +kernel
theorem dX6_personOf_75 : decode cX6_personOf 75 = .ok (.aload_n 0, 1) := by decide +kernel
theorem dX6_personOf_76 : decode cX6_personOf 76 = .ok (.getfield 44, 3) := by decide +kernel
theorem dX6_personOf_79 : decode cX6_personOf 79 = .ok (.iload_n 1, 1) := by decide +kernel
theorem dX6_personOf_80 : decode cX6_personOf 80 = .ok (.iaload, 1) := by decide +kernel
theorem dX6_personOf_81 : decode cX6_personOf 81 = .ok (.ireturn, 1) := by decide +kernel
theorem dX6_personOf_82 : decode cX6_personOf 82 = .ok (.aload_n 0, 1) := by decide +kernel
theorem dX6_personOf_83 : decode cX6_personOf 83 = .ok (.getfield 47, 3) := by decide +kernel
theorem dX6_personOf_86 : decode cX6_personOf 86 = .ok (.iload_n 1, 1) := by decide +kernel
theorem dX6_personOf_87 : decode cX6_personOf 87 = .ok (.iaload, 1) := by decide +kernel
theorem dX6_personOf_88 : decode cX6_personOf 88 = .ok (.ireturn, 1) := by decide +kernel
theorem dX6_personOf_89 : decode cX6_personOf 89 = .ok (.aload_n 0, 1) := by decide +kernel
theorem dX6_personOf_90 : decode cX6_personOf 90 = .ok (.getfield 50, 3) := by decide +kernel
theorem dX6_personOf_93 : decode cX6_personOf 93 = .ok (.iload_n 1, 1) := by decide +kernel
theorem dX6_personOf_94 : decode cX6_personOf 94 = .ok (.iaload, 1) := by decide +kernel
theorem dX6_personOf_95 : decode cX6_personOf 95 = .ok (.ireturn, 1) := by decide +kernel
theorem dX6_personOf_96 : decode cX6_personOf 96 = .ok (.aload_n 0, 1) := by decide +kernel
theorem dX6_personOf_97 : decode cX6_personOf 97 = .ok (.getfield 133, 3) := by decide +kernel
theorem dX6_personOf_100 : decode cX6_personOf 100 = .ok (.iload_n 1, 1) := by decide +kernel
theorem dX6_personOf_101 : decode cX6_personOf 101 = .ok (.ishr, 1) := by decide +kernel
theorem dX6_personOf_102 : decode cX6_personOf 102 = .ok (.iconst 1, 1) := by decide +kernel
theorem dX6_personOf_103 : decode cX6_personOf 103 = .ok (.iand, 1) := by decide +kernel
theorem dX6_personOf_104 : decode cX6_personOf 104 = .ok (.ireturn, 1) := by decide +kernel
theorem dX6_personOf_105 : decode cX6_personOf 105 = .ok (.aload_n 0, 1) := by decide +kernel
theorem dX6_personOf_106 : decode cX6_personOf 106 = .ok (.getfield 53, 3) := by decide +kernel
theorem dX6_personOf_109 : decode cX6_personOf 109 = .ok (.iload_n 1, 1) := by decide +kernel
theorem dX6_personOf_110 : decode cX6_personOf 110 = .ok (.iaload, 1) := by decide +kernel
theorem dX6_personOf_111 : decode cX6_personOf 111 = .ok (.ireturn, 1) := by decide +kernel
theorem dX6_personOf_112 : decode cX6_personOf 112 = .ok (.aload_n 0, 1) := by decide +kernel
theorem dX6_personOf_113 : decode cX6_personOf 113 = .ok (.iload_n 1, 1) := by decide +kernel
theorem dX6_personOf_114 : decode cX6_personOf 114 = .ok (.invokevirtual 270, 3) := by decide +kernel
theorem dX6_personOf_117 : decode cX6_personOf 117 = .ok (.ireturn, 1) := by decide +kernel
set_option maxRecDepth 100000 in
set_option maxHeartbeats 4000000 in
theorem c_X6_personOf (Z : ZZ) (l : Launch) (t : Nat) (a1 : Int32) (a2 : Int32) (h : HP) {v : Int32} {h1 : HP} (ho : f_X6_personOf t a1 a2 h = some (v, h1)) : MetP Z l yX6_personOf cX6_personOf 3 (some .int) 2 46 [.ref (zb Z + t), .int a1, .int a2] h (some (.int v)) h1 := by
  refine MetP_of ho (by decide +kernel) (Nat.le_of_ble_eq_true rfl) [(0, .ref (zb Z + t)), (1, .int a1), (2, .int a2)] rfl (own := RX6) rfl (nm := "personOf") rfl ?_
  unfold f_X6_personOf
  refine S_aload_n dX6_personOf_0 rfl 0 rfl (pc' := 1) rfl ?_
  refine S_iload_n dX6_personOf_1 rfl 1 rfl (pc' := 2) rfl ?_
  refine S_invi ml_X6_119 mi_X6_isPerson (ci := 6) ⟨_, rfl, rfl⟩ (by decide) dX6_personOf_2 [.int a1] rfl (fun v h2 q => c_X6_isPerson Z l _ _ _ q) ⟨Nat.le_of_ble_eq_true rfl, Nat.le_of_ble_eq_true rfl⟩ (rest := []) (Nat.le_of_ble_eq_true rfl) rfl (pc' := 5) rfl (fun x2 h2 => ?_)
  refine S_if_eq dX6_personOf_5 20 rfl (pc' := 8) rfl (fun g5 => ?_) (fun g5 => ?_)
  · refine S_aload_n dX6_personOf_20 rfl 0 rfl (pc' := 21) rfl ?_
    refine S_bipush dX6_personOf_21 (v := (-2)) rfl (pc' := 23) rfl ?_
    refine S_invi ml_X6_108 mi_X6_refuse (ci := 6) ⟨_, rfl, rfl⟩ (by decide) dX6_personOf_23 [.int (-2)] rfl (fun v h2 q => c_X6_refuse Z l _ _ _ q) ⟨Nat.le_of_ble_eq_true rfl, Nat.le_of_ble_eq_true rfl⟩ (rest := []) (Nat.le_of_ble_eq_true rfl) rfl (pc' := 26) rfl (fun x23 h23 => ?_)
    exact S_iret rfl dX6_personOf_26
  · refine S_iload_n dX6_personOf_8 rfl 2 rfl (pc' := 9) rfl ?_
    refine S_i2l dX6_personOf_9 (pc' := 10) rfl ?_
    refine S_lconst dX6_personOf_10 (v := 0) rfl (pc' := 11) rfl ?_
    refine S_ldc2 dX6_personOf_11 kc_X6_291 (pc' := 14) rfl ?_
    refine S_stai ml_X6_95 ms_X6_in dX6_personOf_14 [.long a2.toInt64, .long 0, .long 6] rfl (fun v h2 q => c_X6_in Z l _ _ _ _ q) ⟨Nat.le_of_ble_eq_true rfl, Nat.le_of_ble_eq_true rfl⟩ (rest := []) (Nat.le_of_ble_eq_true rfl) rfl (pc' := 17) rfl (fun x14 h14 => ?_)
    refine S_if_ne dX6_personOf_17 27 rfl (pc' := 20) rfl (fun g17 => ?_) (fun g17 => ?_)
    · refine S_iload_n dX6_personOf_27 rfl 2 rfl (pc' := 28) rfl ?_
      refine Sim.ite (fun g28_0 => ?_) (fun g28_0 => ?_)
      · refine S_tabIn dX6_personOf_28 g28_0 0 rfl (by decide) (off := 40) rfl 68 rfl ?_
        refine S_aload_n dX6_personOf_68 rfl 0 rfl (pc' := 69) rfl ?_
        refine S_getR fl_X6_41 rfl dX6_personOf_69 (pc' := 72) rfl (fun x69 => ?_)
        refine S_iload_n dX6_personOf_72 rfl 1 rfl (pc' := 73) rfl ?_
        refine S_iaload dX6_personOf_73 (pc' := 74) rfl (fun x73 => ?_)
        exact S_iret rfl dX6_personOf_74
      refine Sim.ite (fun g28_1 => ?_) (fun g28_1 => ?_)
      · refine S_tabIn dX6_personOf_28 g28_1 1 rfl (by decide) (off := 47) rfl 75 rfl ?_
        refine S_aload_n dX6_personOf_75 rfl 0 rfl (pc' := 76) rfl ?_
        refine S_getR fl_X6_44 rfl dX6_personOf_76 (pc' := 79) rfl (fun x76 => ?_)
        refine S_iload_n dX6_personOf_79 rfl 1 rfl (pc' := 80) rfl ?_
        refine S_iaload dX6_personOf_80 (pc' := 81) rfl (fun x80 => ?_)
        exact S_iret rfl dX6_personOf_81
      refine Sim.ite (fun g28_2 => ?_) (fun g28_2 => ?_)
      · refine S_tabIn dX6_personOf_28 g28_2 2 rfl (by decide) (off := 54) rfl 82 rfl ?_
        refine S_aload_n dX6_personOf_82 rfl 0 rfl (pc' := 83) rfl ?_
        refine S_getR fl_X6_47 rfl dX6_personOf_83 (pc' := 86) rfl (fun x83 => ?_)
        refine S_iload_n dX6_personOf_86 rfl 1 rfl (pc' := 87) rfl ?_
        refine S_iaload dX6_personOf_87 (pc' := 88) rfl (fun x87 => ?_)
        exact S_iret rfl dX6_personOf_88
      refine Sim.ite (fun g28_3 => ?_) (fun g28_3 => ?_)
      · refine S_tabIn dX6_personOf_28 g28_3 3 rfl (by decide) (off := 61) rfl 89 rfl ?_
        refine S_aload_n dX6_personOf_89 rfl 0 rfl (pc' := 90) rfl ?_
        refine S_getR fl_X6_50 rfl dX6_personOf_90 (pc' := 93) rfl (fun x90 => ?_)
        refine S_iload_n dX6_personOf_93 rfl 1 rfl (pc' := 94) rfl ?_
        refine S_iaload dX6_personOf_94 (pc' := 95) rfl (fun x94 => ?_)
        exact S_iret rfl dX6_personOf_95
      refine Sim.ite (fun g28_4 => ?_) (fun g28_4 => ?_)
      · refine S_tabIn dX6_personOf_28 g28_4 4 rfl (by decide) (off := 68) rfl 96 rfl ?_
        refine S_aload_n dX6_personOf_96 rfl 0 rfl (pc' := 97) rfl ?_
        refine S_getI fl_X6_133 rfl dX6_personOf_97 (pc' := 100) rfl (fun x97 => ?_)
        refine S_iload_n dX6_personOf_100 rfl 1 rfl (pc' := 101) rfl ?_
        refine S_ishr dX6_personOf_101 (pc' := 102) rfl ?_
        refine S_iconst dX6_personOf_102 (v := 1) rfl (pc' := 103) rfl ?_
        refine S_iand dX6_personOf_103 (pc' := 104) rfl ?_
        exact S_iret rfl dX6_personOf_104
      refine Sim.ite (fun g28_5 => ?_) (fun g28_5 => ?_)
      · refine S_tabIn dX6_personOf_28 g28_5 5 rfl (by decide) (off := 77) rfl 105 rfl ?_
        refine S_aload_n dX6_personOf_105 rfl 0 rfl (pc' := 106) rfl ?_
        refine S_getR fl_X6_53 rfl dX6_personOf_106 (pc' := 109) rfl (fun x106 => ?_)
        refine S_iload_n dX6_personOf_109 rfl 1 rfl (pc' := 110) rfl ?_
        refine S_iaload dX6_personOf_110 (pc' := 111) rfl (fun x110 => ?_)
        exact S_iret rfl dX6_personOf_111
      refine S_tabOut dX6_personOf_28 (by
          have q0 := i32_ne g28_0
          have q1 := i32_ne g28_1
          have q2 := i32_ne g28_2
          have q3 := i32_ne g28_3
          have q4 := i32_ne g28_4
          have q5 := i32_ne g28_5
          simp only [show Int32.toInt 0 = 0 from rfl, show Int32.toInt 1 = 1 from rfl, show Int32.toInt 2 = 2 from rfl, show Int32.toInt 3 = 3 from rfl, show Int32.toInt 4 = 4 from rfl, show Int32.toInt 5 = 5 from rfl] at q0 q1 q2 q3 q4 q5
          omega) 112 rfl ?_
      refine S_aload_n dX6_personOf_112 rfl 0 rfl (pc' := 113) rfl ?_
      refine S_iload_n dX6_personOf_113 rfl 1 rfl (pc' := 114) rfl ?_
      refine S_invi ml_X6_270 mi_X6_songsOf (ci := 6) ⟨_, rfl, rfl⟩ (by decide) dX6_personOf_114 [.int a1] rfl (fun v h2 q => c_X6_songsOf Z l _ _ _ q) ⟨Nat.le_of_ble_eq_true rfl, Nat.le_of_ble_eq_true rfl⟩ (rest := []) (Nat.le_of_ble_eq_true rfl) rfl (pc' := 117) rfl (fun x114 h114 => ?_)
      exact S_iret rfl dX6_personOf_117
    · refine S_aload_n dX6_personOf_20 rfl 0 rfl (pc' := 21) rfl ?_
      refine S_bipush dX6_personOf_21 (v := (-2)) rfl (pc' := 23) rfl ?_
      refine S_invi ml_X6_108 mi_X6_refuse (ci := 6) ⟨_, rfl, rfl⟩ (by decide) dX6_personOf_23 [.int (-2)] rfl (fun v h2 q => c_X6_refuse Z l _ _ _ q) ⟨Nat.le_of_ble_eq_true rfl, Nat.le_of_ble_eq_true rfl⟩ (rest := []) (Nat.le_of_ble_eq_true rfl) rfl (pc' := 26) rfl (fun x23 h23 => ?_)
      exact S_iret rfl dX6_personOf_26
theorem dX6_songOf_0 : decode cX6_songOf 0 = .ok (.aload_n 0, 1) := by decide +kernel
theorem dX6_songOf_1 : decode cX6_songOf 1 = .ok (.iload_n 1, 1) := by decide +kernel
theorem dX6_songOf_2 : decode cX6_songOf 2 = .ok (.invokevirtual 148, 3) := by decide +kernel
theorem dX6_songOf_5 : decode cX6_songOf 5 = .ok (.ifCond .eq 15, 3) := by decide +kernel
theorem dX6_songOf_8 : decode cX6_songOf 8 = .ok (.iload_n 2, 1) := by decide +kernel
theorem dX6_songOf_9 : decode cX6_songOf 9 = .ok (.i2l, 1) := by decide +kernel
theorem dX6_songOf_10 : decode cX6_songOf 10 = .ok (.lconst 0, 1) := by decide +kernel
theorem dX6_songOf_11 : decode cX6_songOf 11 = .ok (.ldc2_w 104, 3) := by decide +kernel
theorem dX6_songOf_14 : decode cX6_songOf 14 = .ok (.invokestatic 95, 3) := by decide +kernel
theorem dX6_songOf_17 : decode cX6_songOf 17 = .ok (.ifCond .ne 10, 3) := by decide +kernel
theorem dX6_songOf_20 : decode cX6_songOf 20 = .ok (.aload_n 0, 1) := by decide +kernel
theorem dX6_songOf_21 : decode cX6_songOf 21 = .ok (.bipush (-2), 2) := by decide +kernel
theorem dX6_songOf_23 : decode cX6_songOf 23 = .ok (.invokevirtual 108, 3) := by decide +kernel
theorem dX6_songOf_26 : decode cX6_songOf 26 = .ok (.ireturn, 1) := by decide +kernel
theorem dX6_songOf_27 : decode cX6_songOf 27 = .ok (.iload_n 2, 1) := by decide +kernel
theorem dX6_songOf_28 : decode cX6_songOf 28 = .ok (.tableswitch 59 0 3 #[32, 39, 46, 53], 32) := by decide +kernel
theorem dX6_songOf_60 : decode cX6_songOf 60 = .ok (.aload_n 0, 1) := by decide +kernel
theorem dX6_songOf_61 : decode cX6_songOf 61 = .ok (.getfield 56, 3) := by decide +kernel
theorem dX6_songOf_64 : decode cX6_songOf 64 = .ok (.iload_n 1, 1) := by decide +kernel
theorem dX6_songOf_65 : decode cX6_songOf 65 = .ok (.iaload, 1) := by decide +kernel
theorem dX6_songOf_66 : decode cX6_songOf 66 = .ok (.ireturn, 1) := by decide +kernel
theorem dX6_songOf_67 : decode cX6_songOf 67 = .ok (.aload_n 0, 1) := by decide +kernel
theorem dX6_songOf_68 : decode cX6_songOf 68 = .ok (.getfield 59, 3) := by decide +kernel
theorem dX6_songOf_71 : decode cX6_songOf 71 = .ok (.iload_n 1, 1) := by decide +kernel
theorem dX6_songOf_72 : decode cX6_songOf 72 = .ok (.iaload, 1) := by decide +kernel
theorem dX6_songOf_73 : decode cX6_songOf 73 = .ok (.ireturn, 1) := by decide +kernel
theorem dX6_songOf_74 : decode cX6_songOf 74 = .ok (.aload_n 0, 1) := by decide +kernel
theorem dX6_songOf_75 : decode cX6_songOf 75 = .ok (.getfield 62, 3) := by decide +kernel
theorem dX6_songOf_78 : decode cX6_songOf 78 = .ok (.iload_n 1, 1) := by decide +kernel
theorem dX6_songOf_79 : decode cX6_songOf 79 = .ok (.iaload, 1) := by decide +kernel
theorem dX6_songOf_80 : decode cX6_songOf 80 = .ok (.ireturn, 1) := by decide +kernel
theorem dX6_songOf_81 : decode cX6_songOf 81 = .ok (.aload_n 0, 1) := by decide +kernel
theorem dX6_songOf_82 : decode cX6_songOf 82 = .ok (.iload_n 1, 1) := by decide +kernel
theorem dX6_songOf_83 : decode cX6_songOf 83 = .ok (.invokevirtual 285, 3) := by decide +kernel
theorem dX6_songOf_86 : decode cX6_songOf 86 = .ok (.ireturn, 1) := by decide +kernel
theorem dX6_songOf_87 : decode cX6_songOf 87 = .ok (.aload_n 0, 1) := by decide +kernel
theorem dX6_songOf_88 : decode cX6_songOf 88 = .ok (.iload_n 1, 1) := by decide +kernel
theorem dX6_songOf_89 : decode cX6_songOf 89 = .ok (.invokevirtual 293, 3) := by decide +kernel
theorem dX6_songOf_92 : decode cX6_songOf 92 = .ok (.ireturn, 1) := by decide +kernel
set_option maxRecDepth 100000 in
set_option maxHeartbeats 4000000 in
theorem c_X6_songOf (Z : ZZ) (l : Launch) (t : Nat) (a1 : Int32) (a2 : Int32) (h : HP) {v : Int32} {h1 : HP} (ho : f_X6_songOf t a1 a2 h = some (v, h1)) : MetP Z l yX6_songOf cX6_songOf 3 (some .int) 2 46 [.ref (zb Z + t), .int a1, .int a2] h (some (.int v)) h1 := by
  refine MetP_of ho (by decide +kernel) (Nat.le_of_ble_eq_true rfl) [(0, .ref (zb Z + t)), (1, .int a1), (2, .int a2)] rfl (own := RX6) rfl (nm := "songOf") rfl ?_
  unfold f_X6_songOf
  refine S_aload_n dX6_songOf_0 rfl 0 rfl (pc' := 1) rfl ?_
  refine S_iload_n dX6_songOf_1 rfl 1 rfl (pc' := 2) rfl ?_
  refine S_invi ml_X6_148 mi_X6_isSong (ci := 6) ⟨_, rfl, rfl⟩ (by decide) dX6_songOf_2 [.int a1] rfl (fun v h2 q => c_X6_isSong Z l _ _ _ q) ⟨Nat.le_of_ble_eq_true rfl, Nat.le_of_ble_eq_true rfl⟩ (rest := []) (Nat.le_of_ble_eq_true rfl) rfl (pc' := 5) rfl (fun x2 h2 => ?_)
  refine S_if_eq dX6_songOf_5 20 rfl (pc' := 8) rfl (fun g5 => ?_) (fun g5 => ?_)
  · refine S_aload_n dX6_songOf_20 rfl 0 rfl (pc' := 21) rfl ?_
    refine S_bipush dX6_songOf_21 (v := (-2)) rfl (pc' := 23) rfl ?_
    refine S_invi ml_X6_108 mi_X6_refuse (ci := 6) ⟨_, rfl, rfl⟩ (by decide) dX6_songOf_23 [.int (-2)] rfl (fun v h2 q => c_X6_refuse Z l _ _ _ q) ⟨Nat.le_of_ble_eq_true rfl, Nat.le_of_ble_eq_true rfl⟩ (rest := []) (Nat.le_of_ble_eq_true rfl) rfl (pc' := 26) rfl (fun x23 h23 => ?_)
    exact S_iret rfl dX6_songOf_26
  · refine S_iload_n dX6_songOf_8 rfl 2 rfl (pc' := 9) rfl ?_
    refine S_i2l dX6_songOf_9 (pc' := 10) rfl ?_
    refine S_lconst dX6_songOf_10 (v := 0) rfl (pc' := 11) rfl ?_
    refine S_ldc2 dX6_songOf_11 kc_X6_104 (pc' := 14) rfl ?_
    refine S_stai ml_X6_95 ms_X6_in dX6_songOf_14 [.long a2.toInt64, .long 0, .long 4] rfl (fun v h2 q => c_X6_in Z l _ _ _ _ q) ⟨Nat.le_of_ble_eq_true rfl, Nat.le_of_ble_eq_true rfl⟩ (rest := []) (Nat.le_of_ble_eq_true rfl) rfl (pc' := 17) rfl (fun x14 h14 => ?_)
    refine S_if_ne dX6_songOf_17 27 rfl (pc' := 20) rfl (fun g17 => ?_) (fun g17 => ?_)
    · refine S_iload_n dX6_songOf_27 rfl 2 rfl (pc' := 28) rfl ?_
      refine Sim.ite (fun g28_0 => ?_) (fun g28_0 => ?_)
      · refine S_tabIn dX6_songOf_28 g28_0 0 rfl (by decide) (off := 32) rfl 60 rfl ?_
        refine S_aload_n dX6_songOf_60 rfl 0 rfl (pc' := 61) rfl ?_
        refine S_getR fl_X6_56 rfl dX6_songOf_61 (pc' := 64) rfl (fun x61 => ?_)
        refine S_iload_n dX6_songOf_64 rfl 1 rfl (pc' := 65) rfl ?_
        refine S_iaload dX6_songOf_65 (pc' := 66) rfl (fun x65 => ?_)
        exact S_iret rfl dX6_songOf_66
      refine Sim.ite (fun g28_1 => ?_) (fun g28_1 => ?_)
      · refine S_tabIn dX6_songOf_28 g28_1 1 rfl (by decide) (off := 39) rfl 67 rfl ?_
        refine S_aload_n dX6_songOf_67 rfl 0 rfl (pc' := 68) rfl ?_
        refine S_getR fl_X6_59 rfl dX6_songOf_68 (pc' := 71) rfl (fun x68 => ?_)
        refine S_iload_n dX6_songOf_71 rfl 1 rfl (pc' := 72) rfl ?_
        refine S_iaload dX6_songOf_72 (pc' := 73) rfl (fun x72 => ?_)
        exact S_iret rfl dX6_songOf_73
      refine Sim.ite (fun g28_2 => ?_) (fun g28_2 => ?_)
      · refine S_tabIn dX6_songOf_28 g28_2 2 rfl (by decide) (off := 46) rfl 74 rfl ?_
        refine S_aload_n dX6_songOf_74 rfl 0 rfl (pc' := 75) rfl ?_
        refine S_getR fl_X6_62 rfl dX6_songOf_75 (pc' := 78) rfl (fun x75 => ?_)
        refine S_iload_n dX6_songOf_78 rfl 1 rfl (pc' := 79) rfl ?_
        refine S_iaload dX6_songOf_79 (pc' := 80) rfl (fun x79 => ?_)
        exact S_iret rfl dX6_songOf_80
      refine Sim.ite (fun g28_3 => ?_) (fun g28_3 => ?_)
      · refine S_tabIn dX6_songOf_28 g28_3 3 rfl (by decide) (off := 53) rfl 81 rfl ?_
        refine S_aload_n dX6_songOf_81 rfl 0 rfl (pc' := 82) rfl ?_
        refine S_iload_n dX6_songOf_82 rfl 1 rfl (pc' := 83) rfl ?_
        refine S_invi ml_X6_285 mi_X6_holdersOf (ci := 6) ⟨_, rfl, rfl⟩ (by decide) dX6_songOf_83 [.int a1] rfl (fun v h2 q => c_X6_holdersOf Z l _ _ _ q) ⟨Nat.le_of_ble_eq_true rfl, Nat.le_of_ble_eq_true rfl⟩ (rest := []) (Nat.le_of_ble_eq_true rfl) rfl (pc' := 86) rfl (fun x83 h83 => ?_)
        exact S_iret rfl dX6_songOf_86
      refine S_tabOut dX6_songOf_28 (by
          have q0 := i32_ne g28_0
          have q1 := i32_ne g28_1
          have q2 := i32_ne g28_2
          have q3 := i32_ne g28_3
          simp only [show Int32.toInt 0 = 0 from rfl, show Int32.toInt 1 = 1 from rfl, show Int32.toInt 2 = 2 from rfl, show Int32.toInt 3 = 3 from rfl] at q0 q1 q2 q3
          omega) 87 rfl ?_
      refine S_aload_n dX6_songOf_87 rfl 0 rfl (pc' := 88) rfl ?_
      refine S_iload_n dX6_songOf_88 rfl 1 rfl (pc' := 89) rfl ?_
      refine S_invi ml_X6_293 mi_X6_tuneOf (ci := 6) ⟨_, rfl, rfl⟩ (by decide) dX6_songOf_89 [.int a1] rfl (fun v h2 q => c_X6_tuneOf Z l _ _ _ q) ⟨Nat.le_of_ble_eq_true rfl, Nat.le_of_ble_eq_true rfl⟩ (rest := []) (Nat.le_of_ble_eq_true rfl) rfl (pc' := 92) rfl (fun x89 h89 => ?_)
      exact S_iret rfl dX6_songOf_92
    · refine S_aload_n dX6_songOf_20 rfl 0 rfl (pc' := 21) rfl ?_
      refine S_bipush dX6_songOf_21 (v := (-2)) rfl (pc' := 23) rfl ?_
      refine S_invi ml_X6_108 mi_X6_refuse (ci := 6) ⟨_, rfl, rfl⟩ (by decide) dX6_songOf_23 [.int (-2)] rfl (fun v h2 q => c_X6_refuse Z l _ _ _ q) ⟨Nat.le_of_ble_eq_true rfl, Nat.le_of_ble_eq_true rfl⟩ (rest := []) (Nat.le_of_ble_eq_true rfl) rfl (pc' := 26) rfl (fun x23 h23 => ?_)
      exact S_iret rfl dX6_songOf_26
theorem dX6_years_0 : decode cX6_years 0 = .ok (.aload_n 0, 1) := by decide +kernel
theorem dX6_years_1 : decode cX6_years 1 = .ok (.iload_n 1, 1) := by decide +kernel
theorem dX6_years_2 : decode cX6_years 2 = .ok (.invokevirtual 119, 3) := by decide +kernel
theorem dX6_years_5 : decode cX6_years 5 = .ok (.ifCond .eq 11, 3) := by decide +kernel
theorem dX6_years_8 : decode cX6_years 8 = .ok (.aload_n 0, 1) := by decide +kernel
theorem dX6_years_9 : decode cX6_years 9 = .ok (.iload_n 2, 1) := by decide +kernel
theorem dX6_years_10 : decode cX6_years 10 = .ok (.invokevirtual 148, 3) := by decide +kernel
theorem dX6_years_13 : decode cX6_years 13 = .ok (.ifCond .ne 10, 3) := by decide +kernel
theorem dX6_years_16 : decode cX6_years 16 = .ok (.aload_n 0, 1) := by decide +kernel
theorem dX6_years_17 : decode cX6_years 17 = .ok (.bipush (-2), 2) := by decide +kernel
theorem dX6_years_19 : decode cX6_years 19 = .ok (.invokevirtual 108, 3) := by decide +kernel
theorem dX6_years_22 : decode cX6_years 22 = .ok (.ireturn, 1) := by decide +kernel
theorem dX6_years_23 : decode cX6_years 23 = .ok (.aload_n 0, 1) := by decide +kernel
theorem dX6_years_24 : decode cX6_years 24 = .ok (.iload_n 1, 1) := by decide +kernel
theorem dX6_years_25 : decode cX6_years 25 = .ok (.iload_n 2, 1) := by decide +kernel
theorem dX6_years_26 : decode cX6_years 26 = .ok (.invokevirtual 267, 3) := by decide +kernel
theorem dX6_years_29 : decode cX6_years 29 = .ok (.ifCond .eq 17, 3) := by decide +kernel
theorem dX6_years_32 : decode cX6_years 32 = .ok (.aload_n 0, 1) := by decide +kernel
theorem dX6_years_33 : decode cX6_years 33 = .ok (.getfield 68, 3) := by decide +kernel
theorem dX6_years_36 : decode cX6_years 36 = .ok (.iload_n 1, 1) := by decide +kernel
theorem dX6_years_37 : decode cX6_years 37 = .ok (.bipush 6, 2) := by decide +kernel
theorem dX6_years_39 : decode cX6_years 39 = .ok (.imul, 1) := by decide +kernel
theorem dX6_years_40 : decode cX6_years 40 = .ok (.iload_n 2, 1) := by decide +kernel
theorem dX6_years_41 : decode cX6_years 41 = .ok (.iadd, 1) := by decide +kernel
theorem dX6_years_42 : decode cX6_years 42 = .ok (.iaload, 1) := by decide +kernel
theorem dX6_years_43 : decode cX6_years 43 = .ok (.goto 5, 3) := by decide +kernel
theorem dX6_years_46 : decode cX6_years 46 = .ok (.bipush 100, 2) := by decide +kernel
theorem dX6_years_48 : decode cX6_years 48 = .ok (.ireturn, 1) := by decide +kernel
set_option maxRecDepth 100000 in
set_option maxHeartbeats 4000000 in
theorem c_X6_years (Z : ZZ) (l : Launch) (t : Nat) (a1 : Int32) (a2 : Int32) (h : HP) {v : Int32} {h1 : HP} (ho : f_X6_years t a1 a2 h = some (v, h1)) : MetP Z l yX6_years cX6_years 3 (some .int) 2 46 [.ref (zb Z + t), .int a1, .int a2] h (some (.int v)) h1 := by
  refine MetP_of ho (by decide +kernel) (Nat.le_of_ble_eq_true rfl) [(0, .ref (zb Z + t)), (1, .int a1), (2, .int a2)] rfl (own := RX6) rfl (nm := "years") rfl ?_
  unfold f_X6_years
  refine S_aload_n dX6_years_0 rfl 0 rfl (pc' := 1) rfl ?_
  refine S_iload_n dX6_years_1 rfl 1 rfl (pc' := 2) rfl ?_
  refine S_invi ml_X6_119 mi_X6_isPerson (ci := 6) ⟨_, rfl, rfl⟩ (by decide) dX6_years_2 [.int a1] rfl (fun v h2 q => c_X6_isPerson Z l _ _ _ q) ⟨Nat.le_of_ble_eq_true rfl, Nat.le_of_ble_eq_true rfl⟩ (rest := []) (Nat.le_of_ble_eq_true rfl) rfl (pc' := 5) rfl (fun x2 h2 => ?_)
  refine S_if_eq dX6_years_5 16 rfl (pc' := 8) rfl (fun g5 => ?_) (fun g5 => ?_)
  · refine S_aload_n dX6_years_16 rfl 0 rfl (pc' := 17) rfl ?_
    refine S_bipush dX6_years_17 (v := (-2)) rfl (pc' := 19) rfl ?_
    refine S_invi ml_X6_108 mi_X6_refuse (ci := 6) ⟨_, rfl, rfl⟩ (by decide) dX6_years_19 [.int (-2)] rfl (fun v h2 q => c_X6_refuse Z l _ _ _ q) ⟨Nat.le_of_ble_eq_true rfl, Nat.le_of_ble_eq_true rfl⟩ (rest := []) (Nat.le_of_ble_eq_true rfl) rfl (pc' := 22) rfl (fun x19 h19 => ?_)
    exact S_iret rfl dX6_years_22
  · refine S_aload_n dX6_years_8 rfl 0 rfl (pc' := 9) rfl ?_
    refine S_iload_n dX6_years_9 rfl 2 rfl (pc' := 10) rfl ?_
    refine S_invi ml_X6_148 mi_X6_isSong (ci := 6) ⟨_, rfl, rfl⟩ (by decide) dX6_years_10 [.int a2] rfl (fun v h2 q => c_X6_isSong Z l _ _ _ q) ⟨Nat.le_of_ble_eq_true rfl, Nat.le_of_ble_eq_true rfl⟩ (rest := []) (Nat.le_of_ble_eq_true rfl) rfl (pc' := 13) rfl (fun x10 h10 => ?_)
    refine S_if_ne dX6_years_13 23 rfl (pc' := 16) rfl (fun g13 => ?_) (fun g13 => ?_)
    · refine S_aload_n dX6_years_23 rfl 0 rfl (pc' := 24) rfl ?_
      refine S_iload_n dX6_years_24 rfl 1 rfl (pc' := 25) rfl ?_
      refine S_iload_n dX6_years_25 rfl 2 rfl (pc' := 26) rfl ?_
      refine S_invi ml_X6_267 mi_X6_knowsIt (ci := 6) ⟨_, rfl, rfl⟩ (by decide) dX6_years_26 [.int a1, .int a2] rfl (fun v h2 q => c_X6_knowsIt Z l _ _ _ _ q) ⟨Nat.le_of_ble_eq_true rfl, Nat.le_of_ble_eq_true rfl⟩ (rest := []) (Nat.le_of_ble_eq_true rfl) rfl (pc' := 29) rfl (fun x26 h26 => ?_)
      refine S_if_eq dX6_years_29 46 rfl (pc' := 32) rfl (fun g29 => ?_) (fun g29 => ?_)
      · refine S_bipush dX6_years_46 (v := 100) rfl (pc' := 48) rfl ?_
        exact S_iret rfl dX6_years_48
      · refine S_aload_n dX6_years_32 rfl 0 rfl (pc' := 33) rfl ?_
        refine S_getR fl_X6_68 rfl dX6_years_33 (pc' := 36) rfl (fun x33 => ?_)
        refine S_iload_n dX6_years_36 rfl 1 rfl (pc' := 37) rfl ?_
        refine S_bipush dX6_years_37 (v := 6) rfl (pc' := 39) rfl ?_
        refine S_imul dX6_years_39 (pc' := 40) rfl ?_
        refine S_iload_n dX6_years_40 rfl 2 rfl (pc' := 41) rfl ?_
        refine S_iadd dX6_years_41 (pc' := 42) rfl ?_
        refine S_iaload dX6_years_42 (pc' := 43) rfl (fun x42 => ?_)
        refine S_goto dX6_years_43 48 rfl ?_
        exact S_iret rfl dX6_years_48
    · refine S_aload_n dX6_years_16 rfl 0 rfl (pc' := 17) rfl ?_
      refine S_bipush dX6_years_17 (v := (-2)) rfl (pc' := 19) rfl ?_
      refine S_invi ml_X6_108 mi_X6_refuse (ci := 6) ⟨_, rfl, rfl⟩ (by decide) dX6_years_19 [.int (-2)] rfl (fun v h2 q => c_X6_refuse Z l _ _ _ q) ⟨Nat.le_of_ble_eq_true rfl, Nat.le_of_ble_eq_true rfl⟩ (rest := []) (Nat.le_of_ble_eq_true rfl) rfl (pc' := 22) rfl (fun x19 h19 => ?_)
      exact S_iret rfl dX6_years_22
theorem dX6_hold_0 : decode cX6_hold 0 = .ok (.aload_n 0, 1) := by decide +kernel
theorem dX6_hold_1 : decode cX6_hold 1 = .ok (.iload_n 1, 1) := by decide +kernel
theorem dX6_hold_2 : decode cX6_hold 2 = .ok (.invokevirtual 119, 3) := by decide +kernel
theorem dX6_hold_5 : decode cX6_hold 5 = .ok (.ifCond .eq 20, 3) := by decide +kernel
theorem dX6_hold_8 : decode cX6_hold 8 = .ok (.aload_n 0, 1) := by decide +kernel
theorem dX6_hold_9 : decode cX6_hold 9 = .ok (.iload_n 2, 1) := by decide +kernel
theorem dX6_hold_10 : decode cX6_hold 10 = .ok (.invokevirtual 148, 3) := by decide +kernel
theorem dX6_hold_13 : decode cX6_hold 13 = .ok (.ifCond .eq 12, 3) := by decide +kernel
theorem dX6_hold_16 : decode cX6_hold 16 = .ok (.aload_n 0, 1) := by decide +kernel
theorem dX6_hold_17 : decode cX6_hold 17 = .ok (.iload_n 1, 1) := by decide +kernel
theorem dX6_hold_18 : decode cX6_hold 18 = .ok (.iload_n 2, 1) := by decide +kernel
theorem dX6_hold_19 : decode cX6_hold 19 = .ok (.invokevirtual 273, 3) := by decide +kernel
theorem dX6_hold_22 : decode cX6_hold 22 = .ok (.goto 9, 3) := by decide +kernel
theorem dX6_hold_25 : decode cX6_hold 25 = .ok (.aload_n 0, 1) := by decide +kernel
theorem dX6_hold_26 : decode cX6_hold 26 = .ok (.bipush (-2), 2) := by decide +kernel
theorem dX6_hold_28 : decode cX6_hold 28 = .ok (.invokevirtual 108, 3) := by decide +kernel
theorem dX6_hold_31 : decode cX6_hold 31 = .ok (.ireturn, 1) := by decide +kernel
set_option maxRecDepth 100000 in
set_option maxHeartbeats 4000000 in
theorem c_X6_hold (Z : ZZ) (l : Launch) (t : Nat) (a1 : Int32) (a2 : Int32) (h : HP) {v : Int32} {h1 : HP} (ho : f_X6_hold t a1 a2 h = some (v, h1)) : MetP Z l yX6_hold cX6_hold 3 (some .int) 3 65 [.ref (zb Z + t), .int a1, .int a2] h (some (.int v)) h1 := by
  refine MetP_of ho (by decide +kernel) (Nat.le_of_ble_eq_true rfl) [(0, .ref (zb Z + t)), (1, .int a1), (2, .int a2)] rfl (own := RX6) rfl (nm := "hold") rfl ?_
  unfold f_X6_hold
  refine S_aload_n dX6_hold_0 rfl 0 rfl (pc' := 1) rfl ?_
  refine S_iload_n dX6_hold_1 rfl 1 rfl (pc' := 2) rfl ?_
  refine S_invi ml_X6_119 mi_X6_isPerson (ci := 6) ⟨_, rfl, rfl⟩ (by decide) dX6_hold_2 [.int a1] rfl (fun v h2 q => c_X6_isPerson Z l _ _ _ q) ⟨Nat.le_of_ble_eq_true rfl, Nat.le_of_ble_eq_true rfl⟩ (rest := []) (Nat.le_of_ble_eq_true rfl) rfl (pc' := 5) rfl (fun x2 h2 => ?_)
  refine S_if_eq dX6_hold_5 25 rfl (pc' := 8) rfl (fun g5 => ?_) (fun g5 => ?_)
  · refine S_aload_n dX6_hold_25 rfl 0 rfl (pc' := 26) rfl ?_
    refine S_bipush dX6_hold_26 (v := (-2)) rfl (pc' := 28) rfl ?_
    refine S_invi ml_X6_108 mi_X6_refuse (ci := 6) ⟨_, rfl, rfl⟩ (by decide) dX6_hold_28 [.int (-2)] rfl (fun v h2 q => c_X6_refuse Z l _ _ _ q) ⟨Nat.le_of_ble_eq_true rfl, Nat.le_of_ble_eq_true rfl⟩ (rest := []) (Nat.le_of_ble_eq_true rfl) rfl (pc' := 31) rfl (fun x28 h28 => ?_)
    exact S_iret rfl dX6_hold_31
  · refine S_aload_n dX6_hold_8 rfl 0 rfl (pc' := 9) rfl ?_
    refine S_iload_n dX6_hold_9 rfl 2 rfl (pc' := 10) rfl ?_
    refine S_invi ml_X6_148 mi_X6_isSong (ci := 6) ⟨_, rfl, rfl⟩ (by decide) dX6_hold_10 [.int a2] rfl (fun v h2 q => c_X6_isSong Z l _ _ _ q) ⟨Nat.le_of_ble_eq_true rfl, Nat.le_of_ble_eq_true rfl⟩ (rest := []) (Nat.le_of_ble_eq_true rfl) rfl (pc' := 13) rfl (fun x10 h10 => ?_)
    refine S_if_eq dX6_hold_13 25 rfl (pc' := 16) rfl (fun g13 => ?_) (fun g13 => ?_)
    · refine S_aload_n dX6_hold_25 rfl 0 rfl (pc' := 26) rfl ?_
      refine S_bipush dX6_hold_26 (v := (-2)) rfl (pc' := 28) rfl ?_
      refine S_invi ml_X6_108 mi_X6_refuse (ci := 6) ⟨_, rfl, rfl⟩ (by decide) dX6_hold_28 [.int (-2)] rfl (fun v h2 q => c_X6_refuse Z l _ _ _ q) ⟨Nat.le_of_ble_eq_true rfl, Nat.le_of_ble_eq_true rfl⟩ (rest := []) (Nat.le_of_ble_eq_true rfl) rfl (pc' := 31) rfl (fun x28 h28 => ?_)
      exact S_iret rfl dX6_hold_31
    · refine S_aload_n dX6_hold_16 rfl 0 rfl (pc' := 17) rfl ?_
      refine S_iload_n dX6_hold_17 rfl 1 rfl (pc' := 18) rfl ?_
      refine S_iload_n dX6_hold_18 rfl 2 rfl (pc' := 19) rfl ?_
      refine S_invi ml_X6_273 mi_X6_holdOf (ci := 6) ⟨_, rfl, rfl⟩ (by decide) dX6_hold_19 [.int a1, .int a2] rfl (fun v h2 q => c_X6_holdOf Z l _ _ _ _ q) ⟨Nat.le_of_ble_eq_true rfl, Nat.le_of_ble_eq_true rfl⟩ (rest := []) (Nat.le_of_ble_eq_true rfl) rfl (pc' := 22) rfl (fun x19 h19 => ?_)
      refine S_goto dX6_hold_22 31 rfl ?_
      exact S_iret rfl dX6_hold_31
theorem dX6_finder_0 : decode cX6_finder 0 = .ok (.aload_n 0, 1) := by decide +kernel
theorem dX6_finder_1 : decode cX6_finder 1 = .ok (.invokevirtual 282, 3) := by decide +kernel
theorem dX6_finder_4 : decode cX6_finder 4 = .ok (.ireturn, 1) := by decide +kernel
set_option maxRecDepth 100000 in
set_option maxHeartbeats 4000000 in
theorem c_X6_finder (Z : ZZ) (l : Launch) (t : Nat) (h : HP) {v : Int32} {h1 : HP} (ho : f_X6_finder t h = some (v, h1)) : MetP Z l yX6_finder cX6_finder 1 (some .int) 1 22 [.ref (zb Z + t)] h (some (.int v)) h1 := by
  refine MetP_of ho (by decide +kernel) (Nat.le_of_ble_eq_true rfl) [(0, .ref (zb Z + t))] rfl (own := RX6) rfl (nm := "finder") rfl ?_
  unfold f_X6_finder
  refine S_aload_n dX6_finder_0 rfl 0 rfl (pc' := 1) rfl ?_
  refine S_invi ml_X6_282 mi_X6_findsAll (ci := 6) ⟨_, rfl, rfl⟩ (by decide) dX6_finder_1 [] rfl (fun v h2 q => c_X6_findsAll Z l _ _ q) ⟨Nat.le_of_ble_eq_true rfl, Nat.le_of_ble_eq_true rfl⟩ (rest := []) (Nat.le_of_ble_eq_true rfl) rfl (pc' := 4) rfl (fun x1 h1 => ?_)
  exact S_iret rfl dX6_finder_4
theorem dX6_songs_0 : decode cX6_songs 0 = .ok (.iload_n 1, 1) := by decide +kernel
theorem dX6_songs_1 : decode cX6_songs 1 = .ok (.i2l, 1) := by decide +kernel
theorem dX6_songs_2 : decode cX6_songs 2 = .ok (.lconst 0, 1) := by decide +kernel
theorem dX6_songs_3 : decode cX6_songs 3 = .ok (.ldc2_w 296, 3) := by decide +kernel
theorem dX6_songs_6 : decode cX6_songs 6 = .ok (.invokestatic 95, 3) := by decide +kernel
theorem dX6_songs_9 : decode cX6_songs 9 = .ok (.ifCond .ne 10, 3) := by decide +kernel
theorem dX6_songs_12 : decode cX6_songs 12 = .ok (.aload_n 0, 1) := by decide +kernel
theorem dX6_songs_13 : decode cX6_songs 13 = .ok (.bipush (-2), 2) := by decide +kernel
theorem dX6_songs_15 : decode cX6_songs 15 = .ok (.invokevirtual 108, 3) := by decide +kernel
theorem dX6_songs_18 : decode cX6_songs 18 = .ok (.ireturn, 1) := by decide +kernel
theorem dX6_songs_19 : decode cX6_songs 19 = .ok (.iconst 0, 1) := by decide +kernel
theorem dX6_songs_20 : decode cX6_songs 20 = .ok (.istore_n 2, 1) := by decide +kernel
theorem dX6_songs_21 : decode cX6_songs 21 = .ok (.iconst 0, 1) := by decide +kernel
theorem dX6_songs_22 : decode cX6_songs 22 = .ok (.istore_n 3, 1) := by decide +kernel
theorem dX6_songs_23 : decode cX6_songs 23 = .ok (.iload_n 3, 1) := by decide +kernel
theorem dX6_songs_24 : decode cX6_songs 24 = .ok (.aload_n 0, 1) := by decide +kernel
theorem dX6_songs_25 : decode cX6_songs 25 = .ok (.getfield 99, 3) := by decide +kernel
theorem dX6_songs_28 : decode cX6_songs 28 = .ok (.if_icmp .ge 31, 3) := by decide +kernel
theorem dX6_songs_31 : decode cX6_songs 31 = .ok (.iload_n 2, 1) := by decide +kernel
theorem dX6_songs_32 : decode cX6_songs 32 = .ok (.aload_n 0, 1) := by decide +kernel
theorem dX6_songs_33 : decode cX6_songs 33 = .ok (.getfield 62, 3) := by decide +kernel
theorem dX6_songs_36 : decode cX6_songs 36 = .ok (.iload_n 3, 1) := by decide +kernel
theorem dX6_songs_37 : decode cX6_songs 37 = .ok (.iaload, 1) := by decide +kernel
theorem dX6_songs_38 : decode cX6_songs 38 = .ok (.iload_n 1, 1) := by decide +kernel
theorem dX6_songs_39 : decode cX6_songs 39 = .ok (.iconst 1, 1) := by decide +kernel
theorem dX6_songs_40 : decode cX6_songs 40 = .ok (.isub, 1) := by decide +kernel
theorem dX6_songs_41 : decode cX6_songs 41 = .ok (.if_icmp .ne 9, 3) := by decide +kernel
theorem dX6_songs_44 : decode cX6_songs 44 = .ok (.iconst 1, 1) := by decide +kernel
theorem dX6_songs_45 : decode cX6_songs 45 = .ok (.iload_n 3, 1) := by decide +kernel
theorem dX6_songs_46 : decode cX6_songs 46 = .ok (.ishl, 1) := by decide +kernel
theorem dX6_songs_47 : decode cX6_songs 47 = .ok (.goto 4, 3) := by decide +kernel
theorem dX6_songs_50 : decode cX6_songs 50 = .ok (.iconst 0, 1) := by decide +kernel
theorem dX6_songs_51 : decode cX6_songs 51 = .ok (.ior, 1) := by decide +kernel
theorem dX6_songs_52 : decode cX6_songs 52 = .ok (.istore_n 2, 1) := by decide +kernel
theorem dX6_songs_53 : decode cX6_songs 53 = .ok (.iinc 3 1, 3) := by decide +kernel
theorem dX6_songs_56 : decode cX6_songs 56 = .ok (.goto (-33), 3) := by decide +kernel
theorem dX6_songs_59 : decode cX6_songs 59 = .ok (.iload_n 1, 1) := by decide +kernel
theorem dX6_songs_60 : decode cX6_songs 60 = .ok (.ifCond .ne 10, 3) := by decide +kernel
theorem dX6_songs_63 : decode cX6_songs 63 = .ok (.aload_n 0, 1) := by decide +kernel
theorem dX6_songs_64 : decode cX6_songs 64 = .ok (.invokevirtual 298, 3) := by decide +kernel
theorem dX6_songs_67 : decode cX6_songs 67 = .ok (.goto 4, 3) := by decide +kernel
theorem dX6_songs_70 : decode cX6_songs 70 = .ok (.iload_n 2, 1) := by decide +kernel
theorem dX6_songs_71 : decode cX6_songs 71 = .ok (.ireturn, 1) := by decide +kernel
set_option maxRecDepth 100000 in
set_option maxHeartbeats 4000000 in
theorem lc_X6_songs_23 (Z : ZZ) (l : Launch) (a0 : Nat) (a1 : Int32) {args : Array Value} {h0 h1 : HP} {v0 : Int32} (K : Int32 → HP → Option (Int32 × HP)) (F : Int32 → Int32 → HP → Option (Int32 × HP))
    (hK : ∀ (b2 : Int32) (h : HP), Sim Z l cX6_songs RX6 4 3 67 (some .int) "songs" args (Mq Z args h0 h1 (some (.int v0))) h0 h1 v0 59 [(0, .ref (zb Z + a0)), (1, .int a1), (2, .int b2)] [] h (K b2 h))
    (hF : ∀ (b2 : Int32) (b3 : Int32) (h : HP), Sim Z l cX6_songs RX6 4 3 67 (some .int) "songs" args (Mq Z args h0 h1 (some (.int v0))) h0 h1 v0 23 [(0, .ref (zb Z + a0)), (1, .int a1), (2, .int b2), (3, .int b3)] [] h (F b2 b3 h)) :
    ∀ (b2 : Int32) (b3 : Int32) (h : HP), Sim Z l cX6_songs RX6 4 3 67 (some .int) "songs" args (Mq Z args h0 h1 (some (.int v0))) h0 h1 v0 23 [(0, .ref (zb Z + a0)), (1, .int a1), (2, .int b2), (3, .int b3)] [] h (lb_X6_songs_23 a0 a1 K F b2 b3 h) := by
  intro b2 b3 h
  unfold lb_X6_songs_23
  refine S_iload_n dX6_songs_23 rfl 3 rfl (pc' := 24) rfl ?_
  refine S_aload_n dX6_songs_24 rfl 0 rfl (pc' := 25) rfl ?_
  refine S_getI fl_X6_99 rfl dX6_songs_25 (pc' := 28) rfl (fun x25 => ?_)
  refine S_icmp_ge dX6_songs_28 59 rfl (pc' := 31) rfl (fun g28 => ?_) (fun g28 => ?_)
  · refine Sim.sub [0, 1, 2] rfl ?_
    exact hK _ _
  · refine S_iload_n dX6_songs_31 rfl 2 rfl (pc' := 32) rfl ?_
    refine S_aload_n dX6_songs_32 rfl 0 rfl (pc' := 33) rfl ?_
    refine S_getR fl_X6_62 rfl dX6_songs_33 (pc' := 36) rfl (fun x33 => ?_)
    refine S_iload_n dX6_songs_36 rfl 3 rfl (pc' := 37) rfl ?_
    refine S_iaload dX6_songs_37 (pc' := 38) rfl (fun x37 => ?_)
    refine S_iload_n dX6_songs_38 rfl 1 rfl (pc' := 39) rfl ?_
    refine S_iconst dX6_songs_39 (v := 1) rfl (pc' := 40) rfl ?_
    refine S_isub dX6_songs_40 (pc' := 41) rfl ?_
    refine S_icmp_ne dX6_songs_41 50 rfl (pc' := 44) rfl (fun g41 => ?_) (fun g41 => ?_)
    · refine S_iconst dX6_songs_50 (v := 0) rfl (pc' := 51) rfl ?_
      refine S_ior dX6_songs_51 (pc' := 52) rfl ?_
      refine S_istore_n dX6_songs_52 rfl (by decide) (lo' := [(2, .int (b2 ||| 0)), (0, .ref (zb Z + a0)), (1, .int a1), (3, .int b3)]) rfl (pc' := 53) rfl ?_
      refine S_iinc dX6_songs_53 (q := 3) rfl (v := b3 + 1) rfl (by decide) (lo' := [(3, .int (b3 + 1)), (2, .int (b2 ||| 0)), (0, .ref (zb Z + a0)), (1, .int a1)]) rfl (pc' := 56) rfl ?_
      refine S_goto dX6_songs_56 23 rfl ?_
      refine Sim.sub [2, 3, 1, 0] rfl ?_
      exact hF _ _ _
    · refine S_iconst dX6_songs_44 (v := 1) rfl (pc' := 45) rfl ?_
      refine S_iload_n dX6_songs_45 rfl 3 rfl (pc' := 46) rfl ?_
      refine S_ishl dX6_songs_46 (pc' := 47) rfl ?_
      refine S_goto dX6_songs_47 51 rfl ?_
      refine S_ior dX6_songs_51 (pc' := 52) rfl ?_
      refine S_istore_n dX6_songs_52 rfl (by decide) (lo' := [(2, .int (b2 ||| (1 <<< (b3 &&& 31)))), (0, .ref (zb Z + a0)), (1, .int a1), (3, .int b3)]) rfl (pc' := 53) rfl ?_
      refine S_iinc dX6_songs_53 (q := 3) rfl (v := b3 + 1) rfl (by decide) (lo' := [(3, .int (b3 + 1)), (2, .int (b2 ||| (1 <<< (b3 &&& 31)))), (0, .ref (zb Z + a0)), (1, .int a1)]) rfl (pc' := 56) rfl ?_
      refine S_goto dX6_songs_56 23 rfl ?_
      refine Sim.sub [2, 3, 1, 0] rfl ?_
      exact hF _ _ _
theorem lq_X6_songs_23 (Z : ZZ) (l : Launch) (a0 : Nat) (a1 : Int32) {args : Array Value} {h0 h1 : HP} {v0 : Int32} (K : Int32 → HP → Option (Int32 × HP))
    (hK : ∀ (b2 : Int32) (h : HP), Sim Z l cX6_songs RX6 4 3 67 (some .int) "songs" args (Mq Z args h0 h1 (some (.int v0))) h0 h1 v0 59 [(0, .ref (zb Z + a0)), (1, .int a1), (2, .int b2)] [] h (K b2 h)) :
    ∀ (k : Nat) (b2 : Int32) (b3 : Int32) (h : HP), Sim Z l cX6_songs RX6 4 3 67 (some .int) "songs" args (Mq Z args h0 h1 (some (.int v0))) h0 h1 v0 23 [(0, .ref (zb Z + a0)), (1, .int a1), (2, .int b2), (3, .int b3)] [] h (lp_X6_songs_23 a0 a1 K k b2 b3 h) := by
  intro k
  induction k with
  | zero => exact fun _ _ _ => Sim.none
  | succ k ih => exact lc_X6_songs_23 Z l a0 a1 K _ hK ih
set_option maxRecDepth 100000 in
set_option maxHeartbeats 4000000 in
theorem c_X6_songs (Z : ZZ) (l : Launch) (t : Nat) (a1 : Int32) (h : HP) {v : Int32} {h1 : HP} (ho : f_X6_songs t a1 h = some (v, h1)) : MetP Z l yX6_songs cX6_songs 4 (some .int) 3 67 [.ref (zb Z + t), .int a1] h (some (.int v)) h1 := by
  refine MetP_of ho (by decide +kernel) (Nat.le_of_ble_eq_true rfl) [(0, .ref (zb Z + t)), (1, .int a1)] rfl (own := RX6) rfl (nm := "songs") rfl ?_
  unfold f_X6_songs
  refine S_iload_n dX6_songs_0 rfl 1 rfl (pc' := 1) rfl ?_
  refine S_i2l dX6_songs_1 (pc' := 2) rfl ?_
  refine S_lconst dX6_songs_2 (v := 0) rfl (pc' := 3) rfl ?_
  refine S_ldc2 dX6_songs_3 kc_X6_296 (pc' := 6) rfl ?_
  refine S_stai ml_X6_95 ms_X6_in dX6_songs_6 [.long a1.toInt64, .long 0, .long 3] rfl (fun v h2 q => c_X6_in Z l _ _ _ _ q) ⟨Nat.le_of_ble_eq_true rfl, Nat.le_of_ble_eq_true rfl⟩ (rest := []) (Nat.le_of_ble_eq_true rfl) rfl (pc' := 9) rfl (fun x6 h6 => ?_)
  refine S_if_ne dX6_songs_9 19 rfl (pc' := 12) rfl (fun g9 => ?_) (fun g9 => ?_)
  · refine S_iconst dX6_songs_19 (v := 0) rfl (pc' := 20) rfl ?_
    refine S_istore_n dX6_songs_20 rfl (by decide) (lo' := [(2, .int 0), (0, .ref (zb Z + t)), (1, .int a1)]) rfl (pc' := 21) rfl ?_
    refine S_iconst dX6_songs_21 (v := 0) rfl (pc' := 22) rfl ?_
    refine S_istore_n dX6_songs_22 rfl (by decide) (lo' := [(3, .int 0), (2, .int 0), (0, .ref (zb Z + t)), (1, .int a1)]) rfl (pc' := 23) rfl ?_
    refine Sim.sub [2, 3, 1, 0] rfl ?_
    refine lq_X6_songs_23 Z l t a1 _ ?_ 1000 _ _ _
    intro b2_23 h23_
    refine S_iload_n dX6_songs_59 rfl 1 rfl (pc' := 60) rfl ?_
    refine S_if_ne dX6_songs_60 70 rfl (pc' := 63) rfl (fun g60 => ?_) (fun g60 => ?_)
    · refine S_iload_n dX6_songs_70 rfl 2 rfl (pc' := 71) rfl ?_
      exact S_iret rfl dX6_songs_71
    · refine S_aload_n dX6_songs_63 rfl 0 rfl (pc' := 64) rfl ?_
      refine S_invi ml_X6_298 mi_X6_known (ci := 6) ⟨_, rfl, rfl⟩ (by decide) dX6_songs_64 [] rfl (fun v h2 q => c_X6_known Z l _ _ q) ⟨Nat.le_of_ble_eq_true rfl, Nat.le_of_ble_eq_true rfl⟩ (rest := []) (Nat.le_of_ble_eq_true rfl) rfl (pc' := 67) rfl (fun x64 h64 => ?_)
      refine S_goto dX6_songs_67 71 rfl ?_
      exact S_iret rfl dX6_songs_71
  · refine S_aload_n dX6_songs_12 rfl 0 rfl (pc' := 13) rfl ?_
    refine S_bipush dX6_songs_13 (v := (-2)) rfl (pc' := 15) rfl ?_
    refine S_invi ml_X6_108 mi_X6_refuse (ci := 6) ⟨_, rfl, rfl⟩ (by decide) dX6_songs_15 [.int (-2)] rfl (fun v h2 q => c_X6_refuse Z l _ _ _ q) ⟨Nat.le_of_ble_eq_true rfl, Nat.le_of_ble_eq_true rfl⟩ (rest := []) (Nat.le_of_ble_eq_true rfl) rfl (pc' := 18) rfl (fun x15 h15 => ?_)
    exact S_iret rfl dX6_songs_18
theorem dX6_people_0 : decode cX6_people 0 = .ok (.iload_n 1, 1) := by decide +kernel
theorem dX6_people_1 : decode cX6_people 1 = .ok (.i2l, 1) := by decide +kernel
theorem dX6_people_2 : decode cX6_people 2 = .ok (.lconst 0, 1) := by decide +kernel
theorem dX6_people_3 : decode cX6_people 3 = .ok (.lconst 1, 1) := by decide +kernel
theorem dX6_people_4 : decode cX6_people 4 = .ok (.invokestatic 95, 3) := by decide +kernel
theorem dX6_people_7 : decode cX6_people 7 = .ok (.ifCond .ne 10, 3) := by decide +kernel
theorem dX6_people_10 : decode cX6_people 10 = .ok (.aload_n 0, 1) := by decide +kernel
theorem dX6_people_11 : decode cX6_people 11 = .ok (.bipush (-2), 2) := by decide +kernel
theorem dX6_people_13 : decode cX6_people 13 = .ok (.invokevirtual 108, 3) := by decide +kernel
theorem dX6_people_16 : decode cX6_people 16 = .ok (.ireturn, 1) := by decide +kernel
theorem dX6_people_17 : decode cX6_people 17 = .ok (.aload_n 0, 1) := by decide +kernel
theorem dX6_people_18 : decode cX6_people 18 = .ok (.invokevirtual 298, 3) := by decide +kernel
theorem dX6_people_21 : decode cX6_people 21 = .ok (.istore_n 2, 1) := by decide +kernel
theorem dX6_people_22 : decode cX6_people 22 = .ok (.iconst 0, 1) := by decide +kernel
theorem dX6_people_23 : decode cX6_people 23 = .ok (.istore_n 3, 1) := by decide +kernel
theorem dX6_people_24 : decode cX6_people 24 = .ok (.iconst 0, 1) := by decide +kernel
theorem dX6_people_25 : decode cX6_people 25 = .ok (.istore 4, 2) := by decide +kernel
theorem dX6_people_27 : decode cX6_people 27 = .ok (.iload 4, 2) := by decide +kernel
theorem dX6_people_29 : decode cX6_people 29 = .ok (.aload_n 0, 1) := by decide +kernel
theorem dX6_people_30 : decode cX6_people 30 = .ok (.getfield 92, 3) := by decide +kernel
theorem dX6_people_33 : decode cX6_people 33 = .ok (.if_icmp .ge 50, 3) := by decide +kernel
theorem dX6_people_36 : decode cX6_people 36 = .ok (.aload_n 0, 1) := by decide +kernel
theorem dX6_people_37 : decode cX6_people 37 = .ok (.iload 4, 2) := by decide +kernel
theorem dX6_people_39 : decode cX6_people 39 = .ok (.invokevirtual 270, 3) := by decide +kernel
theorem dX6_people_42 : decode cX6_people 42 = .ok (.iload_n 1, 1) := by decide +kernel
theorem dX6_people_43 : decode cX6_people 43 = .ok (.ifCond .ne 7, 3) := by decide +kernel
theorem dX6_people_46 : decode cX6_people 46 = .ok (.iconst 0, 1) := by decide +kernel
theorem dX6_people_47 : decode cX6_people 47 = .ok (.goto 4, 3) := by decide +kernel
theorem dX6_people_50 : decode cX6_people 50 = .ok (.iload_n 2, 1) := by decide +kernel
theorem dX6_people_51 : decode cX6_people 51 = .ok (.if_icmp .ne 7, 3) := by decide +kernel
theorem dX6_people_54 : decode cX6_people 54 = .ok (.iconst 1, 1) := by decide +kernel
theorem dX6_people_55 : decode cX6_people 55 = .ok (.goto 4, 3) := by decide +kernel
theorem dX6_people_58 : decode cX6_people 58 = .ok (.iconst 0, 1) := by decide +kernel
theorem dX6_people_59 : decode cX6_people 59 = .ok (.istore 5, 2) := by decide +kernel
theorem dX6_people_61 : decode cX6_people 61 = .ok (.iload_n 3, 1) := by decide +kernel
theorem dX6_people_62 : decode cX6_people 62 = .ok (.iload 5, 2) := by decide +kernel
theorem dX6_people_64 : decode cX6_people 64 = .ok (.ifCond .eq 10, 3) := by decide +kernel
theorem dX6_people_67 : decode cX6_people 67 = .ok (.iconst 1, 1) := by decide +kernel
theorem dX6_people_68 : decode cX6_people 68 = .ok (.iload 4, 2) := by decide +kernel
theorem dX6_people_70 : decode cX6_people 70 = .ok (.ishl, 1) := by decide +kernel
theorem dX6_people_71 : decode cX6_people 71 = .ok (.goto 4, 3) := by decide +kernel
theorem dX6_people_74 : decode cX6_people 74 = .ok (.iconst 0, 1) := by decide +kernel
theorem dX6_people_75 : decode cX6_people 75 = .ok (.ior, 1) := by decide +kernel
theorem dX6_people_76 : decode cX6_people 76 = .ok (.istore_n 3, 1) := by decide +kernel
theorem dX6_people_77 : decode cX6_people 77 = .ok (.iinc 4 1, 3) := by decide +kernel
theorem dX6_people_80 : decode cX6_people 80 = .ok (.goto (-53), 3) := by decide +kernel
theorem dX6_people_83 : decode cX6_people 83 = .ok (.iload_n 3, 1) := by decide +kernel
theorem dX6_people_84 : decode cX6_people 84 = .ok (.ireturn, 1) := by decide +kernel
set_option maxRecDepth 100000 in
set_option maxHeartbeats 4000000 in
theorem lc_X6_people_27 (Z : ZZ) (l : Launch) (a0 : Nat) (a1 : Int32) (a2 : Int32) {args : Array Value} {h0 h1 : HP} {v0 : Int32} (K : Int32 → HP → Option (Int32 × HP)) (F : Int32 → Int32 → HP → Option (Int32 × HP))
    (hK : ∀ (b3 : Int32) (h : HP), Sim Z l cX6_people RX6 6 3 67 (some .int) "people" args (Mq Z args h0 h1 (some (.int v0))) h0 h1 v0 83 [(3, .int b3)] [] h (K b3 h))
    (hF : ∀ (b3 : Int32) (b4 : Int32) (h : HP), Sim Z l cX6_people RX6 6 3 67 (some .int) "people" args (Mq Z args h0 h1 (some (.int v0))) h0 h1 v0 27 [(0, .ref (zb Z + a0)), (1, .int a1), (2, .int a2), (3, .int b3), (4, .int b4)] [] h (F b3 b4 h)) :
    ∀ (b3 : Int32) (b4 : Int32) (h : HP), Sim Z l cX6_people RX6 6 3 67 (some .int) "people" args (Mq Z args h0 h1 (some (.int v0))) h0 h1 v0 27 [(0, .ref (zb Z + a0)), (1, .int a1), (2, .int a2), (3, .int b3), (4, .int b4)] [] h (lb_X6_people_27 a0 a1 a2 K F b3 b4 h) := by
  intro b3 b4 h
  unfold lb_X6_people_27
  refine S_iload dX6_people_27 4 rfl (pc' := 29) rfl ?_
  refine S_aload_n dX6_people_29 rfl 0 rfl (pc' := 30) rfl ?_
  refine S_getI fl_X6_92 rfl dX6_people_30 (pc' := 33) rfl (fun x30 => ?_)
  refine S_icmp_ge dX6_people_33 83 rfl (pc' := 36) rfl (fun g33 => ?_) (fun g33 => ?_)
  · refine Sim.sub [3] rfl ?_
    exact hK _ _
  · refine S_aload_n dX6_people_36 rfl 0 rfl (pc' := 37) rfl ?_
    refine S_iload dX6_people_37 4 rfl (pc' := 39) rfl ?_
    refine S_invi ml_X6_270 mi_X6_songsOf (ci := 6) ⟨_, rfl, rfl⟩ (by decide) dX6_people_39 [.int b4] rfl (fun v h2 q => c_X6_songsOf Z l _ _ _ q) ⟨Nat.le_of_ble_eq_true rfl, Nat.le_of_ble_eq_true rfl⟩ (rest := []) (Nat.le_of_ble_eq_true rfl) rfl (pc' := 42) rfl (fun x39 h39 => ?_)
    refine S_iload_n dX6_people_42 rfl 1 rfl (pc' := 43) rfl ?_
    refine S_if_ne dX6_people_43 50 rfl (pc' := 46) rfl (fun g43 => ?_) (fun g43 => ?_)
    · refine S_iload_n dX6_people_50 rfl 2 rfl (pc' := 51) rfl ?_
      refine S_icmp_ne dX6_people_51 58 rfl (pc' := 54) rfl (fun g51 => ?_) (fun g51 => ?_)
      · refine S_iconst dX6_people_58 (v := 0) rfl (pc' := 59) rfl ?_
        refine S_istore dX6_people_59 (by decide) (lo' := [(5, .int 0), (0, .ref (zb Z + a0)), (1, .int a1), (2, .int a2), (3, .int b3), (4, .int b4)]) rfl (pc' := 61) rfl ?_
        refine S_iload_n dX6_people_61 rfl 4 rfl (pc' := 62) rfl ?_
        refine S_iload dX6_people_62 0 rfl (pc' := 64) rfl ?_
        refine S_if_eq_J dX6_people_64 74 rfl (pc' := 67) rfl (by decide) ?_
        refine S_iconst dX6_people_74 (v := 0) rfl (pc' := 75) rfl ?_
        refine S_ior dX6_people_75 (pc' := 76) rfl ?_
        refine S_istore_n dX6_people_76 rfl (by decide) (lo' := [(3, .int (b3 ||| 0)), (5, .int 0), (0, .ref (zb Z + a0)), (1, .int a1), (2, .int a2), (4, .int b4)]) rfl (pc' := 77) rfl ?_
        refine S_iinc dX6_people_77 (q := 5) rfl (v := b4 + 1) rfl (by decide) (lo' := [(4, .int (b4 + 1)), (3, .int (b3 ||| 0)), (5, .int 0), (0, .ref (zb Z + a0)), (1, .int a1), (2, .int a2)]) rfl (pc' := 80) rfl ?_
        refine S_goto dX6_people_80 27 rfl ?_
        refine Sim.sub [3, 4, 5, 1, 0] rfl ?_
        exact hF _ _ _
      · refine S_iconst dX6_people_54 (v := 1) rfl (pc' := 55) rfl ?_
        refine S_goto dX6_people_55 59 rfl ?_
        refine S_istore dX6_people_59 (by decide) (lo' := [(5, .int 1), (0, .ref (zb Z + a0)), (1, .int a1), (2, .int a2), (3, .int b3), (4, .int b4)]) rfl (pc' := 61) rfl ?_
        refine S_iload_n dX6_people_61 rfl 4 rfl (pc' := 62) rfl ?_
        refine S_iload dX6_people_62 0 rfl (pc' := 64) rfl ?_
        refine S_if_eq_N dX6_people_64 74 rfl (pc' := 67) rfl (by decide) ?_
        refine S_iconst dX6_people_67 (v := 1) rfl (pc' := 68) rfl ?_
        refine S_iload dX6_people_68 5 rfl (pc' := 70) rfl ?_
        refine S_ishl dX6_people_70 (pc' := 71) rfl ?_
        refine S_goto dX6_people_71 75 rfl ?_
        refine S_ior dX6_people_75 (pc' := 76) rfl ?_
        refine S_istore_n dX6_people_76 rfl (by decide) (lo' := [(3, .int (b3 ||| (1 <<< (b4 &&& 31)))), (5, .int 1), (0, .ref (zb Z + a0)), (1, .int a1), (2, .int a2), (4, .int b4)]) rfl (pc' := 77) rfl ?_
        refine S_iinc dX6_people_77 (q := 5) rfl (v := b4 + 1) rfl (by decide) (lo' := [(4, .int (b4 + 1)), (3, .int (b3 ||| (1 <<< (b4 &&& 31)))), (5, .int 1), (0, .ref (zb Z + a0)), (1, .int a1), (2, .int a2)]) rfl (pc' := 80) rfl ?_
        refine S_goto dX6_people_80 27 rfl ?_
        refine Sim.sub [3, 4, 5, 1, 0] rfl ?_
        exact hF _ _ _
    · refine S_iconst dX6_people_46 (v := 0) rfl (pc' := 47) rfl ?_
      refine S_goto dX6_people_47 51 rfl ?_
      refine S_icmp_ne dX6_people_51 58 rfl (pc' := 54) rfl (fun g51 => ?_) (fun g51 => ?_)
      · refine S_iconst dX6_people_58 (v := 0) rfl (pc' := 59) rfl ?_
        refine S_istore dX6_people_59 (by decide) (lo' := [(5, .int 0), (0, .ref (zb Z + a0)), (1, .int a1), (2, .int a2), (3, .int b3), (4, .int b4)]) rfl (pc' := 61) rfl ?_
        refine S_iload_n dX6_people_61 rfl 4 rfl (pc' := 62) rfl ?_
        refine S_iload dX6_people_62 0 rfl (pc' := 64) rfl ?_
        refine S_if_eq_J dX6_people_64 74 rfl (pc' := 67) rfl (by decide) ?_
        refine S_iconst dX6_people_74 (v := 0) rfl (pc' := 75) rfl ?_
        refine S_ior dX6_people_75 (pc' := 76) rfl ?_
        refine S_istore_n dX6_people_76 rfl (by decide) (lo' := [(3, .int (b3 ||| 0)), (5, .int 0), (0, .ref (zb Z + a0)), (1, .int a1), (2, .int a2), (4, .int b4)]) rfl (pc' := 77) rfl ?_
        refine S_iinc dX6_people_77 (q := 5) rfl (v := b4 + 1) rfl (by decide) (lo' := [(4, .int (b4 + 1)), (3, .int (b3 ||| 0)), (5, .int 0), (0, .ref (zb Z + a0)), (1, .int a1), (2, .int a2)]) rfl (pc' := 80) rfl ?_
        refine S_goto dX6_people_80 27 rfl ?_
        refine Sim.sub [3, 4, 5, 1, 0] rfl ?_
        exact hF _ _ _
      · refine S_iconst dX6_people_54 (v := 1) rfl (pc' := 55) rfl ?_
        refine S_goto dX6_people_55 59 rfl ?_
        refine S_istore dX6_people_59 (by decide) (lo' := [(5, .int 1), (0, .ref (zb Z + a0)), (1, .int a1), (2, .int a2), (3, .int b3), (4, .int b4)]) rfl (pc' := 61) rfl ?_
        refine S_iload_n dX6_people_61 rfl 4 rfl (pc' := 62) rfl ?_
        refine S_iload dX6_people_62 0 rfl (pc' := 64) rfl ?_
        refine S_if_eq_N dX6_people_64 74 rfl (pc' := 67) rfl (by decide) ?_
        refine S_iconst dX6_people_67 (v := 1) rfl (pc' := 68) rfl ?_
        refine S_iload dX6_people_68 5 rfl (pc' := 70) rfl ?_
        refine S_ishl dX6_people_70 (pc' := 71) rfl ?_
        refine S_goto dX6_people_71 75 rfl ?_
        refine S_ior dX6_people_75 (pc' := 76) rfl ?_
        refine S_istore_n dX6_people_76 rfl (by decide) (lo' := [(3, .int (b3 ||| (1 <<< (b4 &&& 31)))), (5, .int 1), (0, .ref (zb Z + a0)), (1, .int a1), (2, .int a2), (4, .int b4)]) rfl (pc' := 77) rfl ?_
        refine S_iinc dX6_people_77 (q := 5) rfl (v := b4 + 1) rfl (by decide) (lo' := [(4, .int (b4 + 1)), (3, .int (b3 ||| (1 <<< (b4 &&& 31)))), (5, .int 1), (0, .ref (zb Z + a0)), (1, .int a1), (2, .int a2)]) rfl (pc' := 80) rfl ?_
        refine S_goto dX6_people_80 27 rfl ?_
        refine Sim.sub [3, 4, 5, 1, 0] rfl ?_
        exact hF _ _ _
theorem lq_X6_people_27 (Z : ZZ) (l : Launch) (a0 : Nat) (a1 : Int32) (a2 : Int32) {args : Array Value} {h0 h1 : HP} {v0 : Int32} (K : Int32 → HP → Option (Int32 × HP))
    (hK : ∀ (b3 : Int32) (h : HP), Sim Z l cX6_people RX6 6 3 67 (some .int) "people" args (Mq Z args h0 h1 (some (.int v0))) h0 h1 v0 83 [(3, .int b3)] [] h (K b3 h)) :
    ∀ (k : Nat) (b3 : Int32) (b4 : Int32) (h : HP), Sim Z l cX6_people RX6 6 3 67 (some .int) "people" args (Mq Z args h0 h1 (some (.int v0))) h0 h1 v0 27 [(0, .ref (zb Z + a0)), (1, .int a1), (2, .int a2), (3, .int b3), (4, .int b4)] [] h (lp_X6_people_27 a0 a1 a2 K k b3 b4 h) := by
  intro k
  induction k with
  | zero => exact fun _ _ _ => Sim.none
  | succ k ih => exact lc_X6_people_27 Z l a0 a1 a2 K _ hK ih
set_option maxRecDepth 100000 in
set_option maxHeartbeats 4000000 in
theorem c_X6_people (Z : ZZ) (l : Launch) (t : Nat) (a1 : Int32) (h : HP) {v : Int32} {h1 : HP} (ho : f_X6_people t a1 h = some (v, h1)) : MetP Z l yX6_people cX6_people 6 (some .int) 3 67 [.ref (zb Z + t), .int a1] h (some (.int v)) h1 := by
  refine MetP_of ho (by decide +kernel) (Nat.le_of_ble_eq_true rfl) [(0, .ref (zb Z + t)), (1, .int a1)] rfl (own := RX6) rfl (nm := "people") rfl ?_
  unfold f_X6_people
  refine S_iload_n dX6_people_0 rfl 1 rfl (pc' := 1) rfl ?_
  refine S_i2l dX6_people_1 (pc' := 2) rfl ?_
  refine S_lconst dX6_people_2 (v := 0) rfl (pc' := 3) rfl ?_
  refine S_lconst dX6_people_3 (v := 1) rfl (pc' := 4) rfl ?_
  refine S_stai ml_X6_95 ms_X6_in dX6_people_4 [.long a1.toInt64, .long 0, .long 1] rfl (fun v h2 q => c_X6_in Z l _ _ _ _ q) ⟨Nat.le_of_ble_eq_true rfl, Nat.le_of_ble_eq_true rfl⟩ (rest := []) (Nat.le_of_ble_eq_true rfl) rfl (pc' := 7) rfl (fun x4 h4 => ?_)
  refine S_if_ne dX6_people_7 17 rfl (pc' := 10) rfl (fun g7 => ?_) (fun g7 => ?_)
  · refine S_aload_n dX6_people_17 rfl 0 rfl (pc' := 18) rfl ?_
    refine S_invi ml_X6_298 mi_X6_known (ci := 6) ⟨_, rfl, rfl⟩ (by decide) dX6_people_18 [] rfl (fun v h2 q => c_X6_known Z l _ _ q) ⟨Nat.le_of_ble_eq_true rfl, Nat.le_of_ble_eq_true rfl⟩ (rest := []) (Nat.le_of_ble_eq_true rfl) rfl (pc' := 21) rfl (fun x18 h18 => ?_)
    refine S_istore_n dX6_people_21 rfl (by decide) (lo' := [(2, .int x18), (0, .ref (zb Z + t)), (1, .int a1)]) rfl (pc' := 22) rfl ?_
    refine S_iconst dX6_people_22 (v := 0) rfl (pc' := 23) rfl ?_
    refine S_istore_n dX6_people_23 rfl (by decide) (lo' := [(3, .int 0), (2, .int x18), (0, .ref (zb Z + t)), (1, .int a1)]) rfl (pc' := 24) rfl ?_
    refine S_iconst dX6_people_24 (v := 0) rfl (pc' := 25) rfl ?_
    refine S_istore dX6_people_25 (by decide) (lo' := [(4, .int 0), (3, .int 0), (2, .int x18), (0, .ref (zb Z + t)), (1, .int a1)]) rfl (pc' := 27) rfl ?_
    refine Sim.sub [3, 4, 2, 1, 0] rfl ?_
    refine lq_X6_people_27 Z l t a1 x18 _ ?_ 1000 _ _ _
    intro b3_27 h27_
    refine S_iload_n dX6_people_83 rfl 0 rfl (pc' := 84) rfl ?_
    exact S_iret rfl dX6_people_84
  · refine S_aload_n dX6_people_10 rfl 0 rfl (pc' := 11) rfl ?_
    refine S_bipush dX6_people_11 (v := (-2)) rfl (pc' := 13) rfl ?_
    refine S_invi ml_X6_108 mi_X6_refuse (ci := 6) ⟨_, rfl, rfl⟩ (by decide) dX6_people_13 [.int (-2)] rfl (fun v h2 q => c_X6_refuse Z l _ _ _ q) ⟨Nat.le_of_ble_eq_true rfl, Nat.le_of_ble_eq_true rfl⟩ (rest := []) (Nat.le_of_ble_eq_true rfl) rfl (pc' := 16) rfl (fun x13 h13 => ?_)
    exact S_iret rfl dX6_people_16
theorem dX6_both_0 : decode cX6_both 0 = .ok (.aload_n 0, 1) := by decide +kernel
theorem dX6_both_1 : decode cX6_both 1 = .ok (.iload_n 1, 1) := by decide +kernel
theorem dX6_both_2 : decode cX6_both 2 = .ok (.invokevirtual 119, 3) := by decide +kernel
theorem dX6_both_5 : decode cX6_both 5 = .ok (.ifCond .eq 30, 3) := by decide +kernel
theorem dX6_both_8 : decode cX6_both 8 = .ok (.aload_n 0, 1) := by decide +kernel
theorem dX6_both_9 : decode cX6_both 9 = .ok (.iload_n 2, 1) := by decide +kernel
theorem dX6_both_10 : decode cX6_both 10 = .ok (.invokevirtual 119, 3) := by decide +kernel
theorem dX6_both_13 : decode cX6_both 13 = .ok (.ifCond .eq 22, 3) := by decide +kernel
theorem dX6_both_16 : decode cX6_both 16 = .ok (.iload_n 1, 1) := by decide +kernel
theorem dX6_both_17 : decode cX6_both 17 = .ok (.iload_n 2, 1) := by decide +kernel
theorem dX6_both_18 : decode cX6_both 18 = .ok (.if_icmp .eq 17, 3) := by decide +kernel
theorem dX6_both_21 : decode cX6_both 21 = .ok (.aload_n 0, 1) := by decide +kernel
theorem dX6_both_22 : decode cX6_both 22 = .ok (.iload_n 1, 1) := by decide +kernel
theorem dX6_both_23 : decode cX6_both 23 = .ok (.invokevirtual 270, 3) := by decide +kernel
theorem dX6_both_26 : decode cX6_both 26 = .ok (.aload_n 0, 1) := by decide +kernel
theorem dX6_both_27 : decode cX6_both 27 = .ok (.iload_n 2, 1) := by decide +kernel
theorem dX6_both_28 : decode cX6_both 28 = .ok (.invokevirtual 270, 3) := by decide +kernel
theorem dX6_both_31 : decode cX6_both 31 = .ok (.iand, 1) := by decide +kernel
theorem dX6_both_32 : decode cX6_both 32 = .ok (.goto 9, 3) := by decide +kernel
theorem dX6_both_35 : decode cX6_both 35 = .ok (.aload_n 0, 1) := by decide +kernel
theorem dX6_both_36 : decode cX6_both 36 = .ok (.bipush (-2), 2) := by decide +kernel
theorem dX6_both_38 : decode cX6_both 38 = .ok (.invokevirtual 108, 3) := by decide +kernel
theorem dX6_both_41 : decode cX6_both 41 = .ok (.ireturn, 1) := by decide +kernel
set_option maxRecDepth 100000 in
set_option maxHeartbeats 4000000 in
theorem c_X6_both (Z : ZZ) (l : Launch) (t : Nat) (a1 : Int32) (a2 : Int32) (h : HP) {v : Int32} {h1 : HP} (ho : f_X6_both t a1 a2 h = some (v, h1)) : MetP Z l yX6_both cX6_both 3 (some .int) 2 46 [.ref (zb Z + t), .int a1, .int a2] h (some (.int v)) h1 := by
  refine MetP_of ho (by decide +kernel) (Nat.le_of_ble_eq_true rfl) [(0, .ref (zb Z + t)), (1, .int a1), (2, .int a2)] rfl (own := RX6) rfl (nm := "both") rfl ?_
  unfold f_X6_both
  refine S_aload_n dX6_both_0 rfl 0 rfl (pc' := 1) rfl ?_
  refine S_iload_n dX6_both_1 rfl 1 rfl (pc' := 2) rfl ?_
  refine S_invi ml_X6_119 mi_X6_isPerson (ci := 6) ⟨_, rfl, rfl⟩ (by decide) dX6_both_2 [.int a1] rfl (fun v h2 q => c_X6_isPerson Z l _ _ _ q) ⟨Nat.le_of_ble_eq_true rfl, Nat.le_of_ble_eq_true rfl⟩ (rest := []) (Nat.le_of_ble_eq_true rfl) rfl (pc' := 5) rfl (fun x2 h2 => ?_)
  refine S_if_eq dX6_both_5 35 rfl (pc' := 8) rfl (fun g5 => ?_) (fun g5 => ?_)
  · refine S_aload_n dX6_both_35 rfl 0 rfl (pc' := 36) rfl ?_
    refine S_bipush dX6_both_36 (v := (-2)) rfl (pc' := 38) rfl ?_
    refine S_invi ml_X6_108 mi_X6_refuse (ci := 6) ⟨_, rfl, rfl⟩ (by decide) dX6_both_38 [.int (-2)] rfl (fun v h2 q => c_X6_refuse Z l _ _ _ q) ⟨Nat.le_of_ble_eq_true rfl, Nat.le_of_ble_eq_true rfl⟩ (rest := []) (Nat.le_of_ble_eq_true rfl) rfl (pc' := 41) rfl (fun x38 h38 => ?_)
    exact S_iret rfl dX6_both_41
  · refine S_aload_n dX6_both_8 rfl 0 rfl (pc' := 9) rfl ?_
    refine S_iload_n dX6_both_9 rfl 2 rfl (pc' := 10) rfl ?_
    refine S_invi ml_X6_119 mi_X6_isPerson (ci := 6) ⟨_, rfl, rfl⟩ (by decide) dX6_both_10 [.int a2] rfl (fun v h2 q => c_X6_isPerson Z l _ _ _ q) ⟨Nat.le_of_ble_eq_true rfl, Nat.le_of_ble_eq_true rfl⟩ (rest := []) (Nat.le_of_ble_eq_true rfl) rfl (pc' := 13) rfl (fun x10 h10 => ?_)
    refine S_if_eq dX6_both_13 35 rfl (pc' := 16) rfl (fun g13 => ?_) (fun g13 => ?_)
    · refine S_aload_n dX6_both_35 rfl 0 rfl (pc' := 36) rfl ?_
      refine S_bipush dX6_both_36 (v := (-2)) rfl (pc' := 38) rfl ?_
      refine S_invi ml_X6_108 mi_X6_refuse (ci := 6) ⟨_, rfl, rfl⟩ (by decide) dX6_both_38 [.int (-2)] rfl (fun v h2 q => c_X6_refuse Z l _ _ _ q) ⟨Nat.le_of_ble_eq_true rfl, Nat.le_of_ble_eq_true rfl⟩ (rest := []) (Nat.le_of_ble_eq_true rfl) rfl (pc' := 41) rfl (fun x38 h38 => ?_)
      exact S_iret rfl dX6_both_41
    · refine S_iload_n dX6_both_16 rfl 1 rfl (pc' := 17) rfl ?_
      refine S_iload_n dX6_both_17 rfl 2 rfl (pc' := 18) rfl ?_
      refine S_icmp_eq dX6_both_18 35 rfl (pc' := 21) rfl (fun g18 => ?_) (fun g18 => ?_)
      · refine S_aload_n dX6_both_35 rfl 0 rfl (pc' := 36) rfl ?_
        refine S_bipush dX6_both_36 (v := (-2)) rfl (pc' := 38) rfl ?_
        refine S_invi ml_X6_108 mi_X6_refuse (ci := 6) ⟨_, rfl, rfl⟩ (by decide) dX6_both_38 [.int (-2)] rfl (fun v h2 q => c_X6_refuse Z l _ _ _ q) ⟨Nat.le_of_ble_eq_true rfl, Nat.le_of_ble_eq_true rfl⟩ (rest := []) (Nat.le_of_ble_eq_true rfl) rfl (pc' := 41) rfl (fun x38 h38 => ?_)
        exact S_iret rfl dX6_both_41
      · refine S_aload_n dX6_both_21 rfl 0 rfl (pc' := 22) rfl ?_
        refine S_iload_n dX6_both_22 rfl 1 rfl (pc' := 23) rfl ?_
        refine S_invi ml_X6_270 mi_X6_songsOf (ci := 6) ⟨_, rfl, rfl⟩ (by decide) dX6_both_23 [.int a1] rfl (fun v h2 q => c_X6_songsOf Z l _ _ _ q) ⟨Nat.le_of_ble_eq_true rfl, Nat.le_of_ble_eq_true rfl⟩ (rest := []) (Nat.le_of_ble_eq_true rfl) rfl (pc' := 26) rfl (fun x23 h23 => ?_)
        refine S_aload_n dX6_both_26 rfl 0 rfl (pc' := 27) rfl ?_
        refine S_iload_n dX6_both_27 rfl 2 rfl (pc' := 28) rfl ?_
        refine S_invi ml_X6_270 mi_X6_songsOf (ci := 6) ⟨_, rfl, rfl⟩ (by decide) dX6_both_28 [.int a2] rfl (fun v h2 q => c_X6_songsOf Z l _ _ _ q) ⟨Nat.le_of_ble_eq_true rfl, Nat.le_of_ble_eq_true rfl⟩ (rest := [.int x23]) (Nat.le_of_ble_eq_true rfl) rfl (pc' := 31) rfl (fun x28 h28 => ?_)
        refine S_iand dX6_both_31 (pc' := 32) rfl ?_
        refine S_goto dX6_both_32 41 rfl ?_
        exact S_iret rfl dX6_both_41
theorem dX6_most_0 : decode cX6_most 0 = .ok (.iload_n 1, 1) := by decide +kernel
theorem dX6_most_1 : decode cX6_most 1 = .ok (.i2l, 1) := by decide +kernel
theorem dX6_most_2 : decode cX6_most 2 = .ok (.lconst 0, 1) := by decide +kernel
theorem dX6_most_3 : decode cX6_most 3 = .ok (.lconst 1, 1) := by decide +kernel
theorem dX6_most_4 : decode cX6_most 4 = .ok (.invokestatic 95, 3) := by decide +kernel
theorem dX6_most_7 : decode cX6_most 7 = .ok (.ifCond .ne 10, 3) := by decide +kernel
theorem dX6_most_10 : decode cX6_most 10 = .ok (.aload_n 0, 1) := by decide +kernel
theorem dX6_most_11 : decode cX6_most 11 = .ok (.bipush (-2), 2) := by decide +kernel
theorem dX6_most_13 : decode cX6_most 13 = .ok (.invokevirtual 108, 3) := by decide +kernel
theorem dX6_most_16 : decode cX6_most 16 = .ok (.ireturn, 1) := by decide +kernel
theorem dX6_most_17 : decode cX6_most 17 = .ok (.aload_n 0, 1) := by decide +kernel
theorem dX6_most_18 : decode cX6_most 18 = .ok (.getfield 99, 3) := by decide +kernel
theorem dX6_most_21 : decode cX6_most 21 = .ok (.ifCond .ne 7, 3) := by decide +kernel
theorem dX6_most_24 : decode cX6_most 24 = .ok (.iconst (-1), 1) := by decide +kernel
theorem dX6_most_25 : decode cX6_most 25 = .ok (.goto 4, 3) := by decide +kernel
theorem dX6_most_28 : decode cX6_most 28 = .ok (.iconst 0, 1) := by decide +kernel
theorem dX6_most_29 : decode cX6_most 29 = .ok (.istore_n 2, 1) := by decide +kernel
theorem dX6_most_30 : decode cX6_most 30 = .ok (.iconst 1, 1) := by decide +kernel
theorem dX6_most_31 : decode cX6_most 31 = .ok (.istore_n 3, 1) := by decide +kernel
theorem dX6_most_32 : decode cX6_most 32 = .ok (.iload_n 3, 1) := by decide +kernel
theorem dX6_most_33 : decode cX6_most 33 = .ok (.aload_n 0, 1) := by decide +kernel
theorem dX6_most_34 : decode cX6_most 34 = .ok (.getfield 99, 3) := by decide +kernel
theorem dX6_most_37 : decode cX6_most 37 = .ok (.if_icmp .ge 53, 3) := by decide +kernel
theorem dX6_most_40 : decode cX6_most 40 = .ok (.aload_n 0, 1) := by decide +kernel
theorem dX6_most_41 : decode cX6_most 41 = .ok (.iload_n 3, 1) := by decide +kernel
theorem dX6_most_42 : decode cX6_most 42 = .ok (.invokevirtual 285, 3) := by decide +kernel
theorem dX6_most_45 : decode cX6_most 45 = .ok (.invokestatic 301, 3) := by decide +kernel
theorem dX6_most_48 : decode cX6_most 48 = .ok (.aload_n 0, 1) := by decide +kernel
theorem dX6_most_49 : decode cX6_most 49 = .ok (.iload_n 2, 1) := by decide +kernel
theorem dX6_most_50 : decode cX6_most 50 = .ok (.invokevirtual 285, 3) := by decide +kernel
theorem dX6_most_53 : decode cX6_most 53 = .ok (.invokestatic 301, 3) := by decide +kernel
theorem dX6_most_56 : decode cX6_most 56 = .ok (.isub, 1) := by decide +kernel
theorem dX6_most_57 : decode cX6_most 57 = .ok (.istore 4, 2) := by decide +kernel
theorem dX6_most_59 : decode cX6_most 59 = .ok (.iload_n 1, 1) := by decide +kernel
theorem dX6_most_60 : decode cX6_most 60 = .ok (.ifCond .ne 8, 3) := by decide +kernel
theorem dX6_most_63 : decode cX6_most 63 = .ok (.iload 4, 2) := by decide +kernel
theorem dX6_most_65 : decode cX6_most 65 = .ok (.ifCond .gt 13, 3) := by decide +kernel
theorem dX6_most_68 : decode cX6_most 68 = .ok (.iload_n 1, 1) := by decide +kernel
theorem dX6_most_69 : decode cX6_most 69 = .ok (.iconst 1, 1) := by decide +kernel
theorem dX6_most_70 : decode cX6_most 70 = .ok (.if_icmp .ne 12, 3) := by decide +kernel
theorem dX6_most_73 : decode cX6_most 73 = .ok (.iload 4, 2) := by decide +kernel
theorem dX6_most_75 : decode cX6_most 75 = .ok (.ifCond .ge 7, 3) := by decide +kernel
theorem dX6_most_78 : decode cX6_most 78 = .ok (.iload_n 3, 1) := by decide +kernel
theorem dX6_most_79 : decode cX6_most 79 = .ok (.goto 4, 3) := by decide +kernel
theorem dX6_most_82 : decode cX6_most 82 = .ok (.iload_n 2, 1) := by decide +kernel
theorem dX6_most_83 : decode cX6_most 83 = .ok (.istore_n 2, 1) := by decide +kernel
theorem dX6_most_84 : decode cX6_most 84 = .ok (.iinc 3 1, 3) := by decide +kernel
theorem dX6_most_87 : decode cX6_most 87 = .ok (.goto (-55), 3) := by decide +kernel
theorem dX6_most_90 : decode cX6_most 90 = .ok (.iload_n 2, 1) := by decide +kernel
theorem dX6_most_91 : decode cX6_most 91 = .ok (.ireturn, 1) := by decide +kernel
set_option maxRecDepth 100000 in
set_option maxHeartbeats 4000000 in
theorem lc_X6_most_32 (Z : ZZ) (l : Launch) (a0 : Nat) (a1 : Int32) {args : Array Value} {h0 h1 : HP} {v0 : Int32} (K : Int32 → HP → Option (Int32 × HP)) (F : Int32 → Int32 → HP → Option (Int32 × HP))
    (hK : ∀ (b2 : Int32) (h : HP), Sim Z l cX6_most RX6 5 2 45 (some .int) "most" args (Mq Z args h0 h1 (some (.int v0))) h0 h1 v0 90 [(2, .int b2)] [] h (K b2 h))
    (hF : ∀ (b2 : Int32) (b3 : Int32) (h : HP), Sim Z l cX6_most RX6 5 2 45 (some .int) "most" args (Mq Z args h0 h1 (some (.int v0))) h0 h1 v0 32 [(0, .ref (zb Z + a0)), (1, .int a1), (2, .int b2), (3, .int b3)] [] h (F b2 b3 h)) :
    ∀ (b2 : Int32) (b3 : Int32) (h : HP), Sim Z l cX6_most RX6 5 2 45 (some .int) "most" args (Mq Z args h0 h1 (some (.int v0))) h0 h1 v0 32 [(0, .ref (zb Z + a0)), (1, .int a1), (2, .int b2), (3, .int b3)] [] h (lb_X6_most_32 a0 a1 K F b2 b3 h) := by
  intro b2 b3 h
  unfold lb_X6_most_32
  refine S_iload_n dX6_most_32 rfl 3 rfl (pc' := 33) rfl ?_
  refine S_aload_n dX6_most_33 rfl 0 rfl (pc' := 34) rfl ?_
  refine S_getI fl_X6_99 rfl dX6_most_34 (pc' := 37) rfl (fun x34 => ?_)
  refine S_icmp_ge dX6_most_37 90 rfl (pc' := 40) rfl (fun g37 => ?_) (fun g37 => ?_)
  · refine Sim.sub [2] rfl ?_
    exact hK _ _
  · refine S_aload_n dX6_most_40 rfl 0 rfl (pc' := 41) rfl ?_
    refine S_iload_n dX6_most_41 rfl 3 rfl (pc' := 42) rfl ?_
    refine S_invi ml_X6_285 mi_X6_holdersOf (ci := 6) ⟨_, rfl, rfl⟩ (by decide) dX6_most_42 [.int b3] rfl (fun v h2 q => c_X6_holdersOf Z l _ _ _ q) ⟨Nat.le_of_ble_eq_true rfl, Nat.le_of_ble_eq_true rfl⟩ (rest := []) (Nat.le_of_ble_eq_true rfl) rfl (pc' := 45) rfl (fun x42 h42 => ?_)
    refine S_stai ml_X6_301 ms_X6_bits dX6_most_45 [.int x42] rfl (fun v h2 q => c_X6_bits Z l _ _ q) ⟨Nat.le_of_ble_eq_true rfl, Nat.le_of_ble_eq_true rfl⟩ (rest := []) (Nat.le_of_ble_eq_true rfl) rfl (pc' := 48) rfl (fun x45 h45 => ?_)
    refine S_aload_n dX6_most_48 rfl 0 rfl (pc' := 49) rfl ?_
    refine S_iload_n dX6_most_49 rfl 2 rfl (pc' := 50) rfl ?_
    refine S_invi ml_X6_285 mi_X6_holdersOf (ci := 6) ⟨_, rfl, rfl⟩ (by decide) dX6_most_50 [.int b2] rfl (fun v h2 q => c_X6_holdersOf Z l _ _ _ q) ⟨Nat.le_of_ble_eq_true rfl, Nat.le_of_ble_eq_true rfl⟩ (rest := [.int x45]) (Nat.le_of_ble_eq_true rfl) rfl (pc' := 53) rfl (fun x50 h50 => ?_)
    refine S_stai ml_X6_301 ms_X6_bits dX6_most_53 [.int x50] rfl (fun v h2 q => c_X6_bits Z l _ _ q) ⟨Nat.le_of_ble_eq_true rfl, Nat.le_of_ble_eq_true rfl⟩ (rest := [.int x45]) (Nat.le_of_ble_eq_true rfl) rfl (pc' := 56) rfl (fun x53 h53 => ?_)
    refine S_isub dX6_most_56 (pc' := 57) rfl ?_
    refine S_istore dX6_most_57 (by decide) (lo' := [(4, .int (x45 - x53)), (0, .ref (zb Z + a0)), (1, .int a1), (2, .int b2), (3, .int b3)]) rfl (pc' := 59) rfl ?_
    refine S_iload_n dX6_most_59 rfl 2 rfl (pc' := 60) rfl ?_
    refine S_if_ne dX6_most_60 68 rfl (pc' := 63) rfl (fun g60 => ?_) (fun g60 => ?_)
    · refine S_iload_n dX6_most_68 rfl 2 rfl (pc' := 69) rfl ?_
      refine S_iconst dX6_most_69 (v := 1) rfl (pc' := 70) rfl ?_
      refine S_icmp_ne dX6_most_70 82 rfl (pc' := 73) rfl (fun g70 => ?_) (fun g70 => ?_)
      · refine S_iload_n dX6_most_82 rfl 3 rfl (pc' := 83) rfl ?_
        refine S_istore_n dX6_most_83 rfl (by decide) (lo' := [(2, .int b2), (4, .int (x45 - x53)), (0, .ref (zb Z + a0)), (1, .int a1), (3, .int b3)]) rfl (pc' := 84) rfl ?_
        refine S_iinc dX6_most_84 (q := 4) rfl (v := b3 + 1) rfl (by decide) (lo' := [(3, .int (b3 + 1)), (2, .int b2), (4, .int (x45 - x53)), (0, .ref (zb Z + a0)), (1, .int a1)]) rfl (pc' := 87) rfl ?_
        refine S_goto dX6_most_87 32 rfl ?_
        refine Sim.sub [3, 4, 1, 0] rfl ?_
        exact hF _ _ _
      · refine S_iload dX6_most_73 0 rfl (pc' := 75) rfl ?_
        refine S_if_ge dX6_most_75 82 rfl (pc' := 78) rfl (fun g75 => ?_) (fun g75 => ?_)
        · refine S_iload_n dX6_most_82 rfl 3 rfl (pc' := 83) rfl ?_
          refine S_istore_n dX6_most_83 rfl (by decide) (lo' := [(2, .int b2), (4, .int (x45 - x53)), (0, .ref (zb Z + a0)), (1, .int a1), (3, .int b3)]) rfl (pc' := 84) rfl ?_
          refine S_iinc dX6_most_84 (q := 4) rfl (v := b3 + 1) rfl (by decide) (lo' := [(3, .int (b3 + 1)), (2, .int b2), (4, .int (x45 - x53)), (0, .ref (zb Z + a0)), (1, .int a1)]) rfl (pc' := 87) rfl ?_
          refine S_goto dX6_most_87 32 rfl ?_
          refine Sim.sub [3, 4, 1, 0] rfl ?_
          exact hF _ _ _
        · refine S_iload_n dX6_most_78 rfl 4 rfl (pc' := 79) rfl ?_
          refine S_goto dX6_most_79 83 rfl ?_
          refine S_istore_n dX6_most_83 rfl (by decide) (lo' := [(2, .int b3), (4, .int (x45 - x53)), (0, .ref (zb Z + a0)), (1, .int a1), (3, .int b3)]) rfl (pc' := 84) rfl ?_
          refine S_iinc dX6_most_84 (q := 4) rfl (v := b3 + 1) rfl (by decide) (lo' := [(3, .int (b3 + 1)), (2, .int b3), (4, .int (x45 - x53)), (0, .ref (zb Z + a0)), (1, .int a1)]) rfl (pc' := 87) rfl ?_
          refine S_goto dX6_most_87 32 rfl ?_
          refine Sim.sub [3, 4, 1, 0] rfl ?_
          exact hF _ _ _
    · refine S_iload dX6_most_63 0 rfl (pc' := 65) rfl ?_
      refine S_if_gt dX6_most_65 78 rfl (pc' := 68) rfl (fun g65 => ?_) (fun g65 => ?_)
      · refine S_iload_n dX6_most_78 rfl 4 rfl (pc' := 79) rfl ?_
        refine S_goto dX6_most_79 83 rfl ?_
        refine S_istore_n dX6_most_83 rfl (by decide) (lo' := [(2, .int b3), (4, .int (x45 - x53)), (0, .ref (zb Z + a0)), (1, .int a1), (3, .int b3)]) rfl (pc' := 84) rfl ?_
        refine S_iinc dX6_most_84 (q := 4) rfl (v := b3 + 1) rfl (by decide) (lo' := [(3, .int (b3 + 1)), (2, .int b3), (4, .int (x45 - x53)), (0, .ref (zb Z + a0)), (1, .int a1)]) rfl (pc' := 87) rfl ?_
        refine S_goto dX6_most_87 32 rfl ?_
        refine Sim.sub [3, 4, 1, 0] rfl ?_
        exact hF _ _ _
      · refine S_iload_n dX6_most_68 rfl 2 rfl (pc' := 69) rfl ?_
        refine S_iconst dX6_most_69 (v := 1) rfl (pc' := 70) rfl ?_
        refine S_icmp_ne_J dX6_most_70 82 rfl (pc' := 73) rfl (fun q9 => absurd (g60.symm.trans q9) (by decide)) ?_
        refine S_iload_n dX6_most_82 rfl 3 rfl (pc' := 83) rfl ?_
        refine S_istore_n dX6_most_83 rfl (by decide) (lo' := [(2, .int b2), (4, .int (x45 - x53)), (0, .ref (zb Z + a0)), (1, .int a1), (3, .int b3)]) rfl (pc' := 84) rfl ?_
        refine S_iinc dX6_most_84 (q := 4) rfl (v := b3 + 1) rfl (by decide) (lo' := [(3, .int (b3 + 1)), (2, .int b2), (4, .int (x45 - x53)), (0, .ref (zb Z + a0)), (1, .int a1)]) rfl (pc' := 87) rfl ?_
        refine S_goto dX6_most_87 32 rfl ?_
        refine Sim.sub [3, 4, 1, 0] rfl ?_
        exact hF _ _ _
theorem lq_X6_most_32 (Z : ZZ) (l : Launch) (a0 : Nat) (a1 : Int32) {args : Array Value} {h0 h1 : HP} {v0 : Int32} (K : Int32 → HP → Option (Int32 × HP))
    (hK : ∀ (b2 : Int32) (h : HP), Sim Z l cX6_most RX6 5 2 45 (some .int) "most" args (Mq Z args h0 h1 (some (.int v0))) h0 h1 v0 90 [(2, .int b2)] [] h (K b2 h)) :
    ∀ (k : Nat) (b2 : Int32) (b3 : Int32) (h : HP), Sim Z l cX6_most RX6 5 2 45 (some .int) "most" args (Mq Z args h0 h1 (some (.int v0))) h0 h1 v0 32 [(0, .ref (zb Z + a0)), (1, .int a1), (2, .int b2), (3, .int b3)] [] h (lp_X6_most_32 a0 a1 K k b2 b3 h) := by
  intro k
  induction k with
  | zero => exact fun _ _ _ => Sim.none
  | succ k ih => exact lc_X6_most_32 Z l a0 a1 K _ hK ih
set_option maxRecDepth 100000 in
set_option maxHeartbeats 4000000 in
theorem c_X6_most (Z : ZZ) (l : Launch) (t : Nat) (a1 : Int32) (h : HP) {v : Int32} {h1 : HP} (ho : f_X6_most t a1 h = some (v, h1)) : MetP Z l yX6_most cX6_most 5 (some .int) 2 45 [.ref (zb Z + t), .int a1] h (some (.int v)) h1 := by
  refine MetP_of ho (by decide +kernel) (Nat.le_of_ble_eq_true rfl) [(0, .ref (zb Z + t)), (1, .int a1)] rfl (own := RX6) rfl (nm := "most") rfl ?_
  unfold f_X6_most
  refine S_iload_n dX6_most_0 rfl 1 rfl (pc' := 1) rfl ?_
  refine S_i2l dX6_most_1 (pc' := 2) rfl ?_
  refine S_lconst dX6_most_2 (v := 0) rfl (pc' := 3) rfl ?_
  refine S_lconst dX6_most_3 (v := 1) rfl (pc' := 4) rfl ?_
  refine S_stai ml_X6_95 ms_X6_in dX6_most_4 [.long a1.toInt64, .long 0, .long 1] rfl (fun v h2 q => c_X6_in Z l _ _ _ _ q) ⟨Nat.le_of_ble_eq_true rfl, Nat.le_of_ble_eq_true rfl⟩ (rest := []) (Nat.le_of_ble_eq_true rfl) rfl (pc' := 7) rfl (fun x4 h4 => ?_)
  refine S_if_ne dX6_most_7 17 rfl (pc' := 10) rfl (fun g7 => ?_) (fun g7 => ?_)
  · refine S_aload_n dX6_most_17 rfl 0 rfl (pc' := 18) rfl ?_
    refine S_getI fl_X6_99 rfl dX6_most_18 (pc' := 21) rfl (fun x18 => ?_)
    refine S_if_ne dX6_most_21 28 rfl (pc' := 24) rfl (fun g21 => ?_) (fun g21 => ?_)
    · refine S_iconst dX6_most_28 (v := 0) rfl (pc' := 29) rfl ?_
      refine S_istore_n dX6_most_29 rfl (by decide) (lo' := [(2, .int 0), (0, .ref (zb Z + t)), (1, .int a1)]) rfl (pc' := 30) rfl ?_
      refine S_iconst dX6_most_30 (v := 1) rfl (pc' := 31) rfl ?_
      refine S_istore_n dX6_most_31 rfl (by decide) (lo' := [(3, .int 1), (2, .int 0), (0, .ref (zb Z + t)), (1, .int a1)]) rfl (pc' := 32) rfl ?_
      refine Sim.sub [2, 3, 1, 0] rfl ?_
      refine lq_X6_most_32 Z l t a1 _ ?_ 1000 _ _ _
      intro b2_32 h32_
      refine S_iload_n dX6_most_90 rfl 0 rfl (pc' := 91) rfl ?_
      exact S_iret rfl dX6_most_91
    · refine S_iconst dX6_most_24 (v := (-1)) rfl (pc' := 25) rfl ?_
      refine S_goto dX6_most_25 29 rfl ?_
      refine S_istore_n dX6_most_29 rfl (by decide) (lo' := [(2, .int (-1)), (0, .ref (zb Z + t)), (1, .int a1)]) rfl (pc' := 30) rfl ?_
      refine S_iconst dX6_most_30 (v := 1) rfl (pc' := 31) rfl ?_
      refine S_istore_n dX6_most_31 rfl (by decide) (lo' := [(3, .int 1), (2, .int (-1)), (0, .ref (zb Z + t)), (1, .int a1)]) rfl (pc' := 32) rfl ?_
      refine Sim.sub [2, 3, 1, 0] rfl ?_
      refine lq_X6_most_32 Z l t a1 _ ?_ 1000 _ _ _
      intro b2_32 h32_
      refine S_iload_n dX6_most_90 rfl 0 rfl (pc' := 91) rfl ?_
      exact S_iret rfl dX6_most_91
  · refine S_aload_n dX6_most_10 rfl 0 rfl (pc' := 11) rfl ?_
    refine S_bipush dX6_most_11 (v := (-2)) rfl (pc' := 13) rfl ?_
    refine S_invi ml_X6_108 mi_X6_refuse (ci := 6) ⟨_, rfl, rfl⟩ (by decide) dX6_most_13 [.int (-2)] rfl (fun v h2 q => c_X6_refuse Z l _ _ _ q) ⟨Nat.le_of_ble_eq_true rfl, Nat.le_of_ble_eq_true rfl⟩ (rest := []) (Nat.le_of_ble_eq_true rfl) rfl (pc' := 16) rfl (fun x13 h13 => ?_)
    exact S_iret rfl dX6_most_16
theorem dX6_table_0 : decode cX6_table 0 = .ok (.aload_n 0, 1) := by decide +kernel
theorem dX6_table_1 : decode cX6_table 1 = .ok (.iload_n 1, 1) := by decide +kernel
theorem dX6_table_2 : decode cX6_table 2 = .ok (.invokevirtual 119, 3) := by decide +kernel
theorem dX6_table_5 : decode cX6_table 5 = .ok (.ifCond .ne 10, 3) := by decide +kernel
theorem dX6_table_8 : decode cX6_table 8 = .ok (.aload_n 0, 1) := by decide +kernel
theorem dX6_table_9 : decode cX6_table 9 = .ok (.bipush (-2), 2) := by decide +kernel
theorem dX6_table_11 : decode cX6_table 11 = .ok (.invokevirtual 108, 3) := by decide +kernel
theorem dX6_table_14 : decode cX6_table 14 = .ok (.ireturn, 1) := by decide +kernel
theorem dX6_table_15 : decode cX6_table 15 = .ok (.iconst 1, 1) := by decide +kernel
theorem dX6_table_16 : decode cX6_table 16 = .ok (.iload_n 1, 1) := by decide +kernel
theorem dX6_table_17 : decode cX6_table 17 = .ok (.ishl, 1) := by decide +kernel
theorem dX6_table_18 : decode cX6_table 18 = .ok (.istore_n 2, 1) := by decide +kernel
theorem dX6_table_19 : decode cX6_table 19 = .ok (.iconst 0, 1) := by decide +kernel
theorem dX6_table_20 : decode cX6_table 20 = .ok (.istore_n 3, 1) := by decide +kernel
theorem dX6_table_21 : decode cX6_table 21 = .ok (.iload_n 3, 1) := by decide +kernel
theorem dX6_table_22 : decode cX6_table 22 = .ok (.aload_n 0, 1) := by decide +kernel
theorem dX6_table_23 : decode cX6_table 23 = .ok (.getfield 92, 3) := by decide +kernel
theorem dX6_table_26 : decode cX6_table 26 = .ok (.if_icmp .ge 51, 3) := by decide +kernel
theorem dX6_table_29 : decode cX6_table 29 = .ok (.iconst 0, 1) := by decide +kernel
theorem dX6_table_30 : decode cX6_table 30 = .ok (.istore 4, 2) := by decide +kernel
theorem dX6_table_32 : decode cX6_table 32 = .ok (.iload 4, 2) := by decide +kernel
theorem dX6_table_34 : decode cX6_table 34 = .ok (.aload_n 0, 1) := by decide +kernel
theorem dX6_table_35 : decode cX6_table 35 = .ok (.getfield 92, 3) := by decide +kernel
theorem dX6_table_38 : decode cX6_table 38 = .ok (.if_icmp .ge 33, 3) := by decide +kernel
theorem dX6_table_41 : decode cX6_table 41 = .ok (.iload_n 2, 1) := by decide +kernel
theorem dX6_table_42 : decode cX6_table 42 = .ok (.iload_n 2, 1) := by decide +kernel
theorem dX6_table_43 : decode cX6_table 43 = .ok (.iload 4, 2) := by decide +kernel
theorem dX6_table_45 : decode cX6_table 45 = .ok (.ishr, 1) := by decide +kernel
theorem dX6_table_46 : decode cX6_table 46 = .ok (.iconst 1, 1) := by decide +kernel
theorem dX6_table_47 : decode cX6_table 47 = .ok (.iand, 1) := by decide +kernel
theorem dX6_table_48 : decode cX6_table 48 = .ok (.iconst 1, 1) := by decide +kernel
theorem dX6_table_49 : decode cX6_table 49 = .ok (.if_icmp .ne 13, 3) := by decide +kernel
theorem dX6_table_52 : decode cX6_table 52 = .ok (.aload_n 0, 1) := by decide +kernel
theorem dX6_table_53 : decode cX6_table 53 = .ok (.getfield 53, 3) := by decide +kernel
theorem dX6_table_56 : decode cX6_table 56 = .ok (.iload 4, 2) := by decide +kernel
theorem dX6_table_58 : decode cX6_table 58 = .ok (.iaload, 1) := by decide +kernel
theorem dX6_table_59 : decode cX6_table 59 = .ok (.goto 4, 3) := by decide +kernel
theorem dX6_table_62 : decode cX6_table 62 = .ok (.iconst 0, 1) := by decide +kernel
theorem dX6_table_63 : decode cX6_table 63 = .ok (.ior, 1) := by decide +kernel
theorem dX6_table_64 : decode cX6_table 64 = .ok (.istore_n 2, 1) := by decide +kernel
theorem dX6_table_65 : decode cX6_table 65 = .ok (.iinc 4 1, 3) := by decide +kernel
theorem dX6_table_68 : decode cX6_table 68 = .ok (.goto (-36), 3) := by decide +kernel
theorem dX6_table_71 : decode cX6_table 71 = .ok (.iinc 3 1, 3) := by decide +kernel
theorem dX6_table_74 : decode cX6_table 74 = .ok (.goto (-53), 3) := by decide +kernel
theorem dX6_table_77 : decode cX6_table 77 = .ok (.iload_n 2, 1) := by decide +kernel
theorem dX6_table_78 : decode cX6_table 78 = .ok (.ireturn, 1) := by decide +kernel
set_option maxRecDepth 100000 in
set_option maxHeartbeats 4000000 in
theorem lc_X6_table_32 (Z : ZZ) (l : Launch) (a0 : Nat) (a3 : Int32) {args : Array Value} {h0 h1 : HP} {v0 : Int32} (K : Int32 → HP → Option (Int32 × HP)) (F : Int32 → Int32 → HP → Option (Int32 × HP))
    (hK : ∀ (b2 : Int32) (h : HP), Sim Z l cX6_table RX6 5 2 46 (some .int) "table" args (Mq Z args h0 h1 (some (.int v0))) h0 h1 v0 71 [(0, .ref (zb Z + a0)), (2, .int b2), (3, .int a3)] [] h (K b2 h))
    (hF : ∀ (b2 : Int32) (b4 : Int32) (h : HP), Sim Z l cX6_table RX6 5 2 46 (some .int) "table" args (Mq Z args h0 h1 (some (.int v0))) h0 h1 v0 32 [(0, .ref (zb Z + a0)), (2, .int b2), (3, .int a3), (4, .int b4)] [] h (F b2 b4 h)) :
    ∀ (b2 : Int32) (b4 : Int32) (h : HP), Sim Z l cX6_table RX6 5 2 46 (some .int) "table" args (Mq Z args h0 h1 (some (.int v0))) h0 h1 v0 32 [(0, .ref (zb Z + a0)), (2, .int b2), (3, .int a3), (4, .int b4)] [] h (lb_X6_table_32 a0 a3 K F b2 b4 h) := by
  intro b2 b4 h
  unfold lb_X6_table_32
  refine S_iload dX6_table_32 3 rfl (pc' := 34) rfl ?_
  refine S_aload_n dX6_table_34 rfl 0 rfl (pc' := 35) rfl ?_
  refine S_getI fl_X6_92 rfl dX6_table_35 (pc' := 38) rfl (fun x35 => ?_)
  refine S_icmp_ge dX6_table_38 71 rfl (pc' := 41) rfl (fun g38 => ?_) (fun g38 => ?_)
  · refine Sim.sub [0, 1, 2] rfl ?_
    exact hK _ _
  · refine S_iload_n dX6_table_41 rfl 1 rfl (pc' := 42) rfl ?_
    refine S_iload_n dX6_table_42 rfl 1 rfl (pc' := 43) rfl ?_
    refine S_iload dX6_table_43 3 rfl (pc' := 45) rfl ?_
    refine S_ishr dX6_table_45 (pc' := 46) rfl ?_
    refine S_iconst dX6_table_46 (v := 1) rfl (pc' := 47) rfl ?_
    refine S_iand dX6_table_47 (pc' := 48) rfl ?_
    refine S_iconst dX6_table_48 (v := 1) rfl (pc' := 49) rfl ?_
    refine S_icmp_ne dX6_table_49 62 rfl (pc' := 52) rfl (fun g49 => ?_) (fun g49 => ?_)
    · refine S_iconst dX6_table_62 (v := 0) rfl (pc' := 63) rfl ?_
      refine S_ior dX6_table_63 (pc' := 64) rfl ?_
      refine S_istore_n dX6_table_64 rfl (by decide) (lo' := [(2, .int (b2 ||| 0)), (0, .ref (zb Z + a0)), (3, .int a3), (4, .int b4)]) rfl (pc' := 65) rfl ?_
      refine S_iinc dX6_table_65 (q := 3) rfl (v := b4 + 1) rfl (by decide) (lo' := [(4, .int (b4 + 1)), (2, .int (b2 ||| 0)), (0, .ref (zb Z + a0)), (3, .int a3)]) rfl (pc' := 68) rfl ?_
      refine S_goto dX6_table_68 32 rfl ?_
      refine Sim.sub [2, 1, 3, 0] rfl ?_
      exact hF _ _ _
    · refine S_aload_n dX6_table_52 rfl 0 rfl (pc' := 53) rfl ?_
      refine S_getR fl_X6_53 rfl dX6_table_53 (pc' := 56) rfl (fun x53 => ?_)
      refine S_iload dX6_table_56 3 rfl (pc' := 58) rfl ?_
      refine S_iaload dX6_table_58 (pc' := 59) rfl (fun x58 => ?_)
      refine S_goto dX6_table_59 63 rfl ?_
      refine S_ior dX6_table_63 (pc' := 64) rfl ?_
      refine S_istore_n dX6_table_64 rfl (by decide) (lo' := [(2, .int (b2 ||| x58)), (0, .ref (zb Z + a0)), (3, .int a3), (4, .int b4)]) rfl (pc' := 65) rfl ?_
      refine S_iinc dX6_table_65 (q := 3) rfl (v := b4 + 1) rfl (by decide) (lo' := [(4, .int (b4 + 1)), (2, .int (b2 ||| x58)), (0, .ref (zb Z + a0)), (3, .int a3)]) rfl (pc' := 68) rfl ?_
      refine S_goto dX6_table_68 32 rfl ?_
      refine Sim.sub [2, 1, 3, 0] rfl ?_
      exact hF _ _ _
theorem lq_X6_table_32 (Z : ZZ) (l : Launch) (a0 : Nat) (a3 : Int32) {args : Array Value} {h0 h1 : HP} {v0 : Int32} (K : Int32 → HP → Option (Int32 × HP))
    (hK : ∀ (b2 : Int32) (h : HP), Sim Z l cX6_table RX6 5 2 46 (some .int) "table" args (Mq Z args h0 h1 (some (.int v0))) h0 h1 v0 71 [(0, .ref (zb Z + a0)), (2, .int b2), (3, .int a3)] [] h (K b2 h)) :
    ∀ (k : Nat) (b2 : Int32) (b4 : Int32) (h : HP), Sim Z l cX6_table RX6 5 2 46 (some .int) "table" args (Mq Z args h0 h1 (some (.int v0))) h0 h1 v0 32 [(0, .ref (zb Z + a0)), (2, .int b2), (3, .int a3), (4, .int b4)] [] h (lp_X6_table_32 a0 a3 K k b2 b4 h) := by
  intro k
  induction k with
  | zero => exact fun _ _ _ => Sim.none
  | succ k ih => exact lc_X6_table_32 Z l a0 a3 K _ hK ih
set_option maxRecDepth 100000 in
set_option maxHeartbeats 4000000 in
theorem lc_X6_table_21 (Z : ZZ) (l : Launch) (a0 : Nat) {args : Array Value} {h0 h1 : HP} {v0 : Int32} (K : Int32 → HP → Option (Int32 × HP)) (F : Int32 → Int32 → HP → Option (Int32 × HP))
    (hK : ∀ (b2 : Int32) (h : HP), Sim Z l cX6_table RX6 5 2 46 (some .int) "table" args (Mq Z args h0 h1 (some (.int v0))) h0 h1 v0 77 [(2, .int b2)] [] h (K b2 h))
    (hF : ∀ (b2 : Int32) (b3 : Int32) (h : HP), Sim Z l cX6_table RX6 5 2 46 (some .int) "table" args (Mq Z args h0 h1 (some (.int v0))) h0 h1 v0 21 [(0, .ref (zb Z + a0)), (2, .int b2), (3, .int b3)] [] h (F b2 b3 h)) :
    ∀ (b2 : Int32) (b3 : Int32) (h : HP), Sim Z l cX6_table RX6 5 2 46 (some .int) "table" args (Mq Z args h0 h1 (some (.int v0))) h0 h1 v0 21 [(0, .ref (zb Z + a0)), (2, .int b2), (3, .int b3)] [] h (lb_X6_table_21 a0 K F b2 b3 h) := by
  intro b2 b3 h
  unfold lb_X6_table_21
  refine S_iload_n dX6_table_21 rfl 2 rfl (pc' := 22) rfl ?_
  refine S_aload_n dX6_table_22 rfl 0 rfl (pc' := 23) rfl ?_
  refine S_getI fl_X6_92 rfl dX6_table_23 (pc' := 26) rfl (fun x23 => ?_)
  refine S_icmp_ge dX6_table_26 77 rfl (pc' := 29) rfl (fun g26 => ?_) (fun g26 => ?_)
  · refine Sim.sub [1] rfl ?_
    exact hK _ _
  · refine S_iconst dX6_table_29 (v := 0) rfl (pc' := 30) rfl ?_
    refine S_istore dX6_table_30 (by decide) (lo' := [(4, .int 0), (0, .ref (zb Z + a0)), (2, .int b2), (3, .int b3)]) rfl (pc' := 32) rfl ?_
    refine Sim.sub [1, 2, 3, 0] rfl ?_
    refine lq_X6_table_32 Z l a0 b3 _ ?_ 1000 _ _ _
    intro b2_32 h32_
    refine S_iinc dX6_table_71 (q := 2) rfl (v := b3 + 1) rfl (by decide) (lo' := [(3, .int (b3 + 1)), (0, .ref (zb Z + a0)), (2, .int b2_32)]) rfl (pc' := 74) rfl ?_
    refine S_goto dX6_table_74 21 rfl ?_
    refine Sim.sub [1, 2, 0] rfl ?_
    exact hF _ _ _
theorem lq_X6_table_21 (Z : ZZ) (l : Launch) (a0 : Nat) {args : Array Value} {h0 h1 : HP} {v0 : Int32} (K : Int32 → HP → Option (Int32 × HP))
    (hK : ∀ (b2 : Int32) (h : HP), Sim Z l cX6_table RX6 5 2 46 (some .int) "table" args (Mq Z args h0 h1 (some (.int v0))) h0 h1 v0 77 [(2, .int b2)] [] h (K b2 h)) :
    ∀ (k : Nat) (b2 : Int32) (b3 : Int32) (h : HP), Sim Z l cX6_table RX6 5 2 46 (some .int) "table" args (Mq Z args h0 h1 (some (.int v0))) h0 h1 v0 21 [(0, .ref (zb Z + a0)), (2, .int b2), (3, .int b3)] [] h (lp_X6_table_21 a0 K k b2 b3 h) := by
  intro k
  induction k with
  | zero => exact fun _ _ _ => Sim.none
  | succ k ih => exact lc_X6_table_21 Z l a0 K _ hK ih
set_option maxRecDepth 100000 in
set_option maxHeartbeats 4000000 in
theorem c_X6_table (Z : ZZ) (l : Launch) (t : Nat) (a1 : Int32) (h : HP) {v : Int32} {h1 : HP} (ho : f_X6_table t a1 h = some (v, h1)) : MetP Z l yX6_table cX6_table 5 (some .int) 2 46 [.ref (zb Z + t), .int a1] h (some (.int v)) h1 := by
  refine MetP_of ho (by decide +kernel) (Nat.le_of_ble_eq_true rfl) [(0, .ref (zb Z + t)), (1, .int a1)] rfl (own := RX6) rfl (nm := "table") rfl ?_
  unfold f_X6_table
  refine S_aload_n dX6_table_0 rfl 0 rfl (pc' := 1) rfl ?_
  refine S_iload_n dX6_table_1 rfl 1 rfl (pc' := 2) rfl ?_
  refine S_invi ml_X6_119 mi_X6_isPerson (ci := 6) ⟨_, rfl, rfl⟩ (by decide) dX6_table_2 [.int a1] rfl (fun v h2 q => c_X6_isPerson Z l _ _ _ q) ⟨Nat.le_of_ble_eq_true rfl, Nat.le_of_ble_eq_true rfl⟩ (rest := []) (Nat.le_of_ble_eq_true rfl) rfl (pc' := 5) rfl (fun x2 h2 => ?_)
  refine S_if_ne dX6_table_5 15 rfl (pc' := 8) rfl (fun g5 => ?_) (fun g5 => ?_)
  · refine S_iconst dX6_table_15 (v := 1) rfl (pc' := 16) rfl ?_
    refine S_iload_n dX6_table_16 rfl 1 rfl (pc' := 17) rfl ?_
    refine S_ishl dX6_table_17 (pc' := 18) rfl ?_
    refine S_istore_n dX6_table_18 rfl (by decide) (lo' := [(2, .int (1 <<< (a1 &&& 31))), (0, .ref (zb Z + t)), (1, .int a1)]) rfl (pc' := 19) rfl ?_
    refine S_iconst dX6_table_19 (v := 0) rfl (pc' := 20) rfl ?_
    refine S_istore_n dX6_table_20 rfl (by decide) (lo' := [(3, .int 0), (2, .int (1 <<< (a1 &&& 31))), (0, .ref (zb Z + t)), (1, .int a1)]) rfl (pc' := 21) rfl ?_
    refine Sim.sub [2, 1, 0] rfl ?_
    refine lq_X6_table_21 Z l t _ ?_ 1000 _ _ _
    intro b2_21 h21_
    refine S_iload_n dX6_table_77 rfl 0 rfl (pc' := 78) rfl ?_
    exact S_iret rfl dX6_table_78
  · refine S_aload_n dX6_table_8 rfl 0 rfl (pc' := 9) rfl ?_
    refine S_bipush dX6_table_9 (v := (-2)) rfl (pc' := 11) rfl ?_
    refine S_invi ml_X6_108 mi_X6_refuse (ci := 6) ⟨_, rfl, rfl⟩ (by decide) dX6_table_11 [.int (-2)] rfl (fun v h2 q => c_X6_refuse Z l _ _ _ q) ⟨Nat.le_of_ble_eq_true rfl, Nat.le_of_ble_eq_true rfl⟩ (rest := []) (Nat.le_of_ble_eq_true rfl) rfl (pc' := 14) rfl (fun x11 h11 => ?_)
    exact S_iret rfl dX6_table_14
theorem dX6_weakest_0 : decode cX6_weakest 0 = .ok (.aload_n 0, 1) := by decide +kernel
theorem dX6_weakest_1 : decode cX6_weakest 1 = .ok (.iload_n 1, 1) := by decide +kernel
theorem dX6_weakest_2 : decode cX6_weakest 2 = .ok (.invokevirtual 148, 3) := by decide +kernel
theorem dX6_weakest_5 : decode cX6_weakest 5 = .ok (.ifCond .ne 10, 3) := by decide +kernel
theorem dX6_weakest_8 : decode cX6_weakest 8 = .ok (.aload_n 0, 1) := by decide +kernel
theorem dX6_weakest_9 : decode cX6_weakest 9 = .ok (.bipush (-2), 2) := by decide +kernel
theorem dX6_weakest_11 : decode cX6_weakest 11 = .ok (.invokevirtual 108, 3) := by decide +kernel
theorem dX6_weakest_14 : decode cX6_weakest 14 = .ok (.ireturn, 1) := by decide +kernel
theorem dX6_weakest_15 : decode cX6_weakest 15 = .ok (.iconst (-1), 1) := by decide +kernel
theorem dX6_weakest_16 : decode cX6_weakest 16 = .ok (.istore_n 2, 1) := by decide +kernel
theorem dX6_weakest_17 : decode cX6_weakest 17 = .ok (.iconst 0, 1) := by decide +kernel
theorem dX6_weakest_18 : decode cX6_weakest 18 = .ok (.istore_n 3, 1) := by decide +kernel
theorem dX6_weakest_19 : decode cX6_weakest 19 = .ok (.iconst 0, 1) := by decide +kernel
theorem dX6_weakest_20 : decode cX6_weakest 20 = .ok (.istore 4, 2) := by decide +kernel
theorem dX6_weakest_22 : decode cX6_weakest 22 = .ok (.iload 4, 2) := by decide +kernel
theorem dX6_weakest_24 : decode cX6_weakest 24 = .ok (.aload_n 0, 1) := by decide +kernel
theorem dX6_weakest_25 : decode cX6_weakest 25 = .ok (.getfield 92, 3) := by decide +kernel
theorem dX6_weakest_28 : decode cX6_weakest 28 = .ok (.if_icmp .ge 83, 3) := by decide +kernel
theorem dX6_weakest_31 : decode cX6_weakest 31 = .ok (.aload_n 0, 1) := by decide +kernel
theorem dX6_weakest_32 : decode cX6_weakest 32 = .ok (.iload 4, 2) := by decide +kernel
theorem dX6_weakest_34 : decode cX6_weakest 34 = .ok (.iload_n 1, 1) := by decide +kernel
theorem dX6_weakest_35 : decode cX6_weakest 35 = .ok (.invokevirtual 273, 3) := by decide +kernel
theorem dX6_weakest_38 : decode cX6_weakest 38 = .ok (.aload_n 0, 1) := by decide +kernel
theorem dX6_weakest_39 : decode cX6_weakest 39 = .ok (.getfield 68, 3) := by decide +kernel
theorem dX6_weakest_42 : decode cX6_weakest 42 = .ok (.iload 4, 2) := by decide +kernel
theorem dX6_weakest_44 : decode cX6_weakest 44 = .ok (.bipush 6, 2) := by decide +kernel
theorem dX6_weakest_46 : decode cX6_weakest 46 = .ok (.imul, 1) := by decide +kernel
theorem dX6_weakest_47 : decode cX6_weakest 47 = .ok (.iload_n 1, 1) := by decide +kernel
theorem dX6_weakest_48 : decode cX6_weakest 48 = .ok (.iadd, 1) := by decide +kernel
theorem dX6_weakest_49 : decode cX6_weakest 49 = .ok (.iaload, 1) := by decide +kernel
theorem dX6_weakest_50 : decode cX6_weakest 50 = .ok (.isub, 1) := by decide +kernel
theorem dX6_weakest_51 : decode cX6_weakest 51 = .ok (.istore 5, 2) := by decide +kernel
theorem dX6_weakest_53 : decode cX6_weakest 53 = .ok (.aload_n 0, 1) := by decide +kernel
theorem dX6_weakest_54 : decode cX6_weakest 54 = .ok (.iload 4, 2) := by decide +kernel
theorem dX6_weakest_56 : decode cX6_weakest 56 = .ok (.iload_n 1, 1) := by decide +kernel
theorem dX6_weakest_57 : decode cX6_weakest 57 = .ok (.invokevirtual 267, 3) := by decide +kernel
theorem dX6_weakest_60 : decode cX6_weakest 60 = .ok (.ifCond .eq 18, 3) := by decide +kernel
theorem dX6_weakest_63 : decode cX6_weakest 63 = .ok (.iload_n 2, 1) := by decide +kernel
theorem dX6_weakest_64 : decode cX6_weakest 64 = .ok (.iconst (-1), 1) := by decide +kernel
theorem dX6_weakest_65 : decode cX6_weakest 65 = .ok (.if_icmp .eq 9, 3) := by decide +kernel
theorem dX6_weakest_68 : decode cX6_weakest 68 = .ok (.iload 5, 2) := by decide +kernel
theorem dX6_weakest_70 : decode cX6_weakest 70 = .ok (.iload_n 3, 1) := by decide +kernel
theorem dX6_weakest_71 : decode cX6_weakest 71 = .ok (.if_icmp .ge 7, 3) := by decide +kernel
theorem dX6_weakest_74 : decode cX6_weakest 74 = .ok (.iconst 1, 1) := by decide +kernel
theorem dX6_weakest_75 : decode cX6_weakest 75 = .ok (.goto 4, 3) := by decide +kernel
theorem dX6_weakest_78 : decode cX6_weakest 78 = .ok (.iconst 0, 1) := by decide +kernel
theorem dX6_weakest_79 : decode cX6_weakest 79 = .ok (.istore 6, 2) := by decide +kernel
theorem dX6_weakest_81 : decode cX6_weakest 81 = .ok (.iload 6, 2) := by decide +kernel
theorem dX6_weakest_83 : decode cX6_weakest 83 = .ok (.ifCond .eq 8, 3) := by decide +kernel
theorem dX6_weakest_86 : decode cX6_weakest 86 = .ok (.iload 4, 2) := by decide +kernel
theorem dX6_weakest_88 : decode cX6_weakest 88 = .ok (.goto 4, 3) := by decide +kernel
theorem dX6_weakest_91 : decode cX6_weakest 91 = .ok (.iload_n 2, 1) := by decide +kernel
theorem dX6_weakest_92 : decode cX6_weakest 92 = .ok (.istore_n 2, 1) := by decide +kernel
theorem dX6_weakest_93 : decode cX6_weakest 93 = .ok (.iload 6, 2) := by decide +kernel
theorem dX6_weakest_95 : decode cX6_weakest 95 = .ok (.ifCond .eq 8, 3) := by decide +kernel
theorem dX6_weakest_98 : decode cX6_weakest 98 = .ok (.iload 5, 2) := by decide +kernel
theorem dX6_weakest_100 : decode cX6_weakest 100 = .ok (.goto 4, 3) := by decide +kernel
theorem dX6_weakest_103 : decode cX6_weakest 103 = .ok (.iload_n 3, 1) := by decide +kernel
theorem dX6_weakest_104 : decode cX6_weakest 104 = .ok (.istore_n 3, 1) := by decide +kernel
theorem dX6_weakest_105 : decode cX6_weakest 105 = .ok (.iinc 4 1, 3) := by decide +kernel
theorem dX6_weakest_108 : decode cX6_weakest 108 = .ok (.goto (-86), 3) := by decide +kernel
theorem dX6_weakest_111 : decode cX6_weakest 111 = .ok (.iload_n 2, 1) := by decide +kernel
theorem dX6_weakest_112 : decode cX6_weakest 112 = .ok (.ireturn, 1) := by decide +kernel
set_option maxRecDepth 100000 in
set_option maxHeartbeats 4000000 in
theorem lc_X6_weakest_22 (Z : ZZ) (l : Launch) (a0 : Nat) (a1 : Int32) {args : Array Value} {h0 h1 : HP} {v0 : Int32} (K : Int32 → HP → Option (Int32 × HP)) (F : Int32 → Int32 → Int32 → HP → Option (Int32 × HP))
    (hK : ∀ (b2 : Int32) (h : HP), Sim Z l cX6_weakest RX6 7 3 65 (some .int) "weakest" args (Mq Z args h0 h1 (some (.int v0))) h0 h1 v0 111 [(2, .int b2)] [] h (K b2 h))
    (hF : ∀ (b2 : Int32) (b3 : Int32) (b4 : Int32) (h : HP), Sim Z l cX6_weakest RX6 7 3 65 (some .int) "weakest" args (Mq Z args h0 h1 (some (.int v0))) h0 h1 v0 22 [(0, .ref (zb Z + a0)), (1, .int a1), (2, .int b2), (3, .int b3), (4, .int b4)] [] h (F b2 b3 b4 h)) :
    ∀ (b2 : Int32) (b3 : Int32) (b4 : Int32) (h : HP), Sim Z l cX6_weakest RX6 7 3 65 (some .int) "weakest" args (Mq Z args h0 h1 (some (.int v0))) h0 h1 v0 22 [(0, .ref (zb Z + a0)), (1, .int a1), (2, .int b2), (3, .int b3), (4, .int b4)] [] h (lb_X6_weakest_22 a0 a1 K F b2 b3 b4 h) := by
  intro b2 b3 b4 h
  unfold lb_X6_weakest_22
  refine S_iload dX6_weakest_22 4 rfl (pc' := 24) rfl ?_
  refine S_aload_n dX6_weakest_24 rfl 0 rfl (pc' := 25) rfl ?_
  refine S_getI fl_X6_92 rfl dX6_weakest_25 (pc' := 28) rfl (fun x25 => ?_)
  refine S_icmp_ge dX6_weakest_28 111 rfl (pc' := 31) rfl (fun g28 => ?_) (fun g28 => ?_)
  · refine Sim.sub [2] rfl ?_
    exact hK _ _
  · refine S_aload_n dX6_weakest_31 rfl 0 rfl (pc' := 32) rfl ?_
    refine S_iload dX6_weakest_32 4 rfl (pc' := 34) rfl ?_
    refine S_iload_n dX6_weakest_34 rfl 1 rfl (pc' := 35) rfl ?_
    refine S_invi ml_X6_273 mi_X6_holdOf (ci := 6) ⟨_, rfl, rfl⟩ (by decide) dX6_weakest_35 [.int b4, .int a1] rfl (fun v h2 q => c_X6_holdOf Z l _ _ _ _ q) ⟨Nat.le_of_ble_eq_true rfl, Nat.le_of_ble_eq_true rfl⟩ (rest := []) (Nat.le_of_ble_eq_true rfl) rfl (pc' := 38) rfl (fun x35 h35 => ?_)
    refine S_aload_n dX6_weakest_38 rfl 0 rfl (pc' := 39) rfl ?_
    refine S_getR fl_X6_68 rfl dX6_weakest_39 (pc' := 42) rfl (fun x39 => ?_)
    refine S_iload dX6_weakest_42 4 rfl (pc' := 44) rfl ?_
    refine S_bipush dX6_weakest_44 (v := 6) rfl (pc' := 46) rfl ?_
    refine S_imul dX6_weakest_46 (pc' := 47) rfl ?_
    refine S_iload_n dX6_weakest_47 rfl 1 rfl (pc' := 48) rfl ?_
    refine S_iadd dX6_weakest_48 (pc' := 49) rfl ?_
    refine S_iaload dX6_weakest_49 (pc' := 50) rfl (fun x49 => ?_)
    refine S_isub dX6_weakest_50 (pc' := 51) rfl ?_
    refine S_istore dX6_weakest_51 (by decide) (lo' := [(5, .int (x35 - x49)), (0, .ref (zb Z + a0)), (1, .int a1), (2, .int b2), (3, .int b3), (4, .int b4)]) rfl (pc' := 53) rfl ?_
    refine S_aload_n dX6_weakest_53 rfl 1 rfl (pc' := 54) rfl ?_
    refine S_iload dX6_weakest_54 5 rfl (pc' := 56) rfl ?_
    refine S_iload_n dX6_weakest_56 rfl 2 rfl (pc' := 57) rfl ?_
    refine S_invi ml_X6_267 mi_X6_knowsIt (ci := 6) ⟨_, rfl, rfl⟩ (by decide) dX6_weakest_57 [.int b4, .int a1] rfl (fun v h2 q => c_X6_knowsIt Z l _ _ _ _ q) ⟨Nat.le_of_ble_eq_true rfl, Nat.le_of_ble_eq_true rfl⟩ (rest := []) (Nat.le_of_ble_eq_true rfl) rfl (pc' := 60) rfl (fun x57 h57 => ?_)
    refine S_if_eq dX6_weakest_60 78 rfl (pc' := 63) rfl (fun g60 => ?_) (fun g60 => ?_)
    · refine S_iconst dX6_weakest_78 (v := 0) rfl (pc' := 79) rfl ?_
      refine S_istore dX6_weakest_79 (by decide) (lo' := [(6, .int 0), (5, .int (x35 - x49)), (0, .ref (zb Z + a0)), (1, .int a1), (2, .int b2), (3, .int b3), (4, .int b4)]) rfl (pc' := 81) rfl ?_
      refine S_iload dX6_weakest_81 0 rfl (pc' := 83) rfl ?_
      refine S_if_eq_J dX6_weakest_83 91 rfl (pc' := 86) rfl (by decide) ?_
      refine S_iload_n dX6_weakest_91 rfl 4 rfl (pc' := 92) rfl ?_
      refine S_istore_n dX6_weakest_92 rfl (by decide) (lo' := [(2, .int b2), (6, .int 0), (5, .int (x35 - x49)), (0, .ref (zb Z + a0)), (1, .int a1), (3, .int b3), (4, .int b4)]) rfl (pc' := 93) rfl ?_
      refine S_iload dX6_weakest_93 1 rfl (pc' := 95) rfl ?_
      refine S_if_eq_J dX6_weakest_95 103 rfl (pc' := 98) rfl (by decide) ?_
      refine S_iload_n dX6_weakest_103 rfl 5 rfl (pc' := 104) rfl ?_
      refine S_istore_n dX6_weakest_104 rfl (by decide) (lo' := [(3, .int b3), (2, .int b2), (6, .int 0), (5, .int (x35 - x49)), (0, .ref (zb Z + a0)), (1, .int a1), (4, .int b4)]) rfl (pc' := 105) rfl ?_
      refine S_iinc dX6_weakest_105 (q := 6) rfl (v := b4 + 1) rfl (by decide) (lo' := [(4, .int (b4 + 1)), (3, .int b3), (2, .int b2), (6, .int 0), (5, .int (x35 - x49)), (0, .ref (zb Z + a0)), (1, .int a1)]) rfl (pc' := 108) rfl ?_
      refine S_goto dX6_weakest_108 22 rfl ?_
      refine Sim.sub [5, 6, 2, 1, 0] rfl ?_
      exact hF _ _ _ _
    · refine S_iload_n dX6_weakest_63 rfl 3 rfl (pc' := 64) rfl ?_
      refine S_iconst dX6_weakest_64 (v := (-1)) rfl (pc' := 65) rfl ?_
      refine S_icmp_eq dX6_weakest_65 74 rfl (pc' := 68) rfl (fun g65 => ?_) (fun g65 => ?_)
      · refine S_iconst dX6_weakest_74 (v := 1) rfl (pc' := 75) rfl ?_
        refine S_goto dX6_weakest_75 79 rfl ?_
        refine S_istore dX6_weakest_79 (by decide) (lo' := [(6, .int 1), (5, .int (x35 - x49)), (0, .ref (zb Z + a0)), (1, .int a1), (2, .int b2), (3, .int b3), (4, .int b4)]) rfl (pc' := 81) rfl ?_
        refine S_iload dX6_weakest_81 0 rfl (pc' := 83) rfl ?_
        refine S_if_eq_N dX6_weakest_83 91 rfl (pc' := 86) rfl (by decide) ?_
        refine S_iload dX6_weakest_86 6 rfl (pc' := 88) rfl ?_
        refine S_goto dX6_weakest_88 92 rfl ?_
        refine S_istore_n dX6_weakest_92 rfl (by decide) (lo' := [(2, .int b4), (6, .int 1), (5, .int (x35 - x49)), (0, .ref (zb Z + a0)), (1, .int a1), (3, .int b3), (4, .int b4)]) rfl (pc' := 93) rfl ?_
        refine S_iload dX6_weakest_93 1 rfl (pc' := 95) rfl ?_
        refine S_if_eq_N dX6_weakest_95 103 rfl (pc' := 98) rfl (by decide) ?_
        refine S_iload dX6_weakest_98 2 rfl (pc' := 100) rfl ?_
        refine S_goto dX6_weakest_100 104 rfl ?_
        refine S_istore_n dX6_weakest_104 rfl (by decide) (lo' := [(3, .int (x35 - x49)), (2, .int b4), (6, .int 1), (5, .int (x35 - x49)), (0, .ref (zb Z + a0)), (1, .int a1), (4, .int b4)]) rfl (pc' := 105) rfl ?_
        refine S_iinc dX6_weakest_105 (q := 6) rfl (v := b4 + 1) rfl (by decide) (lo' := [(4, .int (b4 + 1)), (3, .int (x35 - x49)), (2, .int b4), (6, .int 1), (5, .int (x35 - x49)), (0, .ref (zb Z + a0)), (1, .int a1)]) rfl (pc' := 108) rfl ?_
        refine S_goto dX6_weakest_108 22 rfl ?_
        refine Sim.sub [5, 6, 2, 1, 0] rfl ?_
        exact hF _ _ _ _
      · refine S_iload dX6_weakest_68 0 rfl (pc' := 70) rfl ?_
        refine S_iload_n dX6_weakest_70 rfl 4 rfl (pc' := 71) rfl ?_
        refine S_icmp_ge dX6_weakest_71 78 rfl (pc' := 74) rfl (fun g71 => ?_) (fun g71 => ?_)
        · refine S_iconst dX6_weakest_78 (v := 0) rfl (pc' := 79) rfl ?_
          refine S_istore dX6_weakest_79 (by decide) (lo' := [(6, .int 0), (5, .int (x35 - x49)), (0, .ref (zb Z + a0)), (1, .int a1), (2, .int b2), (3, .int b3), (4, .int b4)]) rfl (pc' := 81) rfl ?_
          refine S_iload dX6_weakest_81 0 rfl (pc' := 83) rfl ?_
          refine S_if_eq_J dX6_weakest_83 91 rfl (pc' := 86) rfl (by decide) ?_
          refine S_iload_n dX6_weakest_91 rfl 4 rfl (pc' := 92) rfl ?_
          refine S_istore_n dX6_weakest_92 rfl (by decide) (lo' := [(2, .int b2), (6, .int 0), (5, .int (x35 - x49)), (0, .ref (zb Z + a0)), (1, .int a1), (3, .int b3), (4, .int b4)]) rfl (pc' := 93) rfl ?_
          refine S_iload dX6_weakest_93 1 rfl (pc' := 95) rfl ?_
          refine S_if_eq_J dX6_weakest_95 103 rfl (pc' := 98) rfl (by decide) ?_
          refine S_iload_n dX6_weakest_103 rfl 5 rfl (pc' := 104) rfl ?_
          refine S_istore_n dX6_weakest_104 rfl (by decide) (lo' := [(3, .int b3), (2, .int b2), (6, .int 0), (5, .int (x35 - x49)), (0, .ref (zb Z + a0)), (1, .int a1), (4, .int b4)]) rfl (pc' := 105) rfl ?_
          refine S_iinc dX6_weakest_105 (q := 6) rfl (v := b4 + 1) rfl (by decide) (lo' := [(4, .int (b4 + 1)), (3, .int b3), (2, .int b2), (6, .int 0), (5, .int (x35 - x49)), (0, .ref (zb Z + a0)), (1, .int a1)]) rfl (pc' := 108) rfl ?_
          refine S_goto dX6_weakest_108 22 rfl ?_
          refine Sim.sub [5, 6, 2, 1, 0] rfl ?_
          exact hF _ _ _ _
        · refine S_iconst dX6_weakest_74 (v := 1) rfl (pc' := 75) rfl ?_
          refine S_goto dX6_weakest_75 79 rfl ?_
          refine S_istore dX6_weakest_79 (by decide) (lo' := [(6, .int 1), (5, .int (x35 - x49)), (0, .ref (zb Z + a0)), (1, .int a1), (2, .int b2), (3, .int b3), (4, .int b4)]) rfl (pc' := 81) rfl ?_
          refine S_iload dX6_weakest_81 0 rfl (pc' := 83) rfl ?_
          refine S_if_eq_N dX6_weakest_83 91 rfl (pc' := 86) rfl (by decide) ?_
          refine S_iload dX6_weakest_86 6 rfl (pc' := 88) rfl ?_
          refine S_goto dX6_weakest_88 92 rfl ?_
          refine S_istore_n dX6_weakest_92 rfl (by decide) (lo' := [(2, .int b4), (6, .int 1), (5, .int (x35 - x49)), (0, .ref (zb Z + a0)), (1, .int a1), (3, .int b3), (4, .int b4)]) rfl (pc' := 93) rfl ?_
          refine S_iload dX6_weakest_93 1 rfl (pc' := 95) rfl ?_
          refine S_if_eq_N dX6_weakest_95 103 rfl (pc' := 98) rfl (by decide) ?_
          refine S_iload dX6_weakest_98 2 rfl (pc' := 100) rfl ?_
          refine S_goto dX6_weakest_100 104 rfl ?_
          refine S_istore_n dX6_weakest_104 rfl (by decide) (lo' := [(3, .int (x35 - x49)), (2, .int b4), (6, .int 1), (5, .int (x35 - x49)), (0, .ref (zb Z + a0)), (1, .int a1), (4, .int b4)]) rfl (pc' := 105) rfl ?_
          refine S_iinc dX6_weakest_105 (q := 6) rfl (v := b4 + 1) rfl (by decide) (lo' := [(4, .int (b4 + 1)), (3, .int (x35 - x49)), (2, .int b4), (6, .int 1), (5, .int (x35 - x49)), (0, .ref (zb Z + a0)), (1, .int a1)]) rfl (pc' := 108) rfl ?_
          refine S_goto dX6_weakest_108 22 rfl ?_
          refine Sim.sub [5, 6, 2, 1, 0] rfl ?_
          exact hF _ _ _ _
theorem lq_X6_weakest_22 (Z : ZZ) (l : Launch) (a0 : Nat) (a1 : Int32) {args : Array Value} {h0 h1 : HP} {v0 : Int32} (K : Int32 → HP → Option (Int32 × HP))
    (hK : ∀ (b2 : Int32) (h : HP), Sim Z l cX6_weakest RX6 7 3 65 (some .int) "weakest" args (Mq Z args h0 h1 (some (.int v0))) h0 h1 v0 111 [(2, .int b2)] [] h (K b2 h)) :
    ∀ (k : Nat) (b2 : Int32) (b3 : Int32) (b4 : Int32) (h : HP), Sim Z l cX6_weakest RX6 7 3 65 (some .int) "weakest" args (Mq Z args h0 h1 (some (.int v0))) h0 h1 v0 22 [(0, .ref (zb Z + a0)), (1, .int a1), (2, .int b2), (3, .int b3), (4, .int b4)] [] h (lp_X6_weakest_22 a0 a1 K k b2 b3 b4 h) := by
  intro k
  induction k with
  | zero => exact fun _ _ _ _ => Sim.none
  | succ k ih => exact lc_X6_weakest_22 Z l a0 a1 K _ hK ih
set_option maxRecDepth 100000 in
set_option maxHeartbeats 4000000 in
theorem c_X6_weakest (Z : ZZ) (l : Launch) (t : Nat) (a1 : Int32) (h : HP) {v : Int32} {h1 : HP} (ho : f_X6_weakest t a1 h = some (v, h1)) : MetP Z l yX6_weakest cX6_weakest 7 (some .int) 3 65 [.ref (zb Z + t), .int a1] h (some (.int v)) h1 := by
  refine MetP_of ho (by decide +kernel) (Nat.le_of_ble_eq_true rfl) [(0, .ref (zb Z + t)), (1, .int a1)] rfl (own := RX6) rfl (nm := "weakest") rfl ?_
  unfold f_X6_weakest
  refine S_aload_n dX6_weakest_0 rfl 0 rfl (pc' := 1) rfl ?_
  refine S_iload_n dX6_weakest_1 rfl 1 rfl (pc' := 2) rfl ?_
  refine S_invi ml_X6_148 mi_X6_isSong (ci := 6) ⟨_, rfl, rfl⟩ (by decide) dX6_weakest_2 [.int a1] rfl (fun v h2 q => c_X6_isSong Z l _ _ _ q) ⟨Nat.le_of_ble_eq_true rfl, Nat.le_of_ble_eq_true rfl⟩ (rest := []) (Nat.le_of_ble_eq_true rfl) rfl (pc' := 5) rfl (fun x2 h2 => ?_)
  refine S_if_ne dX6_weakest_5 15 rfl (pc' := 8) rfl (fun g5 => ?_) (fun g5 => ?_)
  · refine S_iconst dX6_weakest_15 (v := (-1)) rfl (pc' := 16) rfl ?_
    refine S_istore_n dX6_weakest_16 rfl (by decide) (lo' := [(2, .int (-1)), (0, .ref (zb Z + t)), (1, .int a1)]) rfl (pc' := 17) rfl ?_
    refine S_iconst dX6_weakest_17 (v := 0) rfl (pc' := 18) rfl ?_
    refine S_istore_n dX6_weakest_18 rfl (by decide) (lo' := [(3, .int 0), (2, .int (-1)), (0, .ref (zb Z + t)), (1, .int a1)]) rfl (pc' := 19) rfl ?_
    refine S_iconst dX6_weakest_19 (v := 0) rfl (pc' := 20) rfl ?_
    refine S_istore dX6_weakest_20 (by decide) (lo' := [(4, .int 0), (3, .int 0), (2, .int (-1)), (0, .ref (zb Z + t)), (1, .int a1)]) rfl (pc' := 22) rfl ?_
    refine Sim.sub [3, 4, 2, 1, 0] rfl ?_
    refine lq_X6_weakest_22 Z l t a1 _ ?_ 1000 _ _ _ _
    intro b2_22 h22_
    refine S_iload_n dX6_weakest_111 rfl 0 rfl (pc' := 112) rfl ?_
    exact S_iret rfl dX6_weakest_112
  · refine S_aload_n dX6_weakest_8 rfl 0 rfl (pc' := 9) rfl ?_
    refine S_bipush dX6_weakest_9 (v := (-2)) rfl (pc' := 11) rfl ?_
    refine S_invi ml_X6_108 mi_X6_refuse (ci := 6) ⟨_, rfl, rfl⟩ (by decide) dX6_weakest_11 [.int (-2)] rfl (fun v h2 q => c_X6_refuse Z l _ _ _ q) ⟨Nat.le_of_ble_eq_true rfl, Nat.le_of_ble_eq_true rfl⟩ (rest := []) (Nat.le_of_ble_eq_true rfl) rfl (pc' := 14) rfl (fun x11 h11 => ?_)
    exact S_iret rfl dX6_weakest_14
theorem dX6_ofKind_0 : decode cX6_ofKind 0 = .ok (.iload_n 1, 1) := by decide +kernel
theorem dX6_ofKind_1 : decode cX6_ofKind 1 = .ok (.i2l, 1) := by decide +kernel
theorem dX6_ofKind_2 : decode cX6_ofKind 2 = .ok (.lconst 0, 1) := by decide +kernel
theorem dX6_ofKind_3 : decode cX6_ofKind 3 = .ok (.ldc2_w 123, 3) := by decide +kernel
theorem dX6_ofKind_6 : decode cX6_ofKind 6 = .ok (.invokestatic 95, 3) := by decide +kernel
theorem dX6_ofKind_9 : decode cX6_ofKind 9 = .ok (.ifCond .ne 10, 3) := by decide +kernel
theorem dX6_ofKind_12 : decode cX6_ofKind 12 = .ok (.aload_n 0, 1) := by decide +kernel
theorem dX6_ofKind_13 : decode cX6_ofKind 13 = .ok (.bipush (-2), 2) := by decide +kernel
theorem dX6_ofKind_15 : decode cX6_ofKind 15 = .ok (.invokevirtual 108, 3) := by decide +kernel
theorem dX6_ofKind_18 : decode cX6_ofKind 18 = .ok (.ireturn, 1) := by decide +kernel
theorem dX6_ofKind_19 : decode cX6_ofKind 19 = .ok (.iconst 0, 1) := by decide +kernel
theorem dX6_ofKind_20 : decode cX6_ofKind 20 = .ok (.istore_n 2, 1) := by decide +kernel
theorem dX6_ofKind_21 : decode cX6_ofKind 21 = .ok (.iconst 0, 1) := by decide +kernel
theorem dX6_ofKind_22 : decode cX6_ofKind 22 = .ok (.istore_n 3, 1) := by decide +kernel
theorem dX6_ofKind_23 : decode cX6_ofKind 23 = .ok (.iload_n 3, 1) := by decide +kernel
theorem dX6_ofKind_24 : decode cX6_ofKind 24 = .ok (.aload_n 0, 1) := by decide +kernel
theorem dX6_ofKind_25 : decode cX6_ofKind 25 = .ok (.getfield 92, 3) := by decide +kernel
theorem dX6_ofKind_28 : decode cX6_ofKind 28 = .ok (.if_icmp .ge 27, 3) := by decide +kernel
theorem dX6_ofKind_31 : decode cX6_ofKind 31 = .ok (.iload_n 2, 1) := by decide +kernel
theorem dX6_ofKind_32 : decode cX6_ofKind 32 = .ok (.aload_n 0, 1) := by decide +kernel
theorem dX6_ofKind_33 : decode cX6_ofKind 33 = .ok (.getfield 41, 3) := by decide +kernel
theorem dX6_ofKind_36 : decode cX6_ofKind 36 = .ok (.iload_n 3, 1) := by decide +kernel
theorem dX6_ofKind_37 : decode cX6_ofKind 37 = .ok (.iaload, 1) := by decide +kernel
theorem dX6_ofKind_38 : decode cX6_ofKind 38 = .ok (.iload_n 1, 1) := by decide +kernel
theorem dX6_ofKind_39 : decode cX6_ofKind 39 = .ok (.if_icmp .ne 7, 3) := by decide +kernel
theorem dX6_ofKind_42 : decode cX6_ofKind 42 = .ok (.iconst 1, 1) := by decide +kernel
theorem dX6_ofKind_43 : decode cX6_ofKind 43 = .ok (.goto 4, 3) := by decide +kernel
theorem dX6_ofKind_46 : decode cX6_ofKind 46 = .ok (.iconst 0, 1) := by decide +kernel
theorem dX6_ofKind_47 : decode cX6_ofKind 47 = .ok (.iadd, 1) := by decide +kernel
theorem dX6_ofKind_48 : decode cX6_ofKind 48 = .ok (.istore_n 2, 1) := by decide +kernel
theorem dX6_ofKind_49 : decode cX6_ofKind 49 = .ok (.iinc 3 1, 3) := by decide +kernel
theorem dX6_ofKind_52 : decode cX6_ofKind 52 = .ok (.goto (-29), 3) := by decide +kernel
theorem dX6_ofKind_55 : decode cX6_ofKind 55 = .ok (.iload_n 2, 1) := by decide +kernel
theorem dX6_ofKind_56 : decode cX6_ofKind 56 = .ok (.ireturn, 1) := by decide +kernel
set_option maxRecDepth 100000 in
set_option maxHeartbeats 4000000 in
theorem lc_X6_ofKind_23 (Z : ZZ) (l : Launch) (a0 : Nat) (a1 : Int32) {args : Array Value} {h0 h1 : HP} {v0 : Int32} (K : Int32 → HP → Option (Int32 × HP)) (F : Int32 → Int32 → HP → Option (Int32 × HP))
    (hK : ∀ (b2 : Int32) (h : HP), Sim Z l cX6_ofKind RX6 4 1 25 (some .int) "ofKind" args (Mq Z args h0 h1 (some (.int v0))) h0 h1 v0 55 [(2, .int b2)] [] h (K b2 h))
    (hF : ∀ (b2 : Int32) (b3 : Int32) (h : HP), Sim Z l cX6_ofKind RX6 4 1 25 (some .int) "ofKind" args (Mq Z args h0 h1 (some (.int v0))) h0 h1 v0 23 [(0, .ref (zb Z + a0)), (1, .int a1), (2, .int b2), (3, .int b3)] [] h (F b2 b3 h)) :
    ∀ (b2 : Int32) (b3 : Int32) (h : HP), Sim Z l cX6_ofKind RX6 4 1 25 (some .int) "ofKind" args (Mq Z args h0 h1 (some (.int v0))) h0 h1 v0 23 [(0, .ref (zb Z + a0)), (1, .int a1), (2, .int b2), (3, .int b3)] [] h (lb_X6_ofKind_23 a0 a1 K F b2 b3 h) := by
  intro b2 b3 h
  unfold lb_X6_ofKind_23
  refine S_iload_n dX6_ofKind_23 rfl 3 rfl (pc' := 24) rfl ?_
  refine S_aload_n dX6_ofKind_24 rfl 0 rfl (pc' := 25) rfl ?_
  refine S_getI fl_X6_92 rfl dX6_ofKind_25 (pc' := 28) rfl (fun x25 => ?_)
  refine S_icmp_ge dX6_ofKind_28 55 rfl (pc' := 31) rfl (fun g28 => ?_) (fun g28 => ?_)
  · refine Sim.sub [2] rfl ?_
    exact hK _ _
  · refine S_iload_n dX6_ofKind_31 rfl 2 rfl (pc' := 32) rfl ?_
    refine S_aload_n dX6_ofKind_32 rfl 0 rfl (pc' := 33) rfl ?_
    refine S_getR fl_X6_41 rfl dX6_ofKind_33 (pc' := 36) rfl (fun x33 => ?_)
    refine S_iload_n dX6_ofKind_36 rfl 3 rfl (pc' := 37) rfl ?_
    refine S_iaload dX6_ofKind_37 (pc' := 38) rfl (fun x37 => ?_)
    refine S_iload_n dX6_ofKind_38 rfl 1 rfl (pc' := 39) rfl ?_
    refine S_icmp_ne dX6_ofKind_39 46 rfl (pc' := 42) rfl (fun g39 => ?_) (fun g39 => ?_)
    · refine S_iconst dX6_ofKind_46 (v := 0) rfl (pc' := 47) rfl ?_
      refine S_iadd dX6_ofKind_47 (pc' := 48) rfl ?_
      refine S_istore_n dX6_ofKind_48 rfl (by decide) (lo' := [(2, .int (b2 + 0)), (0, .ref (zb Z + a0)), (1, .int a1), (3, .int b3)]) rfl (pc' := 49) rfl ?_
      refine S_iinc dX6_ofKind_49 (q := 3) rfl (v := b3 + 1) rfl (by decide) (lo' := [(3, .int (b3 + 1)), (2, .int (b2 + 0)), (0, .ref (zb Z + a0)), (1, .int a1)]) rfl (pc' := 52) rfl ?_
      refine S_goto dX6_ofKind_52 23 rfl ?_
      refine Sim.sub [2, 3, 1, 0] rfl ?_
      exact hF _ _ _
    · refine S_iconst dX6_ofKind_42 (v := 1) rfl (pc' := 43) rfl ?_
      refine S_goto dX6_ofKind_43 47 rfl ?_
      refine S_iadd dX6_ofKind_47 (pc' := 48) rfl ?_
      refine S_istore_n dX6_ofKind_48 rfl (by decide) (lo' := [(2, .int (b2 + 1)), (0, .ref (zb Z + a0)), (1, .int a1), (3, .int b3)]) rfl (pc' := 49) rfl ?_
      refine S_iinc dX6_ofKind_49 (q := 3) rfl (v := b3 + 1) rfl (by decide) (lo' := [(3, .int (b3 + 1)), (2, .int (b2 + 1)), (0, .ref (zb Z + a0)), (1, .int a1)]) rfl (pc' := 52) rfl ?_
      refine S_goto dX6_ofKind_52 23 rfl ?_
      refine Sim.sub [2, 3, 1, 0] rfl ?_
      exact hF _ _ _
theorem lq_X6_ofKind_23 (Z : ZZ) (l : Launch) (a0 : Nat) (a1 : Int32) {args : Array Value} {h0 h1 : HP} {v0 : Int32} (K : Int32 → HP → Option (Int32 × HP))
    (hK : ∀ (b2 : Int32) (h : HP), Sim Z l cX6_ofKind RX6 4 1 25 (some .int) "ofKind" args (Mq Z args h0 h1 (some (.int v0))) h0 h1 v0 55 [(2, .int b2)] [] h (K b2 h)) :
    ∀ (k : Nat) (b2 : Int32) (b3 : Int32) (h : HP), Sim Z l cX6_ofKind RX6 4 1 25 (some .int) "ofKind" args (Mq Z args h0 h1 (some (.int v0))) h0 h1 v0 23 [(0, .ref (zb Z + a0)), (1, .int a1), (2, .int b2), (3, .int b3)] [] h (lp_X6_ofKind_23 a0 a1 K k b2 b3 h) := by
  intro k
  induction k with
  | zero => exact fun _ _ _ => Sim.none
  | succ k ih => exact lc_X6_ofKind_23 Z l a0 a1 K _ hK ih
set_option maxRecDepth 100000 in
set_option maxHeartbeats 4000000 in
theorem c_X6_ofKind (Z : ZZ) (l : Launch) (t : Nat) (a1 : Int32) (h : HP) {v : Int32} {h1 : HP} (ho : f_X6_ofKind t a1 h = some (v, h1)) : MetP Z l yX6_ofKind cX6_ofKind 4 (some .int) 1 25 [.ref (zb Z + t), .int a1] h (some (.int v)) h1 := by
  refine MetP_of ho (by decide +kernel) (Nat.le_of_ble_eq_true rfl) [(0, .ref (zb Z + t)), (1, .int a1)] rfl (own := RX6) rfl (nm := "ofKind") rfl ?_
  unfold f_X6_ofKind
  refine S_iload_n dX6_ofKind_0 rfl 1 rfl (pc' := 1) rfl ?_
  refine S_i2l dX6_ofKind_1 (pc' := 2) rfl ?_
  refine S_lconst dX6_ofKind_2 (v := 0) rfl (pc' := 3) rfl ?_
  refine S_ldc2 dX6_ofKind_3 kc_X6_123 (pc' := 6) rfl ?_
  refine S_stai ml_X6_95 ms_X6_in dX6_ofKind_6 [.long a1.toInt64, .long 0, .long 5] rfl (fun v h2 q => c_X6_in Z l _ _ _ _ q) ⟨Nat.le_of_ble_eq_true rfl, Nat.le_of_ble_eq_true rfl⟩ (rest := []) (Nat.le_of_ble_eq_true rfl) rfl (pc' := 9) rfl (fun x6 h6 => ?_)
  refine S_if_ne dX6_ofKind_9 19 rfl (pc' := 12) rfl (fun g9 => ?_) (fun g9 => ?_)
  · refine S_iconst dX6_ofKind_19 (v := 0) rfl (pc' := 20) rfl ?_
    refine S_istore_n dX6_ofKind_20 rfl (by decide) (lo' := [(2, .int 0), (0, .ref (zb Z + t)), (1, .int a1)]) rfl (pc' := 21) rfl ?_
    refine S_iconst dX6_ofKind_21 (v := 0) rfl (pc' := 22) rfl ?_
    refine S_istore_n dX6_ofKind_22 rfl (by decide) (lo' := [(3, .int 0), (2, .int 0), (0, .ref (zb Z + t)), (1, .int a1)]) rfl (pc' := 23) rfl ?_
    refine Sim.sub [2, 3, 1, 0] rfl ?_
    refine lq_X6_ofKind_23 Z l t a1 _ ?_ 1000 _ _ _
    intro b2_23 h23_
    refine S_iload_n dX6_ofKind_55 rfl 0 rfl (pc' := 56) rfl ?_
    exact S_iret rfl dX6_ofKind_56
  · refine S_aload_n dX6_ofKind_12 rfl 0 rfl (pc' := 13) rfl ?_
    refine S_bipush dX6_ofKind_13 (v := (-2)) rfl (pc' := 15) rfl ?_
    refine S_invi ml_X6_108 mi_X6_refuse (ci := 6) ⟨_, rfl, rfl⟩ (by decide) dX6_ofKind_15 [.int (-2)] rfl (fun v h2 q => c_X6_refuse Z l _ _ _ q) ⟨Nat.le_of_ble_eq_true rfl, Nat.le_of_ble_eq_true rfl⟩ (rest := []) (Nat.le_of_ble_eq_true rfl) rfl (pc' := 18) rfl (fun x15 h15 => ?_)
    exact S_iret rfl dX6_ofKind_18
theorem dX6_behind_0 : decode cX6_behind 0 = .ok (.aload_n 0, 1) := by decide +kernel
theorem dX6_behind_1 : decode cX6_behind 1 = .ok (.iload_n 1, 1) := by decide +kernel
theorem dX6_behind_2 : decode cX6_behind 2 = .ok (.invokevirtual 148, 3) := by decide +kernel
theorem dX6_behind_5 : decode cX6_behind 5 = .ok (.ifCond .eq 27, 3) := by decide +kernel
theorem dX6_behind_8 : decode cX6_behind 8 = .ok (.iload_n 2, 1) := by decide +kernel
theorem dX6_behind_9 : decode cX6_behind 9 = .ok (.i2l, 1) := by decide +kernel
theorem dX6_behind_10 : decode cX6_behind 10 = .ok (.lconst 0, 1) := by decide +kernel
theorem dX6_behind_11 : decode cX6_behind 11 = .ok (.ldc2_w 304, 3) := by decide +kernel
theorem dX6_behind_14 : decode cX6_behind 14 = .ok (.invokestatic 95, 3) := by decide +kernel
theorem dX6_behind_17 : decode cX6_behind 17 = .ok (.ifCond .eq 15, 3) := by decide +kernel
theorem dX6_behind_20 : decode cX6_behind 20 = .ok (.iload_n 3, 1) := by decide +kernel
theorem dX6_behind_21 : decode cX6_behind 21 = .ok (.i2l, 1) := by decide +kernel
theorem dX6_behind_22 : decode cX6_behind 22 = .ok (.lconst 0, 1) := by decide +kernel
theorem dX6_behind_23 : decode cX6_behind 23 = .ok (.ldc2_w 146, 3) := by decide +kernel
theorem dX6_behind_26 : decode cX6_behind 26 = .ok (.invokestatic 95, 3) := by decide +kernel
theorem dX6_behind_29 : decode cX6_behind 29 = .ok (.ifCond .ne 10, 3) := by decide +kernel
theorem dX6_behind_32 : decode cX6_behind 32 = .ok (.aload_n 0, 1) := by decide +kernel
theorem dX6_behind_33 : decode cX6_behind 33 = .ok (.bipush (-2), 2) := by decide +kernel
theorem dX6_behind_35 : decode cX6_behind 35 = .ok (.invokevirtual 108, 3) := by decide +kernel
theorem dX6_behind_38 : decode cX6_behind 38 = .ok (.ireturn, 1) := by decide +kernel
theorem dX6_behind_39 : decode cX6_behind 39 = .ok (.aload_n 0, 1) := by decide +kernel
theorem dX6_behind_40 : decode cX6_behind 40 = .ok (.invokevirtual 306, 3) := by decide +kernel
theorem dX6_behind_43 : decode cX6_behind 43 = .ok (.astore 4, 2) := by decide +kernel
theorem dX6_behind_45 : decode cX6_behind 45 = .ok (.iconst 0, 1) := by decide +kernel
theorem dX6_behind_46 : decode cX6_behind 46 = .ok (.istore 5, 2) := by decide +kernel
theorem dX6_behind_48 : decode cX6_behind 48 = .ok (.iload 5, 2) := by decide +kernel
theorem dX6_behind_50 : decode cX6_behind 50 = .ok (.iload_n 2, 1) := by decide +kernel
theorem dX6_behind_51 : decode cX6_behind 51 = .ok (.if_icmp .ge 15, 3) := by decide +kernel
theorem dX6_behind_54 : decode cX6_behind 54 = .ok (.aload 4, 2) := by decide +kernel
theorem dX6_behind_56 : decode cX6_behind 56 = .ok (.invokevirtual 310, 3) := by decide +kernel
theorem dX6_behind_59 : decode cX6_behind 59 = .ok (.pop, 1) := by decide +kernel
theorem dX6_behind_60 : decode cX6_behind 60 = .ok (.iinc 5 1, 3) := by decide +kernel
theorem dX6_behind_63 : decode cX6_behind 63 = .ok (.goto (-15), 3) := by decide +kernel
theorem dX6_behind_66 : decode cX6_behind 66 = .ok (.iload_n 3, 1) := by decide +kernel
theorem dX6_behind_67 : decode cX6_behind 67 = .ok (.ifCond .ne 12, 3) := by decide +kernel
theorem dX6_behind_70 : decode cX6_behind 70 = .ok (.aload 4, 2) := by decide +kernel
theorem dX6_behind_72 : decode cX6_behind 72 = .ok (.iload_n 1, 1) := by decide +kernel
theorem dX6_behind_73 : decode cX6_behind 73 = .ok (.invokevirtual 285, 3) := by decide +kernel
theorem dX6_behind_76 : decode cX6_behind 76 = .ok (.goto 23, 3) := by decide +kernel
theorem dX6_behind_79 : decode cX6_behind 79 = .ok (.iload_n 3, 1) := by decide +kernel
theorem dX6_behind_80 : decode cX6_behind 80 = .ok (.iconst 1, 1) := by decide +kernel
theorem dX6_behind_81 : decode cX6_behind 81 = .ok (.if_icmp .ne 13, 3) := by decide +kernel
theorem dX6_behind_84 : decode cX6_behind 84 = .ok (.aload 4, 2) := by decide +kernel
theorem dX6_behind_86 : decode cX6_behind 86 = .ok (.getfield 62, 3) := by decide +kernel
theorem dX6_behind_89 : decode cX6_behind 89 = .ok (.iload_n 1, 1) := by decide +kernel
theorem dX6_behind_90 : decode cX6_behind 90 = .ok (.iaload, 1) := by decide +kernel
theorem dX6_behind_91 : decode cX6_behind 91 = .ok (.goto 8, 3) := by decide +kernel
theorem dX6_behind_94 : decode cX6_behind 94 = .ok (.aload 4, 2) := by decide +kernel
theorem dX6_behind_96 : decode cX6_behind 96 = .ok (.invokevirtual 298, 3) := by decide +kernel
theorem dX6_behind_99 : decode cX6_behind 99 = .ok (.ireturn, 1) := by decide +kernel
set_option maxRecDepth 100000 in
set_option maxHeartbeats 4000000 in
theorem lc_X6_behind_48 (Z : ZZ) (l : Launch) (a1 : Int32) (a2 : Int32) (a3 : Int32) (a4 : Nat) {args : Array Value} {h0 h1 : HP} {v0 : Int32} (K : HP → Option (Int32 × HP)) (F : Int32 → HP → Option (Int32 × HP))
    (hK : ∀ (h : HP), Sim Z l cX6_behind RX6 6 5 111 (some .int) "behind" args (Mq Z args h0 h1 (some (.int v0))) h0 h1 v0 66 [(1, .int a1), (3, .int a3), (4, .ref (zb Z + a4))] [] h (K h))
    (hF : ∀ (b5 : Int32) (h : HP), Sim Z l cX6_behind RX6 6 5 111 (some .int) "behind" args (Mq Z args h0 h1 (some (.int v0))) h0 h1 v0 48 [(1, .int a1), (2, .int a2), (3, .int a3), (4, .ref (zb Z + a4)), (5, .int b5)] [] h (F b5 h)) :
    ∀ (b5 : Int32) (h : HP), Sim Z l cX6_behind RX6 6 5 111 (some .int) "behind" args (Mq Z args h0 h1 (some (.int v0))) h0 h1 v0 48 [(1, .int a1), (2, .int a2), (3, .int a3), (4, .ref (zb Z + a4)), (5, .int b5)] [] h (lb_X6_behind_48 a1 a2 a3 a4 K F b5 h) := by
  intro b5 h
  unfold lb_X6_behind_48
  refine S_iload dX6_behind_48 4 rfl (pc' := 50) rfl ?_
  refine S_iload_n dX6_behind_50 rfl 1 rfl (pc' := 51) rfl ?_
  refine S_icmp_ge dX6_behind_51 66 rfl (pc' := 54) rfl (fun g51 => ?_) (fun g51 => ?_)
  · refine Sim.sub [0, 2, 3] rfl ?_
    exact hK _
  · refine S_aload dX6_behind_54 3 rfl (pc' := 56) rfl ?_
    refine S_invi ml_X6_310 mi_X6_passes (ci := 6) ⟨_, rfl, rfl⟩ (by decide) dX6_behind_56 [] rfl (fun v h2 q => c_X6_passes Z l _ _ q) ⟨Nat.le_of_ble_eq_true rfl, Nat.le_of_ble_eq_true rfl⟩ (rest := []) (Nat.le_of_ble_eq_true rfl) rfl (pc' := 59) rfl (fun x56 h56 => ?_)
    refine S_pop dX6_behind_59 rfl (pc' := 60) rfl ?_
    refine S_iinc dX6_behind_60 (q := 4) rfl (v := b5 + 1) rfl (by decide) (lo' := [(5, .int (b5 + 1)), (1, .int a1), (2, .int a2), (3, .int a3), (4, .ref (zb Z + a4))]) rfl (pc' := 63) rfl ?_
    refine S_goto dX6_behind_63 48 rfl ?_
    refine Sim.sub [1, 2, 3, 4, 0] rfl ?_
    exact hF _ _
theorem lq_X6_behind_48 (Z : ZZ) (l : Launch) (a1 : Int32) (a2 : Int32) (a3 : Int32) (a4 : Nat) {args : Array Value} {h0 h1 : HP} {v0 : Int32} (K : HP → Option (Int32 × HP))
    (hK : ∀ (h : HP), Sim Z l cX6_behind RX6 6 5 111 (some .int) "behind" args (Mq Z args h0 h1 (some (.int v0))) h0 h1 v0 66 [(1, .int a1), (3, .int a3), (4, .ref (zb Z + a4))] [] h (K h)) :
    ∀ (k : Nat) (b5 : Int32) (h : HP), Sim Z l cX6_behind RX6 6 5 111 (some .int) "behind" args (Mq Z args h0 h1 (some (.int v0))) h0 h1 v0 48 [(1, .int a1), (2, .int a2), (3, .int a3), (4, .ref (zb Z + a4)), (5, .int b5)] [] h (lp_X6_behind_48 a1 a2 a3 a4 K k b5 h) := by
  intro k
  induction k with
  | zero => exact fun _ _ => Sim.none
  | succ k ih => exact lc_X6_behind_48 Z l a1 a2 a3 a4 K _ hK ih
set_option maxRecDepth 100000 in
set_option maxHeartbeats 4000000 in
theorem c_X6_behind (Z : ZZ) (l : Launch) (t : Nat) (a1 : Int32) (a2 : Int32) (a3 : Int32) (h : HP) {v : Int32} {h1 : HP} (ho : f_X6_behind t a1 a2 a3 h = some (v, h1)) : MetP Z l yX6_behind cX6_behind 6 (some .int) 5 111 [.ref (zb Z + t), .int a1, .int a2, .int a3] h (some (.int v)) h1 := by
  refine MetP_of ho (by decide +kernel) (Nat.le_of_ble_eq_true rfl) [(0, .ref (zb Z + t)), (1, .int a1), (2, .int a2), (3, .int a3)] rfl (own := RX6) rfl (nm := "behind") rfl ?_
  unfold f_X6_behind
  refine S_aload_n dX6_behind_0 rfl 0 rfl (pc' := 1) rfl ?_
  refine S_iload_n dX6_behind_1 rfl 1 rfl (pc' := 2) rfl ?_
  refine S_invi ml_X6_148 mi_X6_isSong (ci := 6) ⟨_, rfl, rfl⟩ (by decide) dX6_behind_2 [.int a1] rfl (fun v h2 q => c_X6_isSong Z l _ _ _ q) ⟨Nat.le_of_ble_eq_true rfl, Nat.le_of_ble_eq_true rfl⟩ (rest := []) (Nat.le_of_ble_eq_true rfl) rfl (pc' := 5) rfl (fun x2 h2 => ?_)
  refine S_if_eq dX6_behind_5 32 rfl (pc' := 8) rfl (fun g5 => ?_) (fun g5 => ?_)
  · refine S_aload_n dX6_behind_32 rfl 0 rfl (pc' := 33) rfl ?_
    refine S_bipush dX6_behind_33 (v := (-2)) rfl (pc' := 35) rfl ?_
    refine S_invi ml_X6_108 mi_X6_refuse (ci := 6) ⟨_, rfl, rfl⟩ (by decide) dX6_behind_35 [.int (-2)] rfl (fun v h2 q => c_X6_refuse Z l _ _ _ q) ⟨Nat.le_of_ble_eq_true rfl, Nat.le_of_ble_eq_true rfl⟩ (rest := []) (Nat.le_of_ble_eq_true rfl) rfl (pc' := 38) rfl (fun x35 h35 => ?_)
    exact S_iret rfl dX6_behind_38
  · refine S_iload_n dX6_behind_8 rfl 2 rfl (pc' := 9) rfl ?_
    refine S_i2l dX6_behind_9 (pc' := 10) rfl ?_
    refine S_lconst dX6_behind_10 (v := 0) rfl (pc' := 11) rfl ?_
    refine S_ldc2 dX6_behind_11 kc_X6_304 (pc' := 14) rfl ?_
    refine S_stai ml_X6_95 ms_X6_in dX6_behind_14 [.long a2.toInt64, .long 0, .long 60] rfl (fun v h2 q => c_X6_in Z l _ _ _ _ q) ⟨Nat.le_of_ble_eq_true rfl, Nat.le_of_ble_eq_true rfl⟩ (rest := []) (Nat.le_of_ble_eq_true rfl) rfl (pc' := 17) rfl (fun x14 h14 => ?_)
    refine S_if_eq dX6_behind_17 32 rfl (pc' := 20) rfl (fun g17 => ?_) (fun g17 => ?_)
    · refine S_aload_n dX6_behind_32 rfl 0 rfl (pc' := 33) rfl ?_
      refine S_bipush dX6_behind_33 (v := (-2)) rfl (pc' := 35) rfl ?_
      refine S_invi ml_X6_108 mi_X6_refuse (ci := 6) ⟨_, rfl, rfl⟩ (by decide) dX6_behind_35 [.int (-2)] rfl (fun v h2 q => c_X6_refuse Z l _ _ _ q) ⟨Nat.le_of_ble_eq_true rfl, Nat.le_of_ble_eq_true rfl⟩ (rest := []) (Nat.le_of_ble_eq_true rfl) rfl (pc' := 38) rfl (fun x35 h35 => ?_)
      exact S_iret rfl dX6_behind_38
    · refine S_iload_n dX6_behind_20 rfl 3 rfl (pc' := 21) rfl ?_
      refine S_i2l dX6_behind_21 (pc' := 22) rfl ?_
      refine S_lconst dX6_behind_22 (v := 0) rfl (pc' := 23) rfl ?_
      refine S_ldc2 dX6_behind_23 kc_X6_146 (pc' := 26) rfl ?_
      refine S_stai ml_X6_95 ms_X6_in dX6_behind_26 [.long a3.toInt64, .long 0, .long 2] rfl (fun v h2 q => c_X6_in Z l _ _ _ _ q) ⟨Nat.le_of_ble_eq_true rfl, Nat.le_of_ble_eq_true rfl⟩ (rest := []) (Nat.le_of_ble_eq_true rfl) rfl (pc' := 29) rfl (fun x26 h26 => ?_)
      refine S_if_ne dX6_behind_29 39 rfl (pc' := 32) rfl (fun g29 => ?_) (fun g29 => ?_)
      · refine S_aload_n dX6_behind_39 rfl 0 rfl (pc' := 40) rfl ?_
        refine S_invr ml_X6_306 mi_X6_thought (ci := 6) ⟨_, rfl, rfl⟩ (by decide) dX6_behind_40 [] rfl (fun v h2 q => c_X6_thought Z l _ _ q) ⟨Nat.le_of_ble_eq_true rfl, Nat.le_of_ble_eq_true rfl⟩ (rest := []) (Nat.le_of_ble_eq_true rfl) rfl (pc' := 43) rfl (fun x40 h40 => ?_)
        refine S_astore dX6_behind_43 (by decide) (lo' := [(4, .ref (zb Z + x40)), (0, .ref (zb Z + t)), (1, .int a1), (2, .int a2), (3, .int a3)]) rfl (pc' := 45) rfl ?_
        refine S_iconst dX6_behind_45 (v := 0) rfl (pc' := 46) rfl ?_
        refine S_istore dX6_behind_46 (by decide) (lo' := [(5, .int 0), (4, .ref (zb Z + x40)), (0, .ref (zb Z + t)), (1, .int a1), (2, .int a2), (3, .int a3)]) rfl (pc' := 48) rfl ?_
        refine Sim.sub [3, 4, 5, 1, 0] rfl ?_
        refine lq_X6_behind_48 Z l a1 a2 a3 x40 _ ?_ 1000 _ _
        intro h48_
        refine S_iload_n dX6_behind_66 rfl 1 rfl (pc' := 67) rfl ?_
        refine S_if_ne dX6_behind_67 79 rfl (pc' := 70) rfl (fun g67 => ?_) (fun g67 => ?_)
        · refine S_iload_n dX6_behind_79 rfl 1 rfl (pc' := 80) rfl ?_
          refine S_iconst dX6_behind_80 (v := 1) rfl (pc' := 81) rfl ?_
          refine S_icmp_ne dX6_behind_81 94 rfl (pc' := 84) rfl (fun g81 => ?_) (fun g81 => ?_)
          · refine S_aload dX6_behind_94 2 rfl (pc' := 96) rfl ?_
            refine S_invi ml_X6_298 mi_X6_known (ci := 6) ⟨_, rfl, rfl⟩ (by decide) dX6_behind_96 [] rfl (fun v h2 q => c_X6_known Z l _ _ q) ⟨Nat.le_of_ble_eq_true rfl, Nat.le_of_ble_eq_true rfl⟩ (rest := []) (Nat.le_of_ble_eq_true rfl) rfl (pc' := 99) rfl (fun x96 h96 => ?_)
            exact S_iret rfl dX6_behind_99
          · refine S_aload dX6_behind_84 2 rfl (pc' := 86) rfl ?_
            refine S_getR fl_X6_62 rfl dX6_behind_86 (pc' := 89) rfl (fun x86 => ?_)
            refine S_iload_n dX6_behind_89 rfl 0 rfl (pc' := 90) rfl ?_
            refine S_iaload dX6_behind_90 (pc' := 91) rfl (fun x90 => ?_)
            refine S_goto dX6_behind_91 99 rfl ?_
            exact S_iret rfl dX6_behind_99
        · refine S_aload dX6_behind_70 2 rfl (pc' := 72) rfl ?_
          refine S_iload_n dX6_behind_72 rfl 0 rfl (pc' := 73) rfl ?_
          refine S_invi ml_X6_285 mi_X6_holdersOf (ci := 6) ⟨_, rfl, rfl⟩ (by decide) dX6_behind_73 [.int a1] rfl (fun v h2 q => c_X6_holdersOf Z l _ _ _ q) ⟨Nat.le_of_ble_eq_true rfl, Nat.le_of_ble_eq_true rfl⟩ (rest := []) (Nat.le_of_ble_eq_true rfl) rfl (pc' := 76) rfl (fun x73 h73 => ?_)
          refine S_goto dX6_behind_76 99 rfl ?_
          exact S_iret rfl dX6_behind_99
      · refine S_aload_n dX6_behind_32 rfl 0 rfl (pc' := 33) rfl ?_
        refine S_bipush dX6_behind_33 (v := (-2)) rfl (pc' := 35) rfl ?_
        refine S_invi ml_X6_108 mi_X6_refuse (ci := 6) ⟨_, rfl, rfl⟩ (by decide) dX6_behind_35 [.int (-2)] rfl (fun v h2 q => c_X6_refuse Z l _ _ _ q) ⟨Nat.le_of_ble_eq_true rfl, Nat.le_of_ble_eq_true rfl⟩ (rest := []) (Nat.le_of_ble_eq_true rfl) rfl (pc' := 38) rfl (fun x35 h35 => ?_)
        exact S_iret rfl dX6_behind_38
theorem dX6_runsOut_0 : decode cX6_runsOut 0 = .ok (.iconst 0, 1) := by decide +kernel
theorem dX6_runsOut_1 : decode cX6_runsOut 1 = .ok (.istore_n 2, 1) := by decide +kernel
theorem dX6_runsOut_2 : decode cX6_runsOut 2 = .ok (.iload_n 2, 1) := by decide +kernel
theorem dX6_runsOut_3 : decode cX6_runsOut 3 = .ok (.bipush 60, 2) := by decide +kernel
theorem dX6_runsOut_5 : decode cX6_runsOut 5 = .ok (.if_icmp .gt 32, 3) := by decide +kernel
theorem dX6_runsOut_8 : decode cX6_runsOut 8 = .ok (.aload_n 0, 1) := by decide +kernel
theorem dX6_runsOut_9 : decode cX6_runsOut 9 = .ok (.getfield 62, 3) := by decide +kernel
theorem dX6_runsOut_12 : decode cX6_runsOut 12 = .ok (.iload_n 1, 1) := by decide +kernel
theorem dX6_runsOut_13 : decode cX6_runsOut 13 = .ok (.iaload, 1) := by decide +kernel
theorem dX6_runsOut_14 : decode cX6_runsOut 14 = .ok (.ifCond .ne 23, 3) := by decide +kernel
theorem dX6_runsOut_17 : decode cX6_runsOut 17 = .ok (.aload_n 0, 1) := by decide +kernel
theorem dX6_runsOut_18 : decode cX6_runsOut 18 = .ok (.aload_n 0, 1) := by decide +kernel
theorem dX6_runsOut_19 : decode cX6_runsOut 19 = .ok (.iload_n 1, 1) := by decide +kernel
theorem dX6_runsOut_20 : decode cX6_runsOut 20 = .ok (.invokevirtual 285, 3) := by decide +kernel
theorem dX6_runsOut_23 : decode cX6_runsOut 23 = .ok (.putfield 313, 3) := by decide +kernel
theorem dX6_runsOut_26 : decode cX6_runsOut 26 = .ok (.aload_n 0, 1) := by decide +kernel
theorem dX6_runsOut_27 : decode cX6_runsOut 27 = .ok (.invokevirtual 310, 3) := by decide +kernel
theorem dX6_runsOut_30 : decode cX6_runsOut 30 = .ok (.pop, 1) := by decide +kernel
theorem dX6_runsOut_31 : decode cX6_runsOut 31 = .ok (.iinc 2 1, 3) := by decide +kernel
theorem dX6_runsOut_34 : decode cX6_runsOut 34 = .ok (.goto (-32), 3) := by decide +kernel
theorem dX6_runsOut_37 : decode cX6_runsOut 37 = .ok (.aload_n 0, 1) := by decide +kernel
theorem dX6_runsOut_38 : decode cX6_runsOut 38 = .ok (.getfield 62, 3) := by decide +kernel
theorem dX6_runsOut_41 : decode cX6_runsOut 41 = .ok (.iload_n 1, 1) := by decide +kernel
theorem dX6_runsOut_42 : decode cX6_runsOut 42 = .ok (.iaload, 1) := by decide +kernel
theorem dX6_runsOut_43 : decode cX6_runsOut 43 = .ok (.ifCond .eq 9, 3) := by decide +kernel
theorem dX6_runsOut_46 : decode cX6_runsOut 46 = .ok (.iload_n 2, 1) := by decide +kernel
theorem dX6_runsOut_47 : decode cX6_runsOut 47 = .ok (.bipush 60, 2) := by decide +kernel
theorem dX6_runsOut_49 : decode cX6_runsOut 49 = .ok (.if_icmp .le 8, 3) := by decide +kernel
theorem dX6_runsOut_52 : decode cX6_runsOut 52 = .ok (.bipush 61, 2) := by decide +kernel
theorem dX6_runsOut_54 : decode cX6_runsOut 54 = .ok (.goto 4, 3) := by decide +kernel
theorem dX6_runsOut_57 : decode cX6_runsOut 57 = .ok (.iload_n 2, 1) := by decide +kernel
theorem dX6_runsOut_58 : decode cX6_runsOut 58 = .ok (.ireturn, 1) := by decide +kernel
set_option maxRecDepth 100000 in
set_option maxHeartbeats 4000000 in
theorem lc_X6_runsOut_2 (Z : ZZ) (l : Launch) (a0 : Nat) (a1 : Int32) {args : Array Value} {h0 h1 : HP} {v0 : Int32} (K : Int32 → HP → Option (Int32 × HP)) (F : Int32 → HP → Option (Int32 × HP))
    (hK : ∀ (b2 : Int32) (h : HP), Sim Z l cX6_runsOut RX6 3 5 111 (some .int) "runsOut" args (Mq Z args h0 h1 (some (.int v0))) h0 h1 v0 37 [(0, .ref (zb Z + a0)), (1, .int a1), (2, .int b2)] [] h (K b2 h))
    (hF : ∀ (b2 : Int32) (h : HP), Sim Z l cX6_runsOut RX6 3 5 111 (some .int) "runsOut" args (Mq Z args h0 h1 (some (.int v0))) h0 h1 v0 2 [(0, .ref (zb Z + a0)), (1, .int a1), (2, .int b2)] [] h (F b2 h)) :
    ∀ (b2 : Int32) (h : HP), Sim Z l cX6_runsOut RX6 3 5 111 (some .int) "runsOut" args (Mq Z args h0 h1 (some (.int v0))) h0 h1 v0 2 [(0, .ref (zb Z + a0)), (1, .int a1), (2, .int b2)] [] h (lb_X6_runsOut_2 a0 a1 K F b2 h) := by
  intro b2 h
  unfold lb_X6_runsOut_2
  refine S_iload_n dX6_runsOut_2 rfl 2 rfl (pc' := 3) rfl ?_
  refine S_bipush dX6_runsOut_3 (v := 60) rfl (pc' := 5) rfl ?_
  refine S_icmp_gt dX6_runsOut_5 37 rfl (pc' := 8) rfl (fun g5 => ?_) (fun g5 => ?_)
  · refine Sim.sub [0, 1, 2] rfl ?_
    exact hK _ _
  · refine S_aload_n dX6_runsOut_8 rfl 0 rfl (pc' := 9) rfl ?_
    refine S_getR fl_X6_62 rfl dX6_runsOut_9 (pc' := 12) rfl (fun x9 => ?_)
    refine S_iload_n dX6_runsOut_12 rfl 1 rfl (pc' := 13) rfl ?_
    refine S_iaload dX6_runsOut_13 (pc' := 14) rfl (fun x13 => ?_)
    refine S_if_ne dX6_runsOut_14 37 rfl (pc' := 17) rfl (fun g14 => ?_) (fun g14 => ?_)
    · refine Sim.sub [0, 1, 2] rfl ?_
      exact hK _ _
    · refine S_aload_n dX6_runsOut_17 rfl 0 rfl (pc' := 18) rfl ?_
      refine S_aload_n dX6_runsOut_18 rfl 0 rfl (pc' := 19) rfl ?_
      refine S_iload_n dX6_runsOut_19 rfl 1 rfl (pc' := 20) rfl ?_
      refine S_invi ml_X6_285 mi_X6_holdersOf (ci := 6) ⟨_, rfl, rfl⟩ (by decide) dX6_runsOut_20 [.int a1] rfl (fun v h2 q => c_X6_holdersOf Z l _ _ _ q) ⟨Nat.le_of_ble_eq_true rfl, Nat.le_of_ble_eq_true rfl⟩ (rest := [.ref (zb Z + a0)]) (Nat.le_of_ble_eq_true rfl) rfl (pc' := 23) rfl (fun x20 h20 => ?_)
      refine S_putI fl_X6_313 (by decide) rfl dX6_runsOut_23 (pc' := 26) rfl (fun h23 => ?_)
      refine S_aload_n dX6_runsOut_26 rfl 0 rfl (pc' := 27) rfl ?_
      refine S_invi ml_X6_310 mi_X6_passes (ci := 6) ⟨_, rfl, rfl⟩ (by decide) dX6_runsOut_27 [] rfl (fun v h2 q => c_X6_passes Z l _ _ q) ⟨Nat.le_of_ble_eq_true rfl, Nat.le_of_ble_eq_true rfl⟩ (rest := []) (Nat.le_of_ble_eq_true rfl) rfl (pc' := 30) rfl (fun x27 h27 => ?_)
      refine S_pop dX6_runsOut_30 rfl (pc' := 31) rfl ?_
      refine S_iinc dX6_runsOut_31 (q := 2) rfl (v := b2 + 1) rfl (by decide) (lo' := [(2, .int (b2 + 1)), (0, .ref (zb Z + a0)), (1, .int a1)]) rfl (pc' := 34) rfl ?_
      refine S_goto dX6_runsOut_34 2 rfl ?_
      refine Sim.sub [1, 2, 0] rfl ?_
      exact hF _ _
theorem lq_X6_runsOut_2 (Z : ZZ) (l : Launch) (a0 : Nat) (a1 : Int32) {args : Array Value} {h0 h1 : HP} {v0 : Int32} (K : Int32 → HP → Option (Int32 × HP))
    (hK : ∀ (b2 : Int32) (h : HP), Sim Z l cX6_runsOut RX6 3 5 111 (some .int) "runsOut" args (Mq Z args h0 h1 (some (.int v0))) h0 h1 v0 37 [(0, .ref (zb Z + a0)), (1, .int a1), (2, .int b2)] [] h (K b2 h)) :
    ∀ (k : Nat) (b2 : Int32) (h : HP), Sim Z l cX6_runsOut RX6 3 5 111 (some .int) "runsOut" args (Mq Z args h0 h1 (some (.int v0))) h0 h1 v0 2 [(0, .ref (zb Z + a0)), (1, .int a1), (2, .int b2)] [] h (lp_X6_runsOut_2 a0 a1 K k b2 h) := by
  intro k
  induction k with
  | zero => exact fun _ _ => Sim.none
  | succ k ih => exact lc_X6_runsOut_2 Z l a0 a1 K _ hK ih
set_option maxRecDepth 100000 in
set_option maxHeartbeats 4000000 in
theorem c_X6_runsOut (Z : ZZ) (l : Launch) (t : Nat) (a1 : Int32) (h : HP) {v : Int32} {h1 : HP} (ho : f_X6_runsOut t a1 h = some (v, h1)) : MetP Z l yX6_runsOut cX6_runsOut 3 (some .int) 5 111 [.ref (zb Z + t), .int a1] h (some (.int v)) h1 := by
  refine MetP_of ho (by decide +kernel) (Nat.le_of_ble_eq_true rfl) [(0, .ref (zb Z + t)), (1, .int a1)] rfl (own := RX6) rfl (nm := "runsOut") rfl ?_
  unfold f_X6_runsOut
  refine S_iconst dX6_runsOut_0 (v := 0) rfl (pc' := 1) rfl ?_
  refine S_istore_n dX6_runsOut_1 rfl (by decide) (lo' := [(2, .int 0), (0, .ref (zb Z + t)), (1, .int a1)]) rfl (pc' := 2) rfl ?_
  refine Sim.sub [1, 2, 0] rfl ?_
  refine lq_X6_runsOut_2 Z l t a1 _ ?_ 1000 _ _
  intro b2_2 h2_
  refine S_aload_n dX6_runsOut_37 rfl 0 rfl (pc' := 38) rfl ?_
  refine S_getR fl_X6_62 rfl dX6_runsOut_38 (pc' := 41) rfl (fun x38 => ?_)
  refine S_iload_n dX6_runsOut_41 rfl 1 rfl (pc' := 42) rfl ?_
  refine S_iaload dX6_runsOut_42 (pc' := 43) rfl (fun x42 => ?_)
  refine S_if_eq dX6_runsOut_43 52 rfl (pc' := 46) rfl (fun g43 => ?_) (fun g43 => ?_)
  · refine S_bipush dX6_runsOut_52 (v := 61) rfl (pc' := 54) rfl ?_
    refine S_goto dX6_runsOut_54 58 rfl ?_
    exact S_iret rfl dX6_runsOut_58
  · refine S_iload_n dX6_runsOut_46 rfl 2 rfl (pc' := 47) rfl ?_
    refine S_bipush dX6_runsOut_47 (v := 60) rfl (pc' := 49) rfl ?_
    refine S_icmp_le dX6_runsOut_49 57 rfl (pc' := 52) rfl (fun g49 => ?_) (fun g49 => ?_)
    · refine S_iload_n dX6_runsOut_57 rfl 2 rfl (pc' := 58) rfl ?_
      exact S_iret rfl dX6_runsOut_58
    · refine S_bipush dX6_runsOut_52 (v := 61) rfl (pc' := 54) rfl ?_
      refine S_goto dX6_runsOut_54 58 rfl ?_
      exact S_iret rfl dX6_runsOut_58
theorem dX6_lostNow_0 : decode cX6_lostNow 0 = .ok (.aload_n 0, 1) := by decide +kernel
theorem dX6_lostNow_1 : decode cX6_lostNow 1 = .ok (.invokevirtual 306, 3) := by decide +kernel
theorem dX6_lostNow_4 : decode cX6_lostNow 4 = .ok (.iload_n 1, 1) := by decide +kernel
theorem dX6_lostNow_5 : decode cX6_lostNow 5 = .ok (.invokevirtual 316, 3) := by decide +kernel
theorem dX6_lostNow_8 : decode cX6_lostNow 8 = .ok (.ireturn, 1) := by decide +kernel
set_option maxRecDepth 100000 in
set_option maxHeartbeats 4000000 in
theorem c_X6_lostNow (Z : ZZ) (l : Launch) (t : Nat) (a1 : Int32) (h : HP) {v : Int32} {h1 : HP} (ho : f_X6_lostNow t a1 h = some (v, h1)) : MetP Z l yX6_lostNow cX6_lostNow 2 (some .int) 6 133 [.ref (zb Z + t), .int a1] h (some (.int v)) h1 := by
  refine MetP_of ho (by decide +kernel) (Nat.le_of_ble_eq_true rfl) [(0, .ref (zb Z + t)), (1, .int a1)] rfl (own := RX6) rfl (nm := "lostNow") rfl ?_
  unfold f_X6_lostNow
  refine S_aload_n dX6_lostNow_0 rfl 0 rfl (pc' := 1) rfl ?_
  refine S_invr ml_X6_306 mi_X6_thought (ci := 6) ⟨_, rfl, rfl⟩ (by decide) dX6_lostNow_1 [] rfl (fun v h2 q => c_X6_thought Z l _ _ q) ⟨Nat.le_of_ble_eq_true rfl, Nat.le_of_ble_eq_true rfl⟩ (rest := []) (Nat.le_of_ble_eq_true rfl) rfl (pc' := 4) rfl (fun x1 h1 => ?_)
  refine S_iload_n dX6_lostNow_4 rfl 1 rfl (pc' := 5) rfl ?_
  refine S_invi ml_X6_316 mi_X6_runsOut (ci := 6) ⟨_, rfl, rfl⟩ (by decide) dX6_lostNow_5 [.int a1] rfl (fun v h2 q => c_X6_runsOut Z l _ _ _ q) ⟨Nat.le_of_ble_eq_true rfl, Nat.le_of_ble_eq_true rfl⟩ (rest := []) (Nat.le_of_ble_eq_true rfl) rfl (pc' := 8) rfl (fun x5 h5 => ?_)
  exact S_iret rfl dX6_lostNow_8
theorem dX6_never_0 : decode cX6_never 0 = .ok (.iload_n 0, 1) := by decide +kernel
theorem dX6_never_1 : decode cX6_never 1 = .ok (.bipush 60, 2) := by decide +kernel
theorem dX6_never_3 : decode cX6_never 3 = .ok (.if_icmp .le 7, 3) := by decide +kernel
theorem dX6_never_6 : decode cX6_never 6 = .ok (.iconst (-1), 1) := by decide +kernel
theorem dX6_never_7 : decode cX6_never 7 = .ok (.goto 4, 3) := by decide +kernel
theorem dX6_never_10 : decode cX6_never 10 = .ok (.iload_n 0, 1) := by decide +kernel
theorem dX6_never_11 : decode cX6_never 11 = .ok (.ireturn, 1) := by decide +kernel
set_option maxRecDepth 100000 in
set_option maxHeartbeats 4000000 in
theorem c_X6_never (Z : ZZ) (l : Launch) (a0 : Int32) (h : HP) {v : Int32} {h1 : HP} (ho : f_X6_never a0 h = some (v, h1)) : MetP Z l yX6_never cX6_never 1 (some .int) 0 0 [.int a0] h (some (.int v)) h1 := by
  refine MetP_of ho (by decide +kernel) (Nat.le_of_ble_eq_true rfl) [(0, .int a0)] rfl (own := RX6) rfl (nm := "never") rfl ?_
  unfold f_X6_never
  refine S_iload_n dX6_never_0 rfl 0 rfl (pc' := 1) rfl ?_
  refine S_bipush dX6_never_1 (v := 60) rfl (pc' := 3) rfl ?_
  refine S_icmp_le dX6_never_3 10 rfl (pc' := 6) rfl (fun g3 => ?_) (fun g3 => ?_)
  · refine S_iload_n dX6_never_10 rfl 0 rfl (pc' := 11) rfl ?_
    exact S_iret rfl dX6_never_11
  · refine S_iconst dX6_never_6 (v := (-1)) rfl (pc' := 7) rfl ?_
    refine S_goto dX6_never_7 11 rfl ?_
    exact S_iret rfl dX6_never_11
theorem dX6_lostIn_0 : decode cX6_lostIn 0 = .ok (.aload_n 0, 1) := by decide +kernel
theorem dX6_lostIn_1 : decode cX6_lostIn 1 = .ok (.iload_n 1, 1) := by decide +kernel
theorem dX6_lostIn_2 : decode cX6_lostIn 2 = .ok (.invokevirtual 148, 3) := by decide +kernel
theorem dX6_lostIn_5 : decode cX6_lostIn 5 = .ok (.ifCond .eq 14, 3) := by decide +kernel
theorem dX6_lostIn_8 : decode cX6_lostIn 8 = .ok (.aload_n 0, 1) := by decide +kernel
theorem dX6_lostIn_9 : decode cX6_lostIn 9 = .ok (.iload_n 1, 1) := by decide +kernel
theorem dX6_lostIn_10 : decode cX6_lostIn 10 = .ok (.invokevirtual 319, 3) := by decide +kernel
theorem dX6_lostIn_13 : decode cX6_lostIn 13 = .ok (.invokestatic 322, 3) := by decide +kernel
theorem dX6_lostIn_16 : decode cX6_lostIn 16 = .ok (.goto 9, 3) := by decide +kernel
theorem dX6_lostIn_19 : decode cX6_lostIn 19 = .ok (.aload_n 0, 1) := by decide +kernel
theorem dX6_lostIn_20 : decode cX6_lostIn 20 = .ok (.bipush (-2), 2) := by decide +kernel
theorem dX6_lostIn_22 : decode cX6_lostIn 22 = .ok (.invokevirtual 108, 3) := by decide +kernel
theorem dX6_lostIn_25 : decode cX6_lostIn 25 = .ok (.ireturn, 1) := by decide +kernel
set_option maxRecDepth 100000 in
set_option maxHeartbeats 4000000 in
theorem c_X6_lostIn (Z : ZZ) (l : Launch) (t : Nat) (a1 : Int32) (h : HP) {v : Int32} {h1 : HP} (ho : f_X6_lostIn t a1 h = some (v, h1)) : MetP Z l yX6_lostIn cX6_lostIn 2 (some .int) 7 154 [.ref (zb Z + t), .int a1] h (some (.int v)) h1 := by
  refine MetP_of ho (by decide +kernel) (Nat.le_of_ble_eq_true rfl) [(0, .ref (zb Z + t)), (1, .int a1)] rfl (own := RX6) rfl (nm := "lostIn") rfl ?_
  unfold f_X6_lostIn
  refine S_aload_n dX6_lostIn_0 rfl 0 rfl (pc' := 1) rfl ?_
  refine S_iload_n dX6_lostIn_1 rfl 1 rfl (pc' := 2) rfl ?_
  refine S_invi ml_X6_148 mi_X6_isSong (ci := 6) ⟨_, rfl, rfl⟩ (by decide) dX6_lostIn_2 [.int a1] rfl (fun v h2 q => c_X6_isSong Z l _ _ _ q) ⟨Nat.le_of_ble_eq_true rfl, Nat.le_of_ble_eq_true rfl⟩ (rest := []) (Nat.le_of_ble_eq_true rfl) rfl (pc' := 5) rfl (fun x2 h2 => ?_)
  refine S_if_eq dX6_lostIn_5 19 rfl (pc' := 8) rfl (fun g5 => ?_) (fun g5 => ?_)
  · refine S_aload_n dX6_lostIn_19 rfl 0 rfl (pc' := 20) rfl ?_
    refine S_bipush dX6_lostIn_20 (v := (-2)) rfl (pc' := 22) rfl ?_
    refine S_invi ml_X6_108 mi_X6_refuse (ci := 6) ⟨_, rfl, rfl⟩ (by decide) dX6_lostIn_22 [.int (-2)] rfl (fun v h2 q => c_X6_refuse Z l _ _ _ q) ⟨Nat.le_of_ble_eq_true rfl, Nat.le_of_ble_eq_true rfl⟩ (rest := []) (Nat.le_of_ble_eq_true rfl) rfl (pc' := 25) rfl (fun x22 h22 => ?_)
    exact S_iret rfl dX6_lostIn_25
  · refine S_aload_n dX6_lostIn_8 rfl 0 rfl (pc' := 9) rfl ?_
    refine S_iload_n dX6_lostIn_9 rfl 1 rfl (pc' := 10) rfl ?_
    refine S_invi ml_X6_319 mi_X6_lostNow (ci := 6) ⟨_, rfl, rfl⟩ (by decide) dX6_lostIn_10 [.int a1] rfl (fun v h2 q => c_X6_lostNow Z l _ _ _ q) ⟨Nat.le_of_ble_eq_true rfl, Nat.le_of_ble_eq_true rfl⟩ (rest := []) (Nat.le_of_ble_eq_true rfl) rfl (pc' := 13) rfl (fun x10 h10 => ?_)
    refine S_stai ml_X6_322 ms_X6_never dX6_lostIn_13 [.int x10] rfl (fun v h2 q => c_X6_never Z l _ _ q) ⟨Nat.le_of_ble_eq_true rfl, Nat.le_of_ble_eq_true rfl⟩ (rest := []) (Nat.le_of_ble_eq_true rfl) rfl (pc' := 16) rfl (fun x13 h13 => ?_)
    refine S_goto dX6_lostIn_16 25 rfl ?_
    exact S_iret rfl dX6_lostIn_25
theorem dX6_last_0 : decode cX6_last 0 = .ok (.aload_n 0, 1) := by decide +kernel
theorem dX6_last_1 : decode cX6_last 1 = .ok (.iload_n 1, 1) := by decide +kernel
theorem dX6_last_2 : decode cX6_last 2 = .ok (.invokevirtual 148, 3) := by decide +kernel
theorem dX6_last_5 : decode cX6_last 5 = .ok (.ifCond .ne 10, 3) := by decide +kernel
theorem dX6_last_8 : decode cX6_last 8 = .ok (.aload_n 0, 1) := by decide +kernel
theorem dX6_last_9 : decode cX6_last 9 = .ok (.bipush (-2), 2) := by decide +kernel
theorem dX6_last_11 : decode cX6_last 11 = .ok (.invokevirtual 108, 3) := by decide +kernel
theorem dX6_last_14 : decode cX6_last 14 = .ok (.ireturn, 1) := by decide +kernel
theorem dX6_last_15 : decode cX6_last 15 = .ok (.aload_n 0, 1) := by decide +kernel
theorem dX6_last_16 : decode cX6_last 16 = .ok (.getfield 62, 3) := by decide +kernel
theorem dX6_last_19 : decode cX6_last 19 = .ok (.iload_n 1, 1) := by decide +kernel
theorem dX6_last_20 : decode cX6_last 20 = .ok (.iaload, 1) := by decide +kernel
theorem dX6_last_21 : decode cX6_last 21 = .ok (.ifCond .ne 13, 3) := by decide +kernel
theorem dX6_last_24 : decode cX6_last 24 = .ok (.aload_n 0, 1) := by decide +kernel
theorem dX6_last_25 : decode cX6_last 25 = .ok (.iload_n 1, 1) := by decide +kernel
theorem dX6_last_26 : decode cX6_last 26 = .ok (.invokevirtual 319, 3) := by decide +kernel
theorem dX6_last_29 : decode cX6_last 29 = .ok (.bipush 60, 2) := by decide +kernel
theorem dX6_last_31 : decode cX6_last 31 = .ok (.if_icmp .le 7, 3) := by decide +kernel
theorem dX6_last_34 : decode cX6_last 34 = .ok (.iconst (-1), 1) := by decide +kernel
theorem dX6_last_35 : decode cX6_last 35 = .ok (.goto 10, 3) := by decide +kernel
theorem dX6_last_38 : decode cX6_last 38 = .ok (.aload_n 0, 1) := by decide +kernel
theorem dX6_last_39 : decode cX6_last 39 = .ok (.getfield 288, 3) := by decide +kernel
theorem dX6_last_42 : decode cX6_last 42 = .ok (.getfield 313, 3) := by decide +kernel
theorem dX6_last_45 : decode cX6_last 45 = .ok (.ireturn, 1) := by decide +kernel
set_option maxRecDepth 100000 in
set_option maxHeartbeats 4000000 in
theorem c_X6_last (Z : ZZ) (l : Launch) (t : Nat) (a1 : Int32) (h : HP) {v : Int32} {h1 : HP} (ho : f_X6_last t a1 h = some (v, h1)) : MetP Z l yX6_last cX6_last 2 (some .int) 7 154 [.ref (zb Z + t), .int a1] h (some (.int v)) h1 := by
  refine MetP_of ho (by decide +kernel) (Nat.le_of_ble_eq_true rfl) [(0, .ref (zb Z + t)), (1, .int a1)] rfl (own := RX6) rfl (nm := "last") rfl ?_
  unfold f_X6_last
  refine S_aload_n dX6_last_0 rfl 0 rfl (pc' := 1) rfl ?_
  refine S_iload_n dX6_last_1 rfl 1 rfl (pc' := 2) rfl ?_
  refine S_invi ml_X6_148 mi_X6_isSong (ci := 6) ⟨_, rfl, rfl⟩ (by decide) dX6_last_2 [.int a1] rfl (fun v h2 q => c_X6_isSong Z l _ _ _ q) ⟨Nat.le_of_ble_eq_true rfl, Nat.le_of_ble_eq_true rfl⟩ (rest := []) (Nat.le_of_ble_eq_true rfl) rfl (pc' := 5) rfl (fun x2 h2 => ?_)
  refine S_if_ne dX6_last_5 15 rfl (pc' := 8) rfl (fun g5 => ?_) (fun g5 => ?_)
  · refine S_aload_n dX6_last_15 rfl 0 rfl (pc' := 16) rfl ?_
    refine S_getR fl_X6_62 rfl dX6_last_16 (pc' := 19) rfl (fun x16 => ?_)
    refine S_iload_n dX6_last_19 rfl 1 rfl (pc' := 20) rfl ?_
    refine S_iaload dX6_last_20 (pc' := 21) rfl (fun x20 => ?_)
    refine S_if_ne dX6_last_21 34 rfl (pc' := 24) rfl (fun g21 => ?_) (fun g21 => ?_)
    · refine S_iconst dX6_last_34 (v := (-1)) rfl (pc' := 35) rfl ?_
      refine S_goto dX6_last_35 45 rfl ?_
      exact S_iret rfl dX6_last_45
    · refine S_aload_n dX6_last_24 rfl 0 rfl (pc' := 25) rfl ?_
      refine S_iload_n dX6_last_25 rfl 1 rfl (pc' := 26) rfl ?_
      refine S_invi ml_X6_319 mi_X6_lostNow (ci := 6) ⟨_, rfl, rfl⟩ (by decide) dX6_last_26 [.int a1] rfl (fun v h2 q => c_X6_lostNow Z l _ _ _ q) ⟨Nat.le_of_ble_eq_true rfl, Nat.le_of_ble_eq_true rfl⟩ (rest := []) (Nat.le_of_ble_eq_true rfl) rfl (pc' := 29) rfl (fun x26 h26 => ?_)
      refine S_bipush dX6_last_29 (v := 60) rfl (pc' := 31) rfl ?_
      refine S_icmp_le dX6_last_31 38 rfl (pc' := 34) rfl (fun g31 => ?_) (fun g31 => ?_)
      · refine S_aload_n dX6_last_38 rfl 0 rfl (pc' := 39) rfl ?_
        refine S_getR fl_X6_288 rfl dX6_last_39 (pc' := 42) rfl (fun x39 => ?_)
        refine S_getI fl_X6_313 rfl dX6_last_42 (pc' := 45) rfl (fun x42 => ?_)
        exact S_iret rfl dX6_last_45
      · refine S_iconst dX6_last_34 (v := (-1)) rfl (pc' := 35) rfl ?_
        refine S_goto dX6_last_35 45 rfl ?_
        exact S_iret rfl dX6_last_45
  · refine S_aload_n dX6_last_8 rfl 0 rfl (pc' := 9) rfl ?_
    refine S_bipush dX6_last_9 (v := (-2)) rfl (pc' := 11) rfl ?_
    refine S_invi ml_X6_108 mi_X6_refuse (ci := 6) ⟨_, rfl, rfl⟩ (by decide) dX6_last_11 [.int (-2)] rfl (fun v h2 q => c_X6_refuse Z l _ _ _ q) ⟨Nat.le_of_ble_eq_true rfl, Nat.le_of_ble_eq_true rfl⟩ (rest := []) (Nat.le_of_ble_eq_true rfl) rfl (pc' := 14) rfl (fun x11 h11 => ?_)
    exact S_iret rfl dX6_last_14
theorem dX6_sungIn_0 : decode cX6_sungIn 0 = .ok (.aload_n 0, 1) := by decide +kernel
theorem dX6_sungIn_1 : decode cX6_sungIn 1 = .ok (.iload_n 1, 1) := by decide +kernel
theorem dX6_sungIn_2 : decode cX6_sungIn 2 = .ok (.invokevirtual 148, 3) := by decide +kernel
theorem dX6_sungIn_5 : decode cX6_sungIn 5 = .ok (.ifCond .ne 10, 3) := by decide +kernel
theorem dX6_sungIn_8 : decode cX6_sungIn 8 = .ok (.aload_n 0, 1) := by decide +kernel
theorem dX6_sungIn_9 : decode cX6_sungIn 9 = .ok (.bipush (-2), 2) := by decide +kernel
theorem dX6_sungIn_11 : decode cX6_sungIn 11 = .ok (.invokevirtual 108, 3) := by decide +kernel
theorem dX6_sungIn_14 : decode cX6_sungIn 14 = .ok (.ireturn, 1) := by decide +kernel
theorem dX6_sungIn_15 : decode cX6_sungIn 15 = .ok (.aload_n 0, 1) := by decide +kernel
theorem dX6_sungIn_16 : decode cX6_sungIn 16 = .ok (.invokevirtual 306, 3) := by decide +kernel
theorem dX6_sungIn_19 : decode cX6_sungIn 19 = .ok (.astore_n 2, 1) := by decide +kernel
theorem dX6_sungIn_20 : decode cX6_sungIn 20 = .ok (.iconst 0, 1) := by decide +kernel
theorem dX6_sungIn_21 : decode cX6_sungIn 21 = .ok (.istore_n 3, 1) := by decide +kernel
theorem dX6_sungIn_22 : decode cX6_sungIn 22 = .ok (.iload_n 3, 1) := by decide +kernel
theorem dX6_sungIn_23 : decode cX6_sungIn 23 = .ok (.bipush 60, 2) := by decide +kernel
theorem dX6_sungIn_25 : decode cX6_sungIn 25 = .ok (.if_icmp .ge 24, 3) := by decide +kernel
theorem dX6_sungIn_28 : decode cX6_sungIn 28 = .ok (.aload_n 2, 1) := by decide +kernel
theorem dX6_sungIn_29 : decode cX6_sungIn 29 = .ok (.getfield 62, 3) := by decide +kernel
theorem dX6_sungIn_32 : decode cX6_sungIn 32 = .ok (.iload_n 1, 1) := by decide +kernel
theorem dX6_sungIn_33 : decode cX6_sungIn 33 = .ok (.iaload, 1) := by decide +kernel
theorem dX6_sungIn_34 : decode cX6_sungIn 34 = .ok (.iconst 2, 1) := by decide +kernel
theorem dX6_sungIn_35 : decode cX6_sungIn 35 = .ok (.if_icmp .eq 14, 3) := by decide +kernel
theorem dX6_sungIn_38 : decode cX6_sungIn 38 = .ok (.aload_n 2, 1) := by decide +kernel
theorem dX6_sungIn_39 : decode cX6_sungIn 39 = .ok (.invokevirtual 310, 3) := by decide +kernel
theorem dX6_sungIn_42 : decode cX6_sungIn 42 = .ok (.pop, 1) := by decide +kernel
theorem dX6_sungIn_43 : decode cX6_sungIn 43 = .ok (.iinc 3 1, 3) := by decide +kernel
theorem dX6_sungIn_46 : decode cX6_sungIn 46 = .ok (.goto (-24), 3) := by decide +kernel
theorem dX6_sungIn_49 : decode cX6_sungIn 49 = .ok (.aload_n 2, 1) := by decide +kernel
theorem dX6_sungIn_50 : decode cX6_sungIn 50 = .ok (.getfield 62, 3) := by decide +kernel
theorem dX6_sungIn_53 : decode cX6_sungIn 53 = .ok (.iload_n 1, 1) := by decide +kernel
theorem dX6_sungIn_54 : decode cX6_sungIn 54 = .ok (.iaload, 1) := by decide +kernel
theorem dX6_sungIn_55 : decode cX6_sungIn 55 = .ok (.iconst 2, 1) := by decide +kernel
theorem dX6_sungIn_56 : decode cX6_sungIn 56 = .ok (.if_icmp .ne 7, 3) := by decide +kernel
theorem dX6_sungIn_59 : decode cX6_sungIn 59 = .ok (.iload_n 3, 1) := by decide +kernel
theorem dX6_sungIn_60 : decode cX6_sungIn 60 = .ok (.goto 4, 3) := by decide +kernel
theorem dX6_sungIn_63 : decode cX6_sungIn 63 = .ok (.iconst (-1), 1) := by decide +kernel
theorem dX6_sungIn_64 : decode cX6_sungIn 64 = .ok (.ireturn, 1) := by decide +kernel
set_option maxRecDepth 100000 in
set_option maxHeartbeats 4000000 in
theorem lc_X6_sungIn_22 (Z : ZZ) (l : Launch) (a1 : Int32) (a2 : Nat) {args : Array Value} {h0 h1 : HP} {v0 : Int32} (K : Int32 → HP → Option (Int32 × HP)) (F : Int32 → HP → Option (Int32 × HP))
    (hK : ∀ (b3 : Int32) (h : HP), Sim Z l cX6_sungIn RX6 4 5 111 (some .int) "sungIn" args (Mq Z args h0 h1 (some (.int v0))) h0 h1 v0 49 [(1, .int a1), (2, .ref (zb Z + a2)), (3, .int b3)] [] h (K b3 h))
    (hF : ∀ (b3 : Int32) (h : HP), Sim Z l cX6_sungIn RX6 4 5 111 (some .int) "sungIn" args (Mq Z args h0 h1 (some (.int v0))) h0 h1 v0 22 [(1, .int a1), (2, .ref (zb Z + a2)), (3, .int b3)] [] h (F b3 h)) :
    ∀ (b3 : Int32) (h : HP), Sim Z l cX6_sungIn RX6 4 5 111 (some .int) "sungIn" args (Mq Z args h0 h1 (some (.int v0))) h0 h1 v0 22 [(1, .int a1), (2, .ref (zb Z + a2)), (3, .int b3)] [] h (lb_X6_sungIn_22 a1 a2 K F b3 h) := by
  intro b3 h
  unfold lb_X6_sungIn_22
  refine S_iload_n dX6_sungIn_22 rfl 2 rfl (pc' := 23) rfl ?_
  refine S_bipush dX6_sungIn_23 (v := 60) rfl (pc' := 25) rfl ?_
  refine S_icmp_ge dX6_sungIn_25 49 rfl (pc' := 28) rfl (fun g25 => ?_) (fun g25 => ?_)
  · refine Sim.sub [0, 1, 2] rfl ?_
    exact hK _ _
  · refine S_aload_n dX6_sungIn_28 rfl 1 rfl (pc' := 29) rfl ?_
    refine S_getR fl_X6_62 rfl dX6_sungIn_29 (pc' := 32) rfl (fun x29 => ?_)
    refine S_iload_n dX6_sungIn_32 rfl 0 rfl (pc' := 33) rfl ?_
    refine S_iaload dX6_sungIn_33 (pc' := 34) rfl (fun x33 => ?_)
    refine S_iconst dX6_sungIn_34 (v := 2) rfl (pc' := 35) rfl ?_
    refine S_icmp_eq dX6_sungIn_35 49 rfl (pc' := 38) rfl (fun g35 => ?_) (fun g35 => ?_)
    · refine Sim.sub [0, 1, 2] rfl ?_
      exact hK _ _
    · refine S_aload_n dX6_sungIn_38 rfl 1 rfl (pc' := 39) rfl ?_
      refine S_invi ml_X6_310 mi_X6_passes (ci := 6) ⟨_, rfl, rfl⟩ (by decide) dX6_sungIn_39 [] rfl (fun v h2 q => c_X6_passes Z l _ _ q) ⟨Nat.le_of_ble_eq_true rfl, Nat.le_of_ble_eq_true rfl⟩ (rest := []) (Nat.le_of_ble_eq_true rfl) rfl (pc' := 42) rfl (fun x39 h39 => ?_)
      refine S_pop dX6_sungIn_42 rfl (pc' := 43) rfl ?_
      refine S_iinc dX6_sungIn_43 (q := 2) rfl (v := b3 + 1) rfl (by decide) (lo' := [(3, .int (b3 + 1)), (1, .int a1), (2, .ref (zb Z + a2))]) rfl (pc' := 46) rfl ?_
      refine S_goto dX6_sungIn_46 22 rfl ?_
      refine Sim.sub [1, 2, 0] rfl ?_
      exact hF _ _
theorem lq_X6_sungIn_22 (Z : ZZ) (l : Launch) (a1 : Int32) (a2 : Nat) {args : Array Value} {h0 h1 : HP} {v0 : Int32} (K : Int32 → HP → Option (Int32 × HP))
    (hK : ∀ (b3 : Int32) (h : HP), Sim Z l cX6_sungIn RX6 4 5 111 (some .int) "sungIn" args (Mq Z args h0 h1 (some (.int v0))) h0 h1 v0 49 [(1, .int a1), (2, .ref (zb Z + a2)), (3, .int b3)] [] h (K b3 h)) :
    ∀ (k : Nat) (b3 : Int32) (h : HP), Sim Z l cX6_sungIn RX6 4 5 111 (some .int) "sungIn" args (Mq Z args h0 h1 (some (.int v0))) h0 h1 v0 22 [(1, .int a1), (2, .ref (zb Z + a2)), (3, .int b3)] [] h (lp_X6_sungIn_22 a1 a2 K k b3 h) := by
  intro k
  induction k with
  | zero => exact fun _ _ => Sim.none
  | succ k ih => exact lc_X6_sungIn_22 Z l a1 a2 K _ hK ih
set_option maxRecDepth 100000 in
set_option maxHeartbeats 4000000 in
theorem c_X6_sungIn (Z : ZZ) (l : Launch) (t : Nat) (a1 : Int32) (h : HP) {v : Int32} {h1 : HP} (ho : f_X6_sungIn t a1 h = some (v, h1)) : MetP Z l yX6_sungIn cX6_sungIn 4 (some .int) 5 111 [.ref (zb Z + t), .int a1] h (some (.int v)) h1 := by
  refine MetP_of ho (by decide +kernel) (Nat.le_of_ble_eq_true rfl) [(0, .ref (zb Z + t)), (1, .int a1)] rfl (own := RX6) rfl (nm := "sungIn") rfl ?_
  unfold f_X6_sungIn
  refine S_aload_n dX6_sungIn_0 rfl 0 rfl (pc' := 1) rfl ?_
  refine S_iload_n dX6_sungIn_1 rfl 1 rfl (pc' := 2) rfl ?_
  refine S_invi ml_X6_148 mi_X6_isSong (ci := 6) ⟨_, rfl, rfl⟩ (by decide) dX6_sungIn_2 [.int a1] rfl (fun v h2 q => c_X6_isSong Z l _ _ _ q) ⟨Nat.le_of_ble_eq_true rfl, Nat.le_of_ble_eq_true rfl⟩ (rest := []) (Nat.le_of_ble_eq_true rfl) rfl (pc' := 5) rfl (fun x2 h2 => ?_)
  refine S_if_ne dX6_sungIn_5 15 rfl (pc' := 8) rfl (fun g5 => ?_) (fun g5 => ?_)
  · refine S_aload_n dX6_sungIn_15 rfl 0 rfl (pc' := 16) rfl ?_
    refine S_invr ml_X6_306 mi_X6_thought (ci := 6) ⟨_, rfl, rfl⟩ (by decide) dX6_sungIn_16 [] rfl (fun v h2 q => c_X6_thought Z l _ _ q) ⟨Nat.le_of_ble_eq_true rfl, Nat.le_of_ble_eq_true rfl⟩ (rest := []) (Nat.le_of_ble_eq_true rfl) rfl (pc' := 19) rfl (fun x16 h16 => ?_)
    refine S_astore_n dX6_sungIn_19 rfl (by decide) (lo' := [(2, .ref (zb Z + x16)), (0, .ref (zb Z + t)), (1, .int a1)]) rfl (pc' := 20) rfl ?_
    refine S_iconst dX6_sungIn_20 (v := 0) rfl (pc' := 21) rfl ?_
    refine S_istore_n dX6_sungIn_21 rfl (by decide) (lo' := [(3, .int 0), (2, .ref (zb Z + x16)), (0, .ref (zb Z + t)), (1, .int a1)]) rfl (pc' := 22) rfl ?_
    refine Sim.sub [3, 1, 0] rfl ?_
    refine lq_X6_sungIn_22 Z l a1 x16 _ ?_ 1000 _ _
    intro b3_22 h22_
    refine S_aload_n dX6_sungIn_49 rfl 1 rfl (pc' := 50) rfl ?_
    refine S_getR fl_X6_62 rfl dX6_sungIn_50 (pc' := 53) rfl (fun x50 => ?_)
    refine S_iload_n dX6_sungIn_53 rfl 0 rfl (pc' := 54) rfl ?_
    refine S_iaload dX6_sungIn_54 (pc' := 55) rfl (fun x54 => ?_)
    refine S_iconst dX6_sungIn_55 (v := 2) rfl (pc' := 56) rfl ?_
    refine S_icmp_ne dX6_sungIn_56 63 rfl (pc' := 59) rfl (fun g56 => ?_) (fun g56 => ?_)
    · refine S_iconst dX6_sungIn_63 (v := (-1)) rfl (pc' := 64) rfl ?_
      exact S_iret rfl dX6_sungIn_64
    · refine S_iload_n dX6_sungIn_59 rfl 2 rfl (pc' := 60) rfl ?_
      refine S_goto dX6_sungIn_60 64 rfl ?_
      exact S_iret rfl dX6_sungIn_64
  · refine S_aload_n dX6_sungIn_8 rfl 0 rfl (pc' := 9) rfl ?_
    refine S_bipush dX6_sungIn_9 (v := (-2)) rfl (pc' := 11) rfl ?_
    refine S_invi ml_X6_108 mi_X6_refuse (ci := 6) ⟨_, rfl, rfl⟩ (by decide) dX6_sungIn_11 [.int (-2)] rfl (fun v h2 q => c_X6_refuse Z l _ _ _ q) ⟨Nat.le_of_ble_eq_true rfl, Nat.le_of_ble_eq_true rfl⟩ (rest := []) (Nat.le_of_ble_eq_true rfl) rfl (pc' := 14) rfl (fun x11 h11 => ?_)
    exact S_iret rfl dX6_sungIn_14
theorem dX6_forgets_0 : decode cX6_forgets 0 = .ok (.aload_n 0, 1) := by decide +kernel
theorem dX6_forgets_1 : decode cX6_forgets 1 = .ok (.iload_n 1, 1) := by decide +kernel
theorem dX6_forgets_2 : decode cX6_forgets 2 = .ok (.invokevirtual 119, 3) := by decide +kernel
theorem dX6_forgets_5 : decode cX6_forgets 5 = .ok (.ifCond .eq 11, 3) := by decide +kernel
theorem dX6_forgets_8 : decode cX6_forgets 8 = .ok (.aload_n 0, 1) := by decide +kernel
theorem dX6_forgets_9 : decode cX6_forgets 9 = .ok (.iload_n 2, 1) := by decide +kernel
theorem dX6_forgets_10 : decode cX6_forgets 10 = .ok (.invokevirtual 148, 3) := by decide +kernel
theorem dX6_forgets_13 : decode cX6_forgets 13 = .ok (.ifCond .ne 10, 3) := by decide +kernel
theorem dX6_forgets_16 : decode cX6_forgets 16 = .ok (.aload_n 0, 1) := by decide +kernel
theorem dX6_forgets_17 : decode cX6_forgets 17 = .ok (.bipush (-2), 2) := by decide +kernel
theorem dX6_forgets_19 : decode cX6_forgets 19 = .ok (.invokevirtual 108, 3) := by decide +kernel
theorem dX6_forgets_22 : decode cX6_forgets 22 = .ok (.ireturn, 1) := by decide +kernel
theorem dX6_forgets_23 : decode cX6_forgets 23 = .ok (.aload_n 0, 1) := by decide +kernel
theorem dX6_forgets_24 : decode cX6_forgets 24 = .ok (.invokevirtual 306, 3) := by decide +kernel
theorem dX6_forgets_27 : decode cX6_forgets 27 = .ok (.astore_n 3, 1) := by decide +kernel
theorem dX6_forgets_28 : decode cX6_forgets 28 = .ok (.iconst 0, 1) := by decide +kernel
theorem dX6_forgets_29 : decode cX6_forgets 29 = .ok (.istore 4, 2) := by decide +kernel
theorem dX6_forgets_31 : decode cX6_forgets 31 = .ok (.iload 4, 2) := by decide +kernel
theorem dX6_forgets_33 : decode cX6_forgets 33 = .ok (.bipush 60, 2) := by decide +kernel
theorem dX6_forgets_35 : decode cX6_forgets 35 = .ok (.if_icmp .ge 23, 3) := by decide +kernel
theorem dX6_forgets_38 : decode cX6_forgets 38 = .ok (.aload_n 3, 1) := by decide +kernel
theorem dX6_forgets_39 : decode cX6_forgets 39 = .ok (.iload_n 1, 1) := by decide +kernel
theorem dX6_forgets_40 : decode cX6_forgets 40 = .ok (.iload_n 2, 1) := by decide +kernel
theorem dX6_forgets_41 : decode cX6_forgets 41 = .ok (.invokevirtual 267, 3) := by decide +kernel
theorem dX6_forgets_44 : decode cX6_forgets 44 = .ok (.ifCond .eq 14, 3) := by decide +kernel
theorem dX6_forgets_47 : decode cX6_forgets 47 = .ok (.aload_n 3, 1) := by decide +kernel
theorem dX6_forgets_48 : decode cX6_forgets 48 = .ok (.invokevirtual 310, 3) := by decide +kernel
theorem dX6_forgets_51 : decode cX6_forgets 51 = .ok (.pop, 1) := by decide +kernel
theorem dX6_forgets_52 : decode cX6_forgets 52 = .ok (.iinc 4 1, 3) := by decide +kernel
theorem dX6_forgets_55 : decode cX6_forgets 55 = .ok (.goto (-24), 3) := by decide +kernel
theorem dX6_forgets_58 : decode cX6_forgets 58 = .ok (.aload_n 3, 1) := by decide +kernel
theorem dX6_forgets_59 : decode cX6_forgets 59 = .ok (.iload_n 1, 1) := by decide +kernel
theorem dX6_forgets_60 : decode cX6_forgets 60 = .ok (.iload_n 2, 1) := by decide +kernel
theorem dX6_forgets_61 : decode cX6_forgets 61 = .ok (.invokevirtual 267, 3) := by decide +kernel
theorem dX6_forgets_64 : decode cX6_forgets 64 = .ok (.ifCond .eq 7, 3) := by decide +kernel
theorem dX6_forgets_67 : decode cX6_forgets 67 = .ok (.iconst (-1), 1) := by decide +kernel
theorem dX6_forgets_68 : decode cX6_forgets 68 = .ok (.goto 5, 3) := by decide +kernel
theorem dX6_forgets_71 : decode cX6_forgets 71 = .ok (.iload 4, 2) := by decide +kernel
theorem dX6_forgets_73 : decode cX6_forgets 73 = .ok (.ireturn, 1) := by decide +kernel
set_option maxRecDepth 100000 in
set_option maxHeartbeats 4000000 in
theorem lc_X6_forgets_31 (Z : ZZ) (l : Launch) (a1 : Int32) (a2 : Int32) (a3 : Nat) {args : Array Value} {h0 h1 : HP} {v0 : Int32} (K : Int32 → HP → Option (Int32 × HP)) (F : Int32 → HP → Option (Int32 × HP))
    (hK : ∀ (b4 : Int32) (h : HP), Sim Z l cX6_forgets RX6 5 5 111 (some .int) "forgets" args (Mq Z args h0 h1 (some (.int v0))) h0 h1 v0 58 [(1, .int a1), (2, .int a2), (3, .ref (zb Z + a3)), (4, .int b4)] [] h (K b4 h))
    (hF : ∀ (b4 : Int32) (h : HP), Sim Z l cX6_forgets RX6 5 5 111 (some .int) "forgets" args (Mq Z args h0 h1 (some (.int v0))) h0 h1 v0 31 [(1, .int a1), (2, .int a2), (3, .ref (zb Z + a3)), (4, .int b4)] [] h (F b4 h)) :
    ∀ (b4 : Int32) (h : HP), Sim Z l cX6_forgets RX6 5 5 111 (some .int) "forgets" args (Mq Z args h0 h1 (some (.int v0))) h0 h1 v0 31 [(1, .int a1), (2, .int a2), (3, .ref (zb Z + a3)), (4, .int b4)] [] h (lb_X6_forgets_31 a1 a2 a3 K F b4 h) := by
  intro b4 h
  unfold lb_X6_forgets_31
  refine S_iload dX6_forgets_31 3 rfl (pc' := 33) rfl ?_
  refine S_bipush dX6_forgets_33 (v := 60) rfl (pc' := 35) rfl ?_
  refine S_icmp_ge dX6_forgets_35 58 rfl (pc' := 38) rfl (fun g35 => ?_) (fun g35 => ?_)
  · refine Sim.sub [0, 1, 2, 3] rfl ?_
    exact hK _ _
  · refine S_aload_n dX6_forgets_38 rfl 2 rfl (pc' := 39) rfl ?_
    refine S_iload_n dX6_forgets_39 rfl 0 rfl (pc' := 40) rfl ?_
    refine S_iload_n dX6_forgets_40 rfl 1 rfl (pc' := 41) rfl ?_
    refine S_invi ml_X6_267 mi_X6_knowsIt (ci := 6) ⟨_, rfl, rfl⟩ (by decide) dX6_forgets_41 [.int a1, .int a2] rfl (fun v h2 q => c_X6_knowsIt Z l _ _ _ _ q) ⟨Nat.le_of_ble_eq_true rfl, Nat.le_of_ble_eq_true rfl⟩ (rest := []) (Nat.le_of_ble_eq_true rfl) rfl (pc' := 44) rfl (fun x41 h41 => ?_)
    refine S_if_eq dX6_forgets_44 58 rfl (pc' := 47) rfl (fun g44 => ?_) (fun g44 => ?_)
    · refine Sim.sub [0, 1, 2, 3] rfl ?_
      exact hK _ _
    · refine S_aload_n dX6_forgets_47 rfl 2 rfl (pc' := 48) rfl ?_
      refine S_invi ml_X6_310 mi_X6_passes (ci := 6) ⟨_, rfl, rfl⟩ (by decide) dX6_forgets_48 [] rfl (fun v h2 q => c_X6_passes Z l _ _ q) ⟨Nat.le_of_ble_eq_true rfl, Nat.le_of_ble_eq_true rfl⟩ (rest := []) (Nat.le_of_ble_eq_true rfl) rfl (pc' := 51) rfl (fun x48 h48 => ?_)
      refine S_pop dX6_forgets_51 rfl (pc' := 52) rfl ?_
      refine S_iinc dX6_forgets_52 (q := 3) rfl (v := b4 + 1) rfl (by decide) (lo' := [(4, .int (b4 + 1)), (1, .int a1), (2, .int a2), (3, .ref (zb Z + a3))]) rfl (pc' := 55) rfl ?_
      refine S_goto dX6_forgets_55 31 rfl ?_
      refine Sim.sub [1, 2, 3, 0] rfl ?_
      exact hF _ _
theorem lq_X6_forgets_31 (Z : ZZ) (l : Launch) (a1 : Int32) (a2 : Int32) (a3 : Nat) {args : Array Value} {h0 h1 : HP} {v0 : Int32} (K : Int32 → HP → Option (Int32 × HP))
    (hK : ∀ (b4 : Int32) (h : HP), Sim Z l cX6_forgets RX6 5 5 111 (some .int) "forgets" args (Mq Z args h0 h1 (some (.int v0))) h0 h1 v0 58 [(1, .int a1), (2, .int a2), (3, .ref (zb Z + a3)), (4, .int b4)] [] h (K b4 h)) :
    ∀ (k : Nat) (b4 : Int32) (h : HP), Sim Z l cX6_forgets RX6 5 5 111 (some .int) "forgets" args (Mq Z args h0 h1 (some (.int v0))) h0 h1 v0 31 [(1, .int a1), (2, .int a2), (3, .ref (zb Z + a3)), (4, .int b4)] [] h (lp_X6_forgets_31 a1 a2 a3 K k b4 h) := by
  intro k
  induction k with
  | zero => exact fun _ _ => Sim.none
  | succ k ih => exact lc_X6_forgets_31 Z l a1 a2 a3 K _ hK ih
set_option maxRecDepth 100000 in
set_option maxHeartbeats 4000000 in
theorem c_X6_forgets (Z : ZZ) (l : Launch) (t : Nat) (a1 : Int32) (a2 : Int32) (h : HP) {v : Int32} {h1 : HP} (ho : f_X6_forgets t a1 a2 h = some (v, h1)) : MetP Z l yX6_forgets cX6_forgets 5 (some .int) 5 111 [.ref (zb Z + t), .int a1, .int a2] h (some (.int v)) h1 := by
  refine MetP_of ho (by decide +kernel) (Nat.le_of_ble_eq_true rfl) [(0, .ref (zb Z + t)), (1, .int a1), (2, .int a2)] rfl (own := RX6) rfl (nm := "forgets") rfl ?_
  unfold f_X6_forgets
  refine S_aload_n dX6_forgets_0 rfl 0 rfl (pc' := 1) rfl ?_
  refine S_iload_n dX6_forgets_1 rfl 1 rfl (pc' := 2) rfl ?_
  refine S_invi ml_X6_119 mi_X6_isPerson (ci := 6) ⟨_, rfl, rfl⟩ (by decide) dX6_forgets_2 [.int a1] rfl (fun v h2 q => c_X6_isPerson Z l _ _ _ q) ⟨Nat.le_of_ble_eq_true rfl, Nat.le_of_ble_eq_true rfl⟩ (rest := []) (Nat.le_of_ble_eq_true rfl) rfl (pc' := 5) rfl (fun x2 h2 => ?_)
  refine S_if_eq dX6_forgets_5 16 rfl (pc' := 8) rfl (fun g5 => ?_) (fun g5 => ?_)
  · refine S_aload_n dX6_forgets_16 rfl 0 rfl (pc' := 17) rfl ?_
    refine S_bipush dX6_forgets_17 (v := (-2)) rfl (pc' := 19) rfl ?_
    refine S_invi ml_X6_108 mi_X6_refuse (ci := 6) ⟨_, rfl, rfl⟩ (by decide) dX6_forgets_19 [.int (-2)] rfl (fun v h2 q => c_X6_refuse Z l _ _ _ q) ⟨Nat.le_of_ble_eq_true rfl, Nat.le_of_ble_eq_true rfl⟩ (rest := []) (Nat.le_of_ble_eq_true rfl) rfl (pc' := 22) rfl (fun x19 h19 => ?_)
    exact S_iret rfl dX6_forgets_22
  · refine S_aload_n dX6_forgets_8 rfl 0 rfl (pc' := 9) rfl ?_
    refine S_iload_n dX6_forgets_9 rfl 2 rfl (pc' := 10) rfl ?_
    refine S_invi ml_X6_148 mi_X6_isSong (ci := 6) ⟨_, rfl, rfl⟩ (by decide) dX6_forgets_10 [.int a2] rfl (fun v h2 q => c_X6_isSong Z l _ _ _ q) ⟨Nat.le_of_ble_eq_true rfl, Nat.le_of_ble_eq_true rfl⟩ (rest := []) (Nat.le_of_ble_eq_true rfl) rfl (pc' := 13) rfl (fun x10 h10 => ?_)
    refine S_if_ne dX6_forgets_13 23 rfl (pc' := 16) rfl (fun g13 => ?_) (fun g13 => ?_)
    · refine S_aload_n dX6_forgets_23 rfl 0 rfl (pc' := 24) rfl ?_
      refine S_invr ml_X6_306 mi_X6_thought (ci := 6) ⟨_, rfl, rfl⟩ (by decide) dX6_forgets_24 [] rfl (fun v h2 q => c_X6_thought Z l _ _ q) ⟨Nat.le_of_ble_eq_true rfl, Nat.le_of_ble_eq_true rfl⟩ (rest := []) (Nat.le_of_ble_eq_true rfl) rfl (pc' := 27) rfl (fun x24 h24 => ?_)
      refine S_astore_n dX6_forgets_27 rfl (by decide) (lo' := [(3, .ref (zb Z + x24)), (0, .ref (zb Z + t)), (1, .int a1), (2, .int a2)]) rfl (pc' := 28) rfl ?_
      refine S_iconst dX6_forgets_28 (v := 0) rfl (pc' := 29) rfl ?_
      refine S_istore dX6_forgets_29 (by decide) (lo' := [(4, .int 0), (3, .ref (zb Z + x24)), (0, .ref (zb Z + t)), (1, .int a1), (2, .int a2)]) rfl (pc' := 31) rfl ?_
      refine Sim.sub [3, 4, 1, 0] rfl ?_
      refine lq_X6_forgets_31 Z l a1 a2 x24 _ ?_ 1000 _ _
      intro b4_31 h31_
      refine S_aload_n dX6_forgets_58 rfl 2 rfl (pc' := 59) rfl ?_
      refine S_iload_n dX6_forgets_59 rfl 0 rfl (pc' := 60) rfl ?_
      refine S_iload_n dX6_forgets_60 rfl 1 rfl (pc' := 61) rfl ?_
      refine S_invi ml_X6_267 mi_X6_knowsIt (ci := 6) ⟨_, rfl, rfl⟩ (by decide) dX6_forgets_61 [.int a1, .int a2] rfl (fun v h2 q => c_X6_knowsIt Z l _ _ _ _ q) ⟨Nat.le_of_ble_eq_true rfl, Nat.le_of_ble_eq_true rfl⟩ (rest := []) (Nat.le_of_ble_eq_true rfl) rfl (pc' := 64) rfl (fun x61 h61 => ?_)
      refine S_if_eq dX6_forgets_64 71 rfl (pc' := 67) rfl (fun g64 => ?_) (fun g64 => ?_)
      · refine S_iload dX6_forgets_71 3 rfl (pc' := 73) rfl ?_
        exact S_iret rfl dX6_forgets_73
      · refine S_iconst dX6_forgets_67 (v := (-1)) rfl (pc' := 68) rfl ?_
        refine S_goto dX6_forgets_68 73 rfl ?_
        exact S_iret rfl dX6_forgets_73
    · refine S_aload_n dX6_forgets_16 rfl 0 rfl (pc' := 17) rfl ?_
      refine S_bipush dX6_forgets_17 (v := (-2)) rfl (pc' := 19) rfl ?_
      refine S_invi ml_X6_108 mi_X6_refuse (ci := 6) ⟨_, rfl, rfl⟩ (by decide) dX6_forgets_19 [.int (-2)] rfl (fun v h2 q => c_X6_refuse Z l _ _ _ q) ⟨Nat.le_of_ble_eq_true rfl, Nat.le_of_ble_eq_true rfl⟩ (rest := []) (Nat.le_of_ble_eq_true rfl) rfl (pc' := 22) rfl (fun x19 h19 => ?_)
      exact S_iret rfl dX6_forgets_22
theorem dX6_keep_0 : decode cX6_keep 0 = .ok (.aload_n 0, 1) := by decide +kernel
theorem dX6_keep_1 : decode cX6_keep 1 = .ok (.iload_n 1, 1) := by decide +kernel
theorem dX6_keep_2 : decode cX6_keep 2 = .ok (.invokevirtual 148, 3) := by decide +kernel
theorem dX6_keep_5 : decode cX6_keep 5 = .ok (.ifCond .ne 10, 3) := by decide +kernel
theorem dX6_keep_8 : decode cX6_keep 8 = .ok (.aload_n 0, 1) := by decide +kernel
theorem dX6_keep_9 : decode cX6_keep 9 = .ok (.bipush (-2), 2) := by decide +kernel
theorem dX6_keep_11 : decode cX6_keep 11 = .ok (.invokevirtual 108, 3) := by decide +kernel
theorem dX6_keep_14 : decode cX6_keep 14 = .ok (.ireturn, 1) := by decide +kernel
theorem dX6_keep_15 : decode cX6_keep 15 = .ok (.iconst (-1), 1) := by decide +kernel
theorem dX6_keep_16 : decode cX6_keep 16 = .ok (.istore_n 2, 1) := by decide +kernel
theorem dX6_keep_17 : decode cX6_keep 17 = .ok (.bipush 61, 2) := by decide +kernel
theorem dX6_keep_19 : decode cX6_keep 19 = .ok (.istore_n 3, 1) := by decide +kernel
theorem dX6_keep_20 : decode cX6_keep 20 = .ok (.iconst 0, 1) := by decide +kernel
theorem dX6_keep_21 : decode cX6_keep 21 = .ok (.istore 4, 2) := by decide +kernel
theorem dX6_keep_23 : decode cX6_keep 23 = .ok (.iload 4, 2) := by decide +kernel
theorem dX6_keep_25 : decode cX6_keep 25 = .ok (.aload_n 0, 1) := by decide +kernel
theorem dX6_keep_26 : decode cX6_keep 26 = .ok (.getfield 92, 3) := by decide +kernel
theorem dX6_keep_29 : decode cX6_keep 29 = .ok (.if_icmp .ge 93, 3) := by decide +kernel
theorem dX6_keep_32 : decode cX6_keep 32 = .ok (.aload_n 0, 1) := by decide +kernel
theorem dX6_keep_33 : decode cX6_keep 33 = .ok (.invokevirtual 306, 3) := by decide +kernel
theorem dX6_keep_36 : decode cX6_keep 36 = .ok (.astore 5, 2) := by decide +kernel
theorem dX6_keep_38 : decode cX6_keep 38 = .ok (.iconst 0, 1) := by decide +kernel
theorem dX6_keep_39 : decode cX6_keep 39 = .ok (.istore 6, 2) := by decide +kernel
theorem dX6_keep_41 : decode cX6_keep 41 = .ok (.iload 6, 2) := by decide +kernel
theorem dX6_keep_43 : decode cX6_keep 43 = .ok (.aload_n 0, 1) := by decide +kernel
theorem dX6_keep_44 : decode cX6_keep 44 = .ok (.getfield 92, 3) := by decide +kernel
theorem dX6_keep_47 : decode cX6_keep 47 = .ok (.if_icmp .ge 26, 3) := by decide +kernel
theorem dX6_keep_50 : decode cX6_keep 50 = .ok (.aload 5, 2) := by decide +kernel
theorem dX6_keep_52 : decode cX6_keep 52 = .ok (.getfield 53, 3) := by decide +kernel
theorem dX6_keep_55 : decode cX6_keep 55 = .ok (.iload 6, 2) := by decide +kernel
theorem dX6_keep_57 : decode cX6_keep 57 = .ok (.dup2, 1) := by decide +kernel
theorem dX6_keep_58 : decode cX6_keep 58 = .ok (.iaload, 1) := by decide +kernel
theorem dX6_keep_59 : decode cX6_keep 59 = .ok (.iconst 1, 1) := by decide +kernel
theorem dX6_keep_60 : decode cX6_keep 60 = .ok (.iload 4, 2) := by decide +kernel
theorem dX6_keep_62 : decode cX6_keep 62 = .ok (.ishl, 1) := by decide +kernel
theorem dX6_keep_63 : decode cX6_keep 63 = .ok (.iconst (-1), 1) := by decide +kernel
theorem dX6_keep_64 : decode cX6_keep 64 = .ok (.ixor, 1) := by decide +kernel
theorem dX6_keep_65 : decode cX6_keep 65 = .ok (.iand, 1) := by decide +kernel
theorem dX6_keep_66 : decode cX6_keep 66 = .ok (.iastore, 1) := by decide +kernel
theorem dX6_keep_67 : decode cX6_keep 67 = .ok (.iinc 6 1, 3) := by decide +kernel
theorem dX6_keep_70 : decode cX6_keep 70 = .ok (.goto (-29), 3) := by decide +kernel
theorem dX6_keep_73 : decode cX6_keep 73 = .ok (.aload 5, 2) := by decide +kernel
theorem dX6_keep_75 : decode cX6_keep 75 = .ok (.getfield 53, 3) := by decide +kernel
theorem dX6_keep_78 : decode cX6_keep 78 = .ok (.iload 4, 2) := by decide +kernel
theorem dX6_keep_80 : decode cX6_keep 80 = .ok (.iconst 0, 1) := by decide +kernel
theorem dX6_keep_81 : decode cX6_keep 81 = .ok (.iastore, 1) := by decide +kernel
theorem dX6_keep_82 : decode cX6_keep 82 = .ok (.aload 5, 2) := by decide +kernel
theorem dX6_keep_84 : decode cX6_keep 84 = .ok (.iload_n 1, 1) := by decide +kernel
theorem dX6_keep_85 : decode cX6_keep 85 = .ok (.invokevirtual 316, 3) := by decide +kernel
theorem dX6_keep_88 : decode cX6_keep 88 = .ok (.istore 6, 2) := by decide +kernel
theorem dX6_keep_90 : decode cX6_keep 90 = .ok (.iload 6, 2) := by decide +kernel
theorem dX6_keep_92 : decode cX6_keep 92 = .ok (.iload_n 3, 1) := by decide +kernel
theorem dX6_keep_93 : decode cX6_keep 93 = .ok (.if_icmp .ge 8, 3) := by decide +kernel
theorem dX6_keep_96 : decode cX6_keep 96 = .ok (.iload 4, 2) := by decide +kernel
theorem dX6_keep_98 : decode cX6_keep 98 = .ok (.goto 4, 3) := by decide +kernel
theorem dX6_keep_101 : decode cX6_keep 101 = .ok (.iload_n 2, 1) := by decide +kernel
theorem dX6_keep_102 : decode cX6_keep 102 = .ok (.istore_n 2, 1) := by decide +kernel
theorem dX6_keep_103 : decode cX6_keep 103 = .ok (.iload 6, 2) := by decide +kernel
theorem dX6_keep_105 : decode cX6_keep 105 = .ok (.iload_n 3, 1) := by decide +kernel
theorem dX6_keep_106 : decode cX6_keep 106 = .ok (.if_icmp .ge 8, 3) := by decide +kernel
theorem dX6_keep_109 : decode cX6_keep 109 = .ok (.iload 6, 2) := by decide +kernel
theorem dX6_keep_111 : decode cX6_keep 111 = .ok (.goto 4, 3) := by decide +kernel
theorem dX6_keep_114 : decode cX6_keep 114 = .ok (.iload_n 3, 1) := by decide +kernel
theorem dX6_keep_115 : decode cX6_keep 115 = .ok (.istore_n 3, 1) := by decide +kernel
theorem dX6_keep_116 : decode cX6_keep 116 = .ok (.iinc 4 1, 3) := by decide +kernel
theorem dX6_keep_119 : decode cX6_keep 119 = .ok (.goto (-96), 3) := by decide +kernel
theorem dX6_keep_122 : decode cX6_keep 122 = .ok (.iload_n 2, 1) := by decide +kernel
theorem dX6_keep_123 : decode cX6_keep 123 = .ok (.ireturn, 1) := by decide +kernel
set_option maxRecDepth 100000 in
set_option maxHeartbeats 4000000 in
theorem lc_X6_keep_41 (Z : ZZ) (l : Launch) (a0 : Nat) (a1 : Int32) (a2 : Int32) (a3 : Int32) (a4 : Int32) (a5 : Nat) {args : Array Value} {h0 h1 : HP} {v0 : Int32} (K : HP → Option (Int32 × HP)) (F : Int32 → HP → Option (Int32 × HP))
    (hK : ∀ (h : HP), Sim Z l cX6_keep RX6 7 6 133 (some .int) "keep" args (Mq Z args h0 h1 (some (.int v0))) h0 h1 v0 73 [(0, .ref (zb Z + a0)), (1, .int a1), (2, .int a2), (3, .int a3), (4, .int a4), (5, .ref (zb Z + a5))] [] h (K h))
    (hF : ∀ (b6 : Int32) (h : HP), Sim Z l cX6_keep RX6 7 6 133 (some .int) "keep" args (Mq Z args h0 h1 (some (.int v0))) h0 h1 v0 41 [(0, .ref (zb Z + a0)), (1, .int a1), (2, .int a2), (3, .int a3), (4, .int a4), (5, .ref (zb Z + a5)), (6, .int b6)] [] h (F b6 h)) :
    ∀ (b6 : Int32) (h : HP), Sim Z l cX6_keep RX6 7 6 133 (some .int) "keep" args (Mq Z args h0 h1 (some (.int v0))) h0 h1 v0 41 [(0, .ref (zb Z + a0)), (1, .int a1), (2, .int a2), (3, .int a3), (4, .int a4), (5, .ref (zb Z + a5)), (6, .int b6)] [] h (lb_X6_keep_41 a0 a1 a2 a3 a4 a5 K F b6 h) := by
  intro b6 h
  unfold lb_X6_keep_41
  refine S_iload dX6_keep_41 6 rfl (pc' := 43) rfl ?_
  refine S_aload_n dX6_keep_43 rfl 0 rfl (pc' := 44) rfl ?_
  refine S_getI fl_X6_92 rfl dX6_keep_44 (pc' := 47) rfl (fun x44 => ?_)
  refine S_icmp_ge dX6_keep_47 73 rfl (pc' := 50) rfl (fun g47 => ?_) (fun g47 => ?_)
  · refine Sim.sub [0, 1, 2, 3, 4, 5] rfl ?_
    exact hK _
  · refine S_aload dX6_keep_50 5 rfl (pc' := 52) rfl ?_
    refine S_getR fl_X6_53 rfl dX6_keep_52 (pc' := 55) rfl (fun x52 => ?_)
    refine S_iload dX6_keep_55 6 rfl (pc' := 57) rfl ?_
    refine S_dup2 dX6_keep_57 rfl rfl (pc' := 58) rfl ?_
    refine S_iaload dX6_keep_58 (pc' := 59) rfl (fun x58 => ?_)
    refine S_iconst dX6_keep_59 (v := 1) rfl (pc' := 60) rfl ?_
    refine S_iload dX6_keep_60 4 rfl (pc' := 62) rfl ?_
    refine S_ishl dX6_keep_62 (pc' := 63) rfl ?_
    refine S_iconst dX6_keep_63 (v := (-1)) rfl (pc' := 64) rfl ?_
    refine S_ixor dX6_keep_64 (pc' := 65) rfl ?_
    refine S_iand dX6_keep_65 (pc' := 66) rfl ?_
    refine S_iastore dX6_keep_66 (pc' := 67) rfl (fun h66 => ?_)
    refine S_iinc dX6_keep_67 (q := 6) rfl (v := b6 + 1) rfl (by decide) (lo' := [(6, .int (b6 + 1)), (0, .ref (zb Z + a0)), (1, .int a1), (2, .int a2), (3, .int a3), (4, .int a4), (5, .ref (zb Z + a5))]) rfl (pc' := 70) rfl ?_
    refine S_goto dX6_keep_70 41 rfl ?_
    refine Sim.sub [1, 2, 3, 4, 5, 6, 0] rfl ?_
    exact hF _ _
theorem lq_X6_keep_41 (Z : ZZ) (l : Launch) (a0 : Nat) (a1 : Int32) (a2 : Int32) (a3 : Int32) (a4 : Int32) (a5 : Nat) {args : Array Value} {h0 h1 : HP} {v0 : Int32} (K : HP → Option (Int32 × HP))
    (hK : ∀ (h : HP), Sim Z l cX6_keep RX6 7 6 133 (some .int) "keep" args (Mq Z args h0 h1 (some (.int v0))) h0 h1 v0 73 [(0, .ref (zb Z + a0)), (1, .int a1), (2, .int a2), (3, .int a3), (4, .int a4), (5, .ref (zb Z + a5))] [] h (K h)) :
    ∀ (k : Nat) (b6 : Int32) (h : HP), Sim Z l cX6_keep RX6 7 6 133 (some .int) "keep" args (Mq Z args h0 h1 (some (.int v0))) h0 h1 v0 41 [(0, .ref (zb Z + a0)), (1, .int a1), (2, .int a2), (3, .int a3), (4, .int a4), (5, .ref (zb Z + a5)), (6, .int b6)] [] h (lp_X6_keep_41 a0 a1 a2 a3 a4 a5 K k b6 h) := by
  intro k
  induction k with
  | zero => exact fun _ _ => Sim.none
  | succ k ih => exact lc_X6_keep_41 Z l a0 a1 a2 a3 a4 a5 K _ hK ih
set_option maxRecDepth 100000 in
set_option maxHeartbeats 4000000 in
theorem lc_X6_keep_23 (Z : ZZ) (l : Launch) (a0 : Nat) (a1 : Int32) {args : Array Value} {h0 h1 : HP} {v0 : Int32} (K : Int32 → HP → Option (Int32 × HP)) (F : Int32 → Int32 → Int32 → HP → Option (Int32 × HP))
    (hK : ∀ (b2 : Int32) (h : HP), Sim Z l cX6_keep RX6 7 6 133 (some .int) "keep" args (Mq Z args h0 h1 (some (.int v0))) h0 h1 v0 122 [(2, .int b2)] [] h (K b2 h))
    (hF : ∀ (b2 : Int32) (b3 : Int32) (b4 : Int32) (h : HP), Sim Z l cX6_keep RX6 7 6 133 (some .int) "keep" args (Mq Z args h0 h1 (some (.int v0))) h0 h1 v0 23 [(0, .ref (zb Z + a0)), (1, .int a1), (2, .int b2), (3, .int b3), (4, .int b4)] [] h (F b2 b3 b4 h)) :
    ∀ (b2 : Int32) (b3 : Int32) (b4 : Int32) (h : HP), Sim Z l cX6_keep RX6 7 6 133 (some .int) "keep" args (Mq Z args h0 h1 (some (.int v0))) h0 h1 v0 23 [(0, .ref (zb Z + a0)), (1, .int a1), (2, .int b2), (3, .int b3), (4, .int b4)] [] h (lb_X6_keep_23 a0 a1 K F b2 b3 b4 h) := by
  intro b2 b3 b4 h
  unfold lb_X6_keep_23
  refine S_iload dX6_keep_23 4 rfl (pc' := 25) rfl ?_
  refine S_aload_n dX6_keep_25 rfl 0 rfl (pc' := 26) rfl ?_
  refine S_getI fl_X6_92 rfl dX6_keep_26 (pc' := 29) rfl (fun x26 => ?_)
  refine S_icmp_ge dX6_keep_29 122 rfl (pc' := 32) rfl (fun g29 => ?_) (fun g29 => ?_)
  · refine Sim.sub [2] rfl ?_
    exact hK _ _
  · refine S_aload_n dX6_keep_32 rfl 0 rfl (pc' := 33) rfl ?_
    refine S_invr ml_X6_306 mi_X6_thought (ci := 6) ⟨_, rfl, rfl⟩ (by decide) dX6_keep_33 [] rfl (fun v h2 q => c_X6_thought Z l _ _ q) ⟨Nat.le_of_ble_eq_true rfl, Nat.le_of_ble_eq_true rfl⟩ (rest := []) (Nat.le_of_ble_eq_true rfl) rfl (pc' := 36) rfl (fun x33 h33 => ?_)
    refine S_astore dX6_keep_36 (by decide) (lo' := [(5, .ref (zb Z + x33)), (0, .ref (zb Z + a0)), (1, .int a1), (2, .int b2), (3, .int b3), (4, .int b4)]) rfl (pc' := 38) rfl ?_
    refine S_iconst dX6_keep_38 (v := 0) rfl (pc' := 39) rfl ?_
    refine S_istore dX6_keep_39 (by decide) (lo' := [(6, .int 0), (5, .ref (zb Z + x33)), (0, .ref (zb Z + a0)), (1, .int a1), (2, .int b2), (3, .int b3), (4, .int b4)]) rfl (pc' := 41) rfl ?_
    refine Sim.sub [2, 3, 4, 5, 6, 1, 0] rfl ?_
    refine lq_X6_keep_41 Z l a0 a1 b2 b3 b4 x33 _ ?_ 1000 _ _
    intro h41_
    refine S_aload dX6_keep_73 5 rfl (pc' := 75) rfl ?_
    refine S_getR fl_X6_53 rfl dX6_keep_75 (pc' := 78) rfl (fun x75 => ?_)
    refine S_iload dX6_keep_78 4 rfl (pc' := 80) rfl ?_
    refine S_iconst dX6_keep_80 (v := 0) rfl (pc' := 81) rfl ?_
    refine S_iastore dX6_keep_81 (pc' := 82) rfl (fun h81 => ?_)
    refine S_aload dX6_keep_82 5 rfl (pc' := 84) rfl ?_
    refine S_iload_n dX6_keep_84 rfl 1 rfl (pc' := 85) rfl ?_
    refine S_invi ml_X6_316 mi_X6_runsOut (ci := 6) ⟨_, rfl, rfl⟩ (by decide) dX6_keep_85 [.int a1] rfl (fun v h2 q => c_X6_runsOut Z l _ _ _ q) ⟨Nat.le_of_ble_eq_true rfl, Nat.le_of_ble_eq_true rfl⟩ (rest := []) (Nat.le_of_ble_eq_true rfl) rfl (pc' := 88) rfl (fun x85 h85 => ?_)
    refine S_istore dX6_keep_88 (by decide) (lo' := [(6, .int x85), (0, .ref (zb Z + a0)), (1, .int a1), (2, .int b2), (3, .int b3), (4, .int b4), (5, .ref (zb Z + x33))]) rfl (pc' := 90) rfl ?_
    refine S_iload dX6_keep_90 0 rfl (pc' := 92) rfl ?_
    refine S_iload_n dX6_keep_92 rfl 4 rfl (pc' := 93) rfl ?_
    refine S_icmp_ge dX6_keep_93 101 rfl (pc' := 96) rfl (fun g93 => ?_) (fun g93 => ?_)
    · refine S_iload_n dX6_keep_101 rfl 3 rfl (pc' := 102) rfl ?_
      refine S_istore_n dX6_keep_102 rfl (by decide) (lo' := [(2, .int b2), (6, .int x85), (0, .ref (zb Z + a0)), (1, .int a1), (3, .int b3), (4, .int b4), (5, .ref (zb Z + x33))]) rfl (pc' := 103) rfl ?_
      refine S_iload dX6_keep_103 1 rfl (pc' := 105) rfl ?_
      refine S_iload_n dX6_keep_105 rfl 4 rfl (pc' := 106) rfl ?_
      refine S_icmp_ge_J dX6_keep_106 114 rfl (pc' := 109) rfl g93 ?_
      refine S_iload_n dX6_keep_114 rfl 4 rfl (pc' := 115) rfl ?_
      refine S_istore_n dX6_keep_115 rfl (by decide) (lo' := [(3, .int b3), (2, .int b2), (6, .int x85), (0, .ref (zb Z + a0)), (1, .int a1), (4, .int b4), (5, .ref (zb Z + x33))]) rfl (pc' := 116) rfl ?_
      refine S_iinc dX6_keep_116 (q := 5) rfl (v := b4 + 1) rfl (by decide) (lo' := [(4, .int (b4 + 1)), (3, .int b3), (2, .int b2), (6, .int x85), (0, .ref (zb Z + a0)), (1, .int a1), (5, .ref (zb Z + x33))]) rfl (pc' := 119) rfl ?_
      refine S_goto dX6_keep_119 23 rfl ?_
      refine Sim.sub [4, 5, 2, 1, 0] rfl ?_
      exact hF _ _ _ _
    · refine S_iload dX6_keep_96 5 rfl (pc' := 98) rfl ?_
      refine S_goto dX6_keep_98 102 rfl ?_
      refine S_istore_n dX6_keep_102 rfl (by decide) (lo' := [(2, .int b4), (6, .int x85), (0, .ref (zb Z + a0)), (1, .int a1), (3, .int b3), (4, .int b4), (5, .ref (zb Z + x33))]) rfl (pc' := 103) rfl ?_
      refine S_iload dX6_keep_103 1 rfl (pc' := 105) rfl ?_
      refine S_iload_n dX6_keep_105 rfl 4 rfl (pc' := 106) rfl ?_
      refine S_icmp_ge_N dX6_keep_106 114 rfl (pc' := 109) rfl g93 ?_
      refine S_iload dX6_keep_109 1 rfl (pc' := 111) rfl ?_
      refine S_goto dX6_keep_111 115 rfl ?_
      refine S_istore_n dX6_keep_115 rfl (by decide) (lo' := [(3, .int x85), (2, .int b4), (6, .int x85), (0, .ref (zb Z + a0)), (1, .int a1), (4, .int b4), (5, .ref (zb Z + x33))]) rfl (pc' := 116) rfl ?_
      refine S_iinc dX6_keep_116 (q := 5) rfl (v := b4 + 1) rfl (by decide) (lo' := [(4, .int (b4 + 1)), (3, .int x85), (2, .int b4), (6, .int x85), (0, .ref (zb Z + a0)), (1, .int a1), (5, .ref (zb Z + x33))]) rfl (pc' := 119) rfl ?_
      refine S_goto dX6_keep_119 23 rfl ?_
      refine Sim.sub [4, 5, 2, 1, 0] rfl ?_
      exact hF _ _ _ _
theorem lq_X6_keep_23 (Z : ZZ) (l : Launch) (a0 : Nat) (a1 : Int32) {args : Array Value} {h0 h1 : HP} {v0 : Int32} (K : Int32 → HP → Option (Int32 × HP))
    (hK : ∀ (b2 : Int32) (h : HP), Sim Z l cX6_keep RX6 7 6 133 (some .int) "keep" args (Mq Z args h0 h1 (some (.int v0))) h0 h1 v0 122 [(2, .int b2)] [] h (K b2 h)) :
    ∀ (k : Nat) (b2 : Int32) (b3 : Int32) (b4 : Int32) (h : HP), Sim Z l cX6_keep RX6 7 6 133 (some .int) "keep" args (Mq Z args h0 h1 (some (.int v0))) h0 h1 v0 23 [(0, .ref (zb Z + a0)), (1, .int a1), (2, .int b2), (3, .int b3), (4, .int b4)] [] h (lp_X6_keep_23 a0 a1 K k b2 b3 b4 h) := by
  intro k
  induction k with
  | zero => exact fun _ _ _ _ => Sim.none
  | succ k ih => exact lc_X6_keep_23 Z l a0 a1 K _ hK ih
set_option maxRecDepth 100000 in
set_option maxHeartbeats 4000000 in
theorem c_X6_keep (Z : ZZ) (l : Launch) (t : Nat) (a1 : Int32) (h : HP) {v : Int32} {h1 : HP} (ho : f_X6_keep t a1 h = some (v, h1)) : MetP Z l yX6_keep cX6_keep 7 (some .int) 6 133 [.ref (zb Z + t), .int a1] h (some (.int v)) h1 := by
  refine MetP_of ho (by decide +kernel) (Nat.le_of_ble_eq_true rfl) [(0, .ref (zb Z + t)), (1, .int a1)] rfl (own := RX6) rfl (nm := "keep") rfl ?_
  unfold f_X6_keep
  refine S_aload_n dX6_keep_0 rfl 0 rfl (pc' := 1) rfl ?_
  refine S_iload_n dX6_keep_1 rfl 1 rfl (pc' := 2) rfl ?_
  refine S_invi ml_X6_148 mi_X6_isSong (ci := 6) ⟨_, rfl, rfl⟩ (by decide) dX6_keep_2 [.int a1] rfl (fun v h2 q => c_X6_isSong Z l _ _ _ q) ⟨Nat.le_of_ble_eq_true rfl, Nat.le_of_ble_eq_true rfl⟩ (rest := []) (Nat.le_of_ble_eq_true rfl) rfl (pc' := 5) rfl (fun x2 h2 => ?_)
  refine S_if_ne dX6_keep_5 15 rfl (pc' := 8) rfl (fun g5 => ?_) (fun g5 => ?_)
  · refine S_iconst dX6_keep_15 (v := (-1)) rfl (pc' := 16) rfl ?_
    refine S_istore_n dX6_keep_16 rfl (by decide) (lo' := [(2, .int (-1)), (0, .ref (zb Z + t)), (1, .int a1)]) rfl (pc' := 17) rfl ?_
    refine S_bipush dX6_keep_17 (v := 61) rfl (pc' := 19) rfl ?_
    refine S_istore_n dX6_keep_19 rfl (by decide) (lo' := [(3, .int 61), (2, .int (-1)), (0, .ref (zb Z + t)), (1, .int a1)]) rfl (pc' := 20) rfl ?_
    refine S_iconst dX6_keep_20 (v := 0) rfl (pc' := 21) rfl ?_
    refine S_istore dX6_keep_21 (by decide) (lo' := [(4, .int 0), (3, .int 61), (2, .int (-1)), (0, .ref (zb Z + t)), (1, .int a1)]) rfl (pc' := 23) rfl ?_
    refine Sim.sub [3, 4, 2, 1, 0] rfl ?_
    refine lq_X6_keep_23 Z l t a1 _ ?_ 1000 _ _ _ _
    intro b2_23 h23_
    refine S_iload_n dX6_keep_122 rfl 0 rfl (pc' := 123) rfl ?_
    exact S_iret rfl dX6_keep_123
  · refine S_aload_n dX6_keep_8 rfl 0 rfl (pc' := 9) rfl ?_
    refine S_bipush dX6_keep_9 (v := (-2)) rfl (pc' := 11) rfl ?_
    refine S_invi ml_X6_108 mi_X6_refuse (ci := 6) ⟨_, rfl, rfl⟩ (by decide) dX6_keep_11 [.int (-2)] rfl (fun v h2 q => c_X6_refuse Z l _ _ _ q) ⟨Nat.le_of_ble_eq_true rfl, Nat.le_of_ble_eq_true rfl⟩ (rest := []) (Nat.le_of_ble_eq_true rfl) rfl (pc' := 14) rfl (fun x11 h11 => ?_)
    exact S_iret rfl dX6_keep_14
theorem dX6_workFor_0 : decode cX6_workFor 0 = .ok (.aload_n 0, 1) := by decide +kernel
theorem dX6_workFor_1 : decode cX6_workFor 1 = .ok (.iload_n 1, 1) := by decide +kernel
theorem dX6_workFor_2 : decode cX6_workFor 2 = .ok (.invokevirtual 148, 3) := by decide +kernel
theorem dX6_workFor_5 : decode cX6_workFor 5 = .ok (.ifCond .eq 15, 3) := by decide +kernel
theorem dX6_workFor_8 : decode cX6_workFor 8 = .ok (.iload_n 2, 1) := by decide +kernel
theorem dX6_workFor_9 : decode cX6_workFor 9 = .ok (.i2l, 1) := by decide +kernel
theorem dX6_workFor_10 : decode cX6_workFor 10 = .ok (.lconst 0, 1) := by decide +kernel
theorem dX6_workFor_11 : decode cX6_workFor 11 = .ok (.ldc2_w 304, 3) := by decide +kernel
theorem dX6_workFor_14 : decode cX6_workFor 14 = .ok (.invokestatic 95, 3) := by decide +kernel
theorem dX6_workFor_17 : decode cX6_workFor 17 = .ok (.ifCond .ne 10, 3) := by decide +kernel
theorem dX6_workFor_20 : decode cX6_workFor 20 = .ok (.aload_n 0, 1) := by decide +kernel
theorem dX6_workFor_21 : decode cX6_workFor 21 = .ok (.bipush (-2), 2) := by decide +kernel
theorem dX6_workFor_23 : decode cX6_workFor 23 = .ok (.invokevirtual 108, 3) := by decide +kernel
theorem dX6_workFor_26 : decode cX6_workFor 26 = .ok (.ireturn, 1) := by decide +kernel
theorem dX6_workFor_27 : decode cX6_workFor 27 = .ok (.iconst (-1), 1) := by decide +kernel
theorem dX6_workFor_28 : decode cX6_workFor 28 = .ok (.istore_n 3, 1) := by decide +kernel
theorem dX6_workFor_29 : decode cX6_workFor 29 = .ok (.bipush 9, 2) := by decide +kernel
theorem dX6_workFor_31 : decode cX6_workFor 31 = .ok (.istore 4, 2) := by decide +kernel
theorem dX6_workFor_33 : decode cX6_workFor 33 = .ok (.iload 4, 2) := by decide +kernel
theorem dX6_workFor_35 : decode cX6_workFor 35 = .ok (.ifCond .lt 39, 3) := by decide +kernel
theorem dX6_workFor_38 : decode cX6_workFor 38 = .ok (.aload_n 0, 1) := by decide +kernel
theorem dX6_workFor_39 : decode cX6_workFor 39 = .ok (.invokevirtual 306, 3) := by decide +kernel
theorem dX6_workFor_42 : decode cX6_workFor 42 = .ok (.astore 5, 2) := by decide +kernel
theorem dX6_workFor_44 : decode cX6_workFor 44 = .ok (.aload 5, 2) := by decide +kernel
theorem dX6_workFor_46 : decode cX6_workFor 46 = .ok (.iload 4, 2) := by decide +kernel
theorem dX6_workFor_48 : decode cX6_workFor 48 = .ok (.putfield 37, 3) := by decide +kernel
theorem dX6_workFor_51 : decode cX6_workFor 51 = .ok (.aload 5, 2) := by decide +kernel
theorem dX6_workFor_53 : decode cX6_workFor 53 = .ok (.iload_n 1, 1) := by decide +kernel
theorem dX6_workFor_54 : decode cX6_workFor 54 = .ok (.invokevirtual 316, 3) := by decide +kernel
theorem dX6_workFor_57 : decode cX6_workFor 57 = .ok (.iload_n 2, 1) := by decide +kernel
theorem dX6_workFor_58 : decode cX6_workFor 58 = .ok (.if_icmp .gt 8, 3) := by decide +kernel
theorem dX6_workFor_61 : decode cX6_workFor 61 = .ok (.iload 4, 2) := by decide +kernel
theorem dX6_workFor_63 : decode cX6_workFor 63 = .ok (.goto 4, 3) := by decide +kernel
theorem dX6_workFor_66 : decode cX6_workFor 66 = .ok (.iload_n 3, 1) := by decide +kernel
theorem dX6_workFor_67 : decode cX6_workFor 67 = .ok (.istore_n 3, 1) := by decide +kernel
theorem dX6_workFor_68 : decode cX6_workFor 68 = .ok (.iinc 4 (-1), 3) := by decide +kernel
theorem dX6_workFor_71 : decode cX6_workFor 71 = .ok (.goto (-38), 3) := by decide +kernel
theorem dX6_workFor_74 : decode cX6_workFor 74 = .ok (.iload_n 3, 1) := by decide +kernel
theorem dX6_workFor_75 : decode cX6_workFor 75 = .ok (.ireturn, 1) := by decide +kernel
set_option maxRecDepth 100000 in
set_option maxHeartbeats 4000000 in
theorem lc_X6_workFor_33 (Z : ZZ) (l : Launch) (a0 : Nat) (a1 : Int32) (a2 : Int32) {args : Array Value} {h0 h1 : HP} {v0 : Int32} (K : Int32 → HP → Option (Int32 × HP)) (F : Int32 → Int32 → HP → Option (Int32 × HP))
    (hK : ∀ (b3 : Int32) (h : HP), Sim Z l cX6_workFor RX6 6 6 133 (some .int) "workFor" args (Mq Z args h0 h1 (some (.int v0))) h0 h1 v0 74 [(3, .int b3)] [] h (K b3 h))
    (hF : ∀ (b3 : Int32) (b4 : Int32) (h : HP), Sim Z l cX6_workFor RX6 6 6 133 (some .int) "workFor" args (Mq Z args h0 h1 (some (.int v0))) h0 h1 v0 33 [(0, .ref (zb Z + a0)), (1, .int a1), (2, .int a2), (3, .int b3), (4, .int b4)] [] h (F b3 b4 h)) :
    ∀ (b3 : Int32) (b4 : Int32) (h : HP), Sim Z l cX6_workFor RX6 6 6 133 (some .int) "workFor" args (Mq Z args h0 h1 (some (.int v0))) h0 h1 v0 33 [(0, .ref (zb Z + a0)), (1, .int a1), (2, .int a2), (3, .int b3), (4, .int b4)] [] h (lb_X6_workFor_33 a0 a1 a2 K F b3 b4 h) := by
  intro b3 b4 h
  unfold lb_X6_workFor_33
  refine S_iload dX6_workFor_33 4 rfl (pc' := 35) rfl ?_
  refine S_if_lt dX6_workFor_35 74 rfl (pc' := 38) rfl (fun g35 => ?_) (fun g35 => ?_)
  · refine Sim.sub [3] rfl ?_
    exact hK _ _
  · refine S_aload_n dX6_workFor_38 rfl 0 rfl (pc' := 39) rfl ?_
    refine S_invr ml_X6_306 mi_X6_thought (ci := 6) ⟨_, rfl, rfl⟩ (by decide) dX6_workFor_39 [] rfl (fun v h2 q => c_X6_thought Z l _ _ q) ⟨Nat.le_of_ble_eq_true rfl, Nat.le_of_ble_eq_true rfl⟩ (rest := []) (Nat.le_of_ble_eq_true rfl) rfl (pc' := 42) rfl (fun x39 h39 => ?_)
    refine S_astore dX6_workFor_42 (by decide) (lo' := [(5, .ref (zb Z + x39)), (0, .ref (zb Z + a0)), (1, .int a1), (2, .int a2), (3, .int b3), (4, .int b4)]) rfl (pc' := 44) rfl ?_
    refine S_aload dX6_workFor_44 0 rfl (pc' := 46) rfl ?_
    refine S_iload dX6_workFor_46 5 rfl (pc' := 48) rfl ?_
    refine S_putI fl_X6_37 (by decide) rfl dX6_workFor_48 (pc' := 51) rfl (fun h48 => ?_)
    refine S_aload dX6_workFor_51 0 rfl (pc' := 53) rfl ?_
    refine S_iload_n dX6_workFor_53 rfl 2 rfl (pc' := 54) rfl ?_
    refine S_invi ml_X6_316 mi_X6_runsOut (ci := 6) ⟨_, rfl, rfl⟩ (by decide) dX6_workFor_54 [.int a1] rfl (fun v h2 q => c_X6_runsOut Z l _ _ _ q) ⟨Nat.le_of_ble_eq_true rfl, Nat.le_of_ble_eq_true rfl⟩ (rest := []) (Nat.le_of_ble_eq_true rfl) rfl (pc' := 57) rfl (fun x54 h54 => ?_)
    refine S_iload_n dX6_workFor_57 rfl 3 rfl (pc' := 58) rfl ?_
    refine S_icmp_gt dX6_workFor_58 66 rfl (pc' := 61) rfl (fun g58 => ?_) (fun g58 => ?_)
    · refine S_iload_n dX6_workFor_66 rfl 4 rfl (pc' := 67) rfl ?_
      refine S_istore_n dX6_workFor_67 rfl (by decide) (lo' := [(3, .int b3), (5, .ref (zb Z + x39)), (0, .ref (zb Z + a0)), (1, .int a1), (2, .int a2), (4, .int b4)]) rfl (pc' := 68) rfl ?_
      refine S_iinc dX6_workFor_68 (q := 5) rfl (v := b4 + (-1)) rfl (by decide) (lo' := [(4, .int (b4 + (-1))), (3, .int b3), (5, .ref (zb Z + x39)), (0, .ref (zb Z + a0)), (1, .int a1), (2, .int a2)]) rfl (pc' := 71) rfl ?_
      refine S_goto dX6_workFor_71 33 rfl ?_
      refine Sim.sub [3, 4, 5, 1, 0] rfl ?_
      exact hF _ _ _
    · refine S_iload dX6_workFor_61 5 rfl (pc' := 63) rfl ?_
      refine S_goto dX6_workFor_63 67 rfl ?_
      refine S_istore_n dX6_workFor_67 rfl (by decide) (lo' := [(3, .int b4), (5, .ref (zb Z + x39)), (0, .ref (zb Z + a0)), (1, .int a1), (2, .int a2), (4, .int b4)]) rfl (pc' := 68) rfl ?_
      refine S_iinc dX6_workFor_68 (q := 5) rfl (v := b4 + (-1)) rfl (by decide) (lo' := [(4, .int (b4 + (-1))), (3, .int b4), (5, .ref (zb Z + x39)), (0, .ref (zb Z + a0)), (1, .int a1), (2, .int a2)]) rfl (pc' := 71) rfl ?_
      refine S_goto dX6_workFor_71 33 rfl ?_
      refine Sim.sub [3, 4, 5, 1, 0] rfl ?_
      exact hF _ _ _
theorem lq_X6_workFor_33 (Z : ZZ) (l : Launch) (a0 : Nat) (a1 : Int32) (a2 : Int32) {args : Array Value} {h0 h1 : HP} {v0 : Int32} (K : Int32 → HP → Option (Int32 × HP))
    (hK : ∀ (b3 : Int32) (h : HP), Sim Z l cX6_workFor RX6 6 6 133 (some .int) "workFor" args (Mq Z args h0 h1 (some (.int v0))) h0 h1 v0 74 [(3, .int b3)] [] h (K b3 h)) :
    ∀ (k : Nat) (b3 : Int32) (b4 : Int32) (h : HP), Sim Z l cX6_workFor RX6 6 6 133 (some .int) "workFor" args (Mq Z args h0 h1 (some (.int v0))) h0 h1 v0 33 [(0, .ref (zb Z + a0)), (1, .int a1), (2, .int a2), (3, .int b3), (4, .int b4)] [] h (lp_X6_workFor_33 a0 a1 a2 K k b3 b4 h) := by
  intro k
  induction k with
  | zero => exact fun _ _ _ => Sim.none
  | succ k ih => exact lc_X6_workFor_33 Z l a0 a1 a2 K _ hK ih
set_option maxRecDepth 100000 in
set_option maxHeartbeats 4000000 in
theorem c_X6_workFor (Z : ZZ) (l : Launch) (t : Nat) (a1 : Int32) (a2 : Int32) (h : HP) {v : Int32} {h1 : HP} (ho : f_X6_workFor t a1 a2 h = some (v, h1)) : MetP Z l yX6_workFor cX6_workFor 6 (some .int) 6 133 [.ref (zb Z + t), .int a1, .int a2] h (some (.int v)) h1 := by
  refine MetP_of ho (by decide +kernel) (Nat.le_of_ble_eq_true rfl) [(0, .ref (zb Z + t)), (1, .int a1), (2, .int a2)] rfl (own := RX6) rfl (nm := "workFor") rfl ?_
  unfold f_X6_workFor
  refine S_aload_n dX6_workFor_0 rfl 0 rfl (pc' := 1) rfl ?_
  refine S_iload_n dX6_workFor_1 rfl 1 rfl (pc' := 2) rfl ?_
  refine S_invi ml_X6_148 mi_X6_isSong (ci := 6) ⟨_, rfl, rfl⟩ (by decide) dX6_workFor_2 [.int a1] rfl (fun v h2 q => c_X6_isSong Z l _ _ _ q) ⟨Nat.le_of_ble_eq_true rfl, Nat.le_of_ble_eq_true rfl⟩ (rest := []) (Nat.le_of_ble_eq_true rfl) rfl (pc' := 5) rfl (fun x2 h2 => ?_)
  refine S_if_eq dX6_workFor_5 20 rfl (pc' := 8) rfl (fun g5 => ?_) (fun g5 => ?_)
  · refine S_aload_n dX6_workFor_20 rfl 0 rfl (pc' := 21) rfl ?_
    refine S_bipush dX6_workFor_21 (v := (-2)) rfl (pc' := 23) rfl ?_
    refine S_invi ml_X6_108 mi_X6_refuse (ci := 6) ⟨_, rfl, rfl⟩ (by decide) dX6_workFor_23 [.int (-2)] rfl (fun v h2 q => c_X6_refuse Z l _ _ _ q) ⟨Nat.le_of_ble_eq_true rfl, Nat.le_of_ble_eq_true rfl⟩ (rest := []) (Nat.le_of_ble_eq_true rfl) rfl (pc' := 26) rfl (fun x23 h23 => ?_)
    exact S_iret rfl dX6_workFor_26
  · refine S_iload_n dX6_workFor_8 rfl 2 rfl (pc' := 9) rfl ?_
    refine S_i2l dX6_workFor_9 (pc' := 10) rfl ?_
    refine S_lconst dX6_workFor_10 (v := 0) rfl (pc' := 11) rfl ?_
    refine S_ldc2 dX6_workFor_11 kc_X6_304 (pc' := 14) rfl ?_
    refine S_stai ml_X6_95 ms_X6_in dX6_workFor_14 [.long a2.toInt64, .long 0, .long 60] rfl (fun v h2 q => c_X6_in Z l _ _ _ _ q) ⟨Nat.le_of_ble_eq_true rfl, Nat.le_of_ble_eq_true rfl⟩ (rest := []) (Nat.le_of_ble_eq_true rfl) rfl (pc' := 17) rfl (fun x14 h14 => ?_)
    refine S_if_ne dX6_workFor_17 27 rfl (pc' := 20) rfl (fun g17 => ?_) (fun g17 => ?_)
    · refine S_iconst dX6_workFor_27 (v := (-1)) rfl (pc' := 28) rfl ?_
      refine S_istore_n dX6_workFor_28 rfl (by decide) (lo' := [(3, .int (-1)), (0, .ref (zb Z + t)), (1, .int a1), (2, .int a2)]) rfl (pc' := 29) rfl ?_
      refine S_bipush dX6_workFor_29 (v := 9) rfl (pc' := 31) rfl ?_
      refine S_istore dX6_workFor_31 (by decide) (lo' := [(4, .int 9), (3, .int (-1)), (0, .ref (zb Z + t)), (1, .int a1), (2, .int a2)]) rfl (pc' := 33) rfl ?_
      refine Sim.sub [2, 3, 4, 1, 0] rfl ?_
      refine lq_X6_workFor_33 Z l t a1 a2 _ ?_ 1000 _ _ _
      intro b3_33 h33_
      refine S_iload_n dX6_workFor_74 rfl 0 rfl (pc' := 75) rfl ?_
      exact S_iret rfl dX6_workFor_75
    · refine S_aload_n dX6_workFor_20 rfl 0 rfl (pc' := 21) rfl ?_
      refine S_bipush dX6_workFor_21 (v := (-2)) rfl (pc' := 23) rfl ?_
      refine S_invi ml_X6_108 mi_X6_refuse (ci := 6) ⟨_, rfl, rfl⟩ (by decide) dX6_workFor_23 [.int (-2)] rfl (fun v h2 q => c_X6_refuse Z l _ _ _ q) ⟨Nat.le_of_ble_eq_true rfl, Nat.le_of_ble_eq_true rfl⟩ (rest := []) (Nat.le_of_ble_eq_true rfl) rfl (pc' := 26) rfl (fun x23 h23 => ?_)
      exact S_iret rfl dX6_workFor_26
theorem dX6_teach_0 : decode cX6_teach 0 = .ok (.aload_n 0, 1) := by decide +kernel
theorem dX6_teach_1 : decode cX6_teach 1 = .ok (.iload_n 1, 1) := by decide +kernel
theorem dX6_teach_2 : decode cX6_teach 2 = .ok (.invokevirtual 148, 3) := by decide +kernel
theorem dX6_teach_5 : decode cX6_teach 5 = .ok (.ifCond .eq 15, 3) := by decide +kernel
theorem dX6_teach_8 : decode cX6_teach 8 = .ok (.iload_n 2, 1) := by decide +kernel
theorem dX6_teach_9 : decode cX6_teach 9 = .ok (.i2l, 1) := by decide +kernel
theorem dX6_teach_10 : decode cX6_teach 10 = .ok (.lconst 0, 1) := by decide +kernel
theorem dX6_teach_11 : decode cX6_teach 11 = .ok (.ldc2_w 325, 3) := by decide +kernel
theorem dX6_teach_14 : decode cX6_teach 14 = .ok (.invokestatic 95, 3) := by decide +kernel
theorem dX6_teach_17 : decode cX6_teach 17 = .ok (.ifCond .ne 10, 3) := by decide +kernel
theorem dX6_teach_20 : decode cX6_teach 20 = .ok (.aload_n 0, 1) := by decide +kernel
theorem dX6_teach_21 : decode cX6_teach 21 = .ok (.bipush (-2), 2) := by decide +kernel
theorem dX6_teach_23 : decode cX6_teach 23 = .ok (.invokevirtual 108, 3) := by decide +kernel
theorem dX6_teach_26 : decode cX6_teach 26 = .ok (.ireturn, 1) := by decide +kernel
theorem dX6_teach_27 : decode cX6_teach 27 = .ok (.iconst (-1), 1) := by decide +kernel
theorem dX6_teach_28 : decode cX6_teach 28 = .ok (.istore_n 3, 1) := by decide +kernel
theorem dX6_teach_29 : decode cX6_teach 29 = .ok (.bipush 61, 2) := by decide +kernel
theorem dX6_teach_31 : decode cX6_teach 31 = .ok (.istore 4, 2) := by decide +kernel
theorem dX6_teach_33 : decode cX6_teach 33 = .ok (.aload_n 0, 1) := by decide +kernel
theorem dX6_teach_34 : decode cX6_teach 34 = .ok (.iload_n 1, 1) := by decide +kernel
theorem dX6_teach_35 : decode cX6_teach 35 = .ok (.invokevirtual 285, 3) := by decide +kernel
theorem dX6_teach_38 : decode cX6_teach 38 = .ok (.istore 5, 2) := by decide +kernel
theorem dX6_teach_40 : decode cX6_teach 40 = .ok (.iconst 0, 1) := by decide +kernel
theorem dX6_teach_41 : decode cX6_teach 41 = .ok (.istore 6, 2) := by decide +kernel
theorem dX6_teach_43 : decode cX6_teach 43 = .ok (.iload 6, 2) := by decide +kernel
theorem dX6_teach_45 : decode cX6_teach 45 = .ok (.iconst 1, 1) := by decide +kernel
theorem dX6_teach_46 : decode cX6_teach 46 = .ok (.aload_n 0, 1) := by decide +kernel
theorem dX6_teach_47 : decode cX6_teach 47 = .ok (.getfield 92, 3) := by decide +kernel
theorem dX6_teach_50 : decode cX6_teach 50 = .ok (.ishl, 1) := by decide +kernel
theorem dX6_teach_51 : decode cX6_teach 51 = .ok (.if_icmp .ge 128, 3) := by decide +kernel
theorem dX6_teach_54 : decode cX6_teach 54 = .ok (.iload 6, 2) := by decide +kernel
theorem dX6_teach_56 : decode cX6_teach 56 = .ok (.invokestatic 301, 3) := by decide +kernel
theorem dX6_teach_59 : decode cX6_teach 59 = .ok (.iload_n 2, 1) := by decide +kernel
theorem dX6_teach_60 : decode cX6_teach 60 = .ok (.if_icmp .ne 113, 3) := by decide +kernel
theorem dX6_teach_63 : decode cX6_teach 63 = .ok (.iload 6, 2) := by decide +kernel
theorem dX6_teach_65 : decode cX6_teach 65 = .ok (.iload 5, 2) := by decide +kernel
theorem dX6_teach_67 : decode cX6_teach 67 = .ok (.iand, 1) := by decide +kernel
theorem dX6_teach_68 : decode cX6_teach 68 = .ok (.ifCond .ne 105, 3) := by decide +kernel
theorem dX6_teach_71 : decode cX6_teach 71 = .ok (.aload_n 0, 1) := by decide +kernel
theorem dX6_teach_72 : decode cX6_teach 72 = .ok (.invokevirtual 306, 3) := by decide +kernel
theorem dX6_teach_75 : decode cX6_teach 75 = .ok (.astore 7, 2) := by decide +kernel
theorem dX6_teach_77 : decode cX6_teach 77 = .ok (.iconst 0, 1) := by decide +kernel
theorem dX6_teach_78 : decode cX6_teach 78 = .ok (.istore 8, 2) := by decide +kernel
theorem dX6_teach_80 : decode cX6_teach 80 = .ok (.iload 8, 2) := by decide +kernel
theorem dX6_teach_82 : decode cX6_teach 82 = .ok (.aload_n 0, 1) := by decide +kernel
theorem dX6_teach_83 : decode cX6_teach 83 = .ok (.getfield 92, 3) := by decide +kernel
theorem dX6_teach_86 : decode cX6_teach 86 = .ok (.if_icmp .ge 49, 3) := by decide +kernel
theorem dX6_teach_89 : decode cX6_teach 89 = .ok (.iload 8, 2) := by decide +kernel
theorem dX6_teach_91 : decode cX6_teach 91 = .ok (.bipush 6, 2) := by decide +kernel
theorem dX6_teach_93 : decode cX6_teach 93 = .ok (.imul, 1) := by decide +kernel
theorem dX6_teach_94 : decode cX6_teach 94 = .ok (.iload_n 1, 1) := by decide +kernel
theorem dX6_teach_95 : decode cX6_teach 95 = .ok (.iadd, 1) := by decide +kernel
theorem dX6_teach_96 : decode cX6_teach 96 = .ok (.istore 9, 2) := by decide +kernel
theorem dX6_teach_98 : decode cX6_teach 98 = .ok (.aload 7, 2) := by decide +kernel
theorem dX6_teach_100 : decode cX6_teach 100 = .ok (.getfield 68, 3) := by decide +kernel
theorem dX6_teach_103 : decode cX6_teach 103 = .ok (.iload 9, 2) := by decide +kernel
theorem dX6_teach_105 : decode cX6_teach 105 = .ok (.iload 6, 2) := by decide +kernel
theorem dX6_teach_107 : decode cX6_teach 107 = .ok (.iload 8, 2) := by decide +kernel
theorem dX6_teach_109 : decode cX6_teach 109 = .ok (.ishr, 1) := by decide +kernel
theorem dX6_teach_110 : decode cX6_teach 110 = .ok (.iconst 1, 1) := by decide +kernel
theorem dX6_teach_111 : decode cX6_teach 111 = .ok (.iand, 1) := by decide +kernel
theorem dX6_teach_112 : decode cX6_teach 112 = .ok (.iconst 1, 1) := by decide +kernel
theorem dX6_teach_113 : decode cX6_teach 113 = .ok (.if_icmp .ne 7, 3) := by decide +kernel
theorem dX6_teach_116 : decode cX6_teach 116 = .ok (.iconst 0, 1) := by decide +kernel
theorem dX6_teach_117 : decode cX6_teach 117 = .ok (.goto 11, 3) := by decide +kernel
theorem dX6_teach_120 : decode cX6_teach 120 = .ok (.aload 7, 2) := by decide +kernel
theorem dX6_teach_122 : decode cX6_teach 122 = .ok (.getfield 68, 3) := by decide +kernel
theorem dX6_teach_125 : decode cX6_teach 125 = .ok (.iload 9, 2) := by decide +kernel
theorem dX6_teach_127 : decode cX6_teach 127 = .ok (.iaload, 1) := by decide +kernel
theorem dX6_teach_128 : decode cX6_teach 128 = .ok (.iastore, 1) := by decide +kernel
theorem dX6_teach_129 : decode cX6_teach 129 = .ok (.iinc 8 1, 3) := by decide +kernel
theorem dX6_teach_132 : decode cX6_teach 132 = .ok (.goto (-52), 3) := by decide +kernel
theorem dX6_teach_135 : decode cX6_teach 135 = .ok (.aload 7, 2) := by decide +kernel
theorem dX6_teach_137 : decode cX6_teach 137 = .ok (.iload_n 1, 1) := by decide +kernel
theorem dX6_teach_138 : decode cX6_teach 138 = .ok (.invokevirtual 316, 3) := by decide +kernel
theorem dX6_teach_141 : decode cX6_teach 141 = .ok (.istore 8, 2) := by decide +kernel
theorem dX6_teach_143 : decode cX6_teach 143 = .ok (.iload 8, 2) := by decide +kernel
theorem dX6_teach_145 : decode cX6_teach 145 = .ok (.iload 4, 2) := by decide +kernel
theorem dX6_teach_147 : decode cX6_teach 147 = .ok (.if_icmp .ge 8, 3) := by decide +kernel
theorem dX6_teach_150 : decode cX6_teach 150 = .ok (.iload 6, 2) := by decide +kernel
theorem dX6_teach_152 : decode cX6_teach 152 = .ok (.goto 4, 3) := by decide +kernel
theorem dX6_teach_155 : decode cX6_teach 155 = .ok (.iload_n 3, 1) := by decide +kernel
theorem dX6_teach_156 : decode cX6_teach 156 = .ok (.istore_n 3, 1) := by decide +kernel
theorem dX6_teach_157 : decode cX6_teach 157 = .ok (.iload 8, 2) := by decide +kernel
theorem dX6_teach_159 : decode cX6_teach 159 = .ok (.iload 4, 2) := by decide +kernel
theorem dX6_teach_161 : decode cX6_teach 161 = .ok (.if_icmp .ge 8, 3) := by decide +kernel
theorem dX6_teach_164 : decode cX6_teach 164 = .ok (.iload 8, 2) := by decide +kernel
theorem dX6_teach_166 : decode cX6_teach 166 = .ok (.goto 5, 3) := by decide +kernel
theorem dX6_teach_169 : decode cX6_teach 169 = .ok (.iload 4, 2) := by decide +kernel
theorem dX6_teach_171 : decode cX6_teach 171 = .ok (.istore 4, 2) := by decide +kernel
theorem dX6_teach_173 : decode cX6_teach 173 = .ok (.iinc 6 1, 3) := by decide +kernel
theorem dX6_teach_176 : decode cX6_teach 176 = .ok (.goto (-133), 3) := by decide +kernel
theorem dX6_teach_179 : decode cX6_teach 179 = .ok (.iload_n 3, 1) := by decide +kernel
theorem dX6_teach_180 : decode cX6_teach 180 = .ok (.ireturn, 1) := by decide +kernel
set_option maxRecDepth 100000 in
set_option maxHeartbeats 4000000 in
theorem lc_X6_teach_80 (Z : ZZ) (l : Launch) (a0 : Nat) (a1 : Int32) (a2 : Int32) (a3 : Int32) (a4 : Int32) (a5 : Int32) (a6 : Int32) (a7 : Nat) {args : Array Value} {h0 h1 : HP} {v0 : Int32} (K : HP → Option (Int32 × HP)) (F : Int32 → HP → Option (Int32 × HP))
    (hK : ∀ (h : HP), Sim Z l cX6_teach RX6 10 6 133 (some .int) "teach" args (Mq Z args h0 h1 (some (.int v0))) h0 h1 v0 135 [(0, .ref (zb Z + a0)), (1, .int a1), (2, .int a2), (3, .int a3), (4, .int a4), (5, .int a5), (6, .int a6), (7, .ref (zb Z + a7))] [] h (K h))
    (hF : ∀ (b8 : Int32) (h : HP), Sim Z l cX6_teach RX6 10 6 133 (some .int) "teach" args (Mq Z args h0 h1 (some (.int v0))) h0 h1 v0 80 [(0, .ref (zb Z + a0)), (1, .int a1), (2, .int a2), (3, .int a3), (4, .int a4), (5, .int a5), (6, .int a6), (7, .ref (zb Z + a7)), (8, .int b8)] [] h (F b8 h)) :
    ∀ (b8 : Int32) (h : HP), Sim Z l cX6_teach RX6 10 6 133 (some .int) "teach" args (Mq Z args h0 h1 (some (.int v0))) h0 h1 v0 80 [(0, .ref (zb Z + a0)), (1, .int a1), (2, .int a2), (3, .int a3), (4, .int a4), (5, .int a5), (6, .int a6), (7, .ref (zb Z + a7)), (8, .int b8)] [] h (lb_X6_teach_80 a0 a1 a2 a3 a4 a5 a6 a7 K F b8 h) := by
  intro b8 h
  unfold lb_X6_teach_80
  refine S_iload dX6_teach_80 8 rfl (pc' := 82) rfl ?_
  refine S_aload_n dX6_teach_82 rfl 0 rfl (pc' := 83) rfl ?_
  refine S_getI fl_X6_92 rfl dX6_teach_83 (pc' := 86) rfl (fun x83 => ?_)
  refine S_icmp_ge dX6_teach_86 135 rfl (pc' := 89) rfl (fun g86 => ?_) (fun g86 => ?_)
  · refine Sim.sub [0, 1, 2, 3, 4, 5, 6, 7] rfl ?_
    exact hK _
  · refine S_iload dX6_teach_89 8 rfl (pc' := 91) rfl ?_
    refine S_bipush dX6_teach_91 (v := 6) rfl (pc' := 93) rfl ?_
    refine S_imul dX6_teach_93 (pc' := 94) rfl ?_
    refine S_iload_n dX6_teach_94 rfl 1 rfl (pc' := 95) rfl ?_
    refine S_iadd dX6_teach_95 (pc' := 96) rfl ?_
    refine S_istore dX6_teach_96 (by decide) (lo' := [(9, .int ((b8 * 6) + a1)), (0, .ref (zb Z + a0)), (1, .int a1), (2, .int a2), (3, .int a3), (4, .int a4), (5, .int a5), (6, .int a6), (7, .ref (zb Z + a7)), (8, .int b8)]) rfl (pc' := 98) rfl ?_
    refine S_aload dX6_teach_98 8 rfl (pc' := 100) rfl ?_
    refine S_getR fl_X6_68 rfl dX6_teach_100 (pc' := 103) rfl (fun x100 => ?_)
    refine S_iload dX6_teach_103 0 rfl (pc' := 105) rfl ?_
    refine S_iload dX6_teach_105 7 rfl (pc' := 107) rfl ?_
    refine S_iload dX6_teach_107 9 rfl (pc' := 109) rfl ?_
    refine S_ishr dX6_teach_109 (pc' := 110) rfl ?_
    refine S_iconst dX6_teach_110 (v := 1) rfl (pc' := 111) rfl ?_
    refine S_iand dX6_teach_111 (pc' := 112) rfl ?_
    refine S_iconst dX6_teach_112 (v := 1) rfl (pc' := 113) rfl ?_
    refine S_icmp_ne dX6_teach_113 120 rfl (pc' := 116) rfl (fun g113 => ?_) (fun g113 => ?_)
    · refine S_aload dX6_teach_120 8 rfl (pc' := 122) rfl ?_
      refine S_getR fl_X6_68 rfl dX6_teach_122 (pc' := 125) rfl (fun x122 => ?_)
      refine S_iload dX6_teach_125 0 rfl (pc' := 127) rfl ?_
      refine S_iaload dX6_teach_127 (pc' := 128) rfl (fun x127 => ?_)
      refine S_iastore dX6_teach_128 (pc' := 129) rfl (fun h128 => ?_)
      refine S_iinc dX6_teach_129 (q := 9) rfl (v := b8 + 1) rfl (by decide) (lo' := [(8, .int (b8 + 1)), (9, .int ((b8 * 6) + a1)), (0, .ref (zb Z + a0)), (1, .int a1), (2, .int a2), (3, .int a3), (4, .int a4), (5, .int a5), (6, .int a6), (7, .ref (zb Z + a7))]) rfl (pc' := 132) rfl ?_
      refine S_goto dX6_teach_132 80 rfl ?_
      refine Sim.sub [2, 3, 4, 5, 6, 7, 8, 9, 0] rfl ?_
      exact hF _ _
    · refine S_iconst dX6_teach_116 (v := 0) rfl (pc' := 117) rfl ?_
      refine S_goto dX6_teach_117 128 rfl ?_
      refine S_iastore dX6_teach_128 (pc' := 129) rfl (fun h128 => ?_)
      refine S_iinc dX6_teach_129 (q := 9) rfl (v := b8 + 1) rfl (by decide) (lo' := [(8, .int (b8 + 1)), (9, .int ((b8 * 6) + a1)), (0, .ref (zb Z + a0)), (1, .int a1), (2, .int a2), (3, .int a3), (4, .int a4), (5, .int a5), (6, .int a6), (7, .ref (zb Z + a7))]) rfl (pc' := 132) rfl ?_
      refine S_goto dX6_teach_132 80 rfl ?_
      refine Sim.sub [2, 3, 4, 5, 6, 7, 8, 9, 0] rfl ?_
      exact hF _ _
theorem lq_X6_teach_80 (Z : ZZ) (l : Launch) (a0 : Nat) (a1 : Int32) (a2 : Int32) (a3 : Int32) (a4 : Int32) (a5 : Int32) (a6 : Int32) (a7 : Nat) {args : Array Value} {h0 h1 : HP} {v0 : Int32} (K : HP → Option (Int32 × HP))
    (hK : ∀ (h : HP), Sim Z l cX6_teach RX6 10 6 133 (some .int) "teach" args (Mq Z args h0 h1 (some (.int v0))) h0 h1 v0 135 [(0, .ref (zb Z + a0)), (1, .int a1), (2, .int a2), (3, .int a3), (4, .int a4), (5, .int a5), (6, .int a6), (7, .ref (zb Z + a7))] [] h (K h)) :
    ∀ (k : Nat) (b8 : Int32) (h : HP), Sim Z l cX6_teach RX6 10 6 133 (some .int) "teach" args (Mq Z args h0 h1 (some (.int v0))) h0 h1 v0 80 [(0, .ref (zb Z + a0)), (1, .int a1), (2, .int a2), (3, .int a3), (4, .int a4), (5, .int a5), (6, .int a6), (7, .ref (zb Z + a7)), (8, .int b8)] [] h (lp_X6_teach_80 a0 a1 a2 a3 a4 a5 a6 a7 K k b8 h) := by
  intro k
  induction k with
  | zero => exact fun _ _ => Sim.none
  | succ k ih => exact lc_X6_teach_80 Z l a0 a1 a2 a3 a4 a5 a6 a7 K _ hK ih
set_option maxRecDepth 100000 in
set_option maxHeartbeats 4000000 in
theorem lc_X6_teach_43 (Z : ZZ) (l : Launch) (a0 : Nat) (a1 : Int32) (a2 : Int32) (a5 : Int32) {args : Array Value} {h0 h1 : HP} {v0 : Int32} (K : Int32 → HP → Option (Int32 × HP)) (F : Int32 → Int32 → Int32 → HP → Option (Int32 × HP))
    (hK : ∀ (b3 : Int32) (h : HP), Sim Z l cX6_teach RX6 10 6 133 (some .int) "teach" args (Mq Z args h0 h1 (some (.int v0))) h0 h1 v0 179 [(3, .int b3)] [] h (K b3 h))
    (hF : ∀ (b3 : Int32) (b4 : Int32) (b6 : Int32) (h : HP), Sim Z l cX6_teach RX6 10 6 133 (some .int) "teach" args (Mq Z args h0 h1 (some (.int v0))) h0 h1 v0 43 [(0, .ref (zb Z + a0)), (1, .int a1), (2, .int a2), (3, .int b3), (4, .int b4), (5, .int a5), (6, .int b6)] [] h (F b3 b4 b6 h)) :
    ∀ (b3 : Int32) (b4 : Int32) (b6 : Int32) (h : HP), Sim Z l cX6_teach RX6 10 6 133 (some .int) "teach" args (Mq Z args h0 h1 (some (.int v0))) h0 h1 v0 43 [(0, .ref (zb Z + a0)), (1, .int a1), (2, .int a2), (3, .int b3), (4, .int b4), (5, .int a5), (6, .int b6)] [] h (lb_X6_teach_43 a0 a1 a2 a5 K F b3 b4 b6 h) := by
  intro b3 b4 b6 h
  unfold lb_X6_teach_43
  refine S_iload dX6_teach_43 6 rfl (pc' := 45) rfl ?_
  refine S_iconst dX6_teach_45 (v := 1) rfl (pc' := 46) rfl ?_
  refine S_aload_n dX6_teach_46 rfl 0 rfl (pc' := 47) rfl ?_
  refine S_getI fl_X6_92 rfl dX6_teach_47 (pc' := 50) rfl (fun x47 => ?_)
  refine S_ishl dX6_teach_50 (pc' := 51) rfl ?_
  refine S_icmp_ge dX6_teach_51 179 rfl (pc' := 54) rfl (fun g51 => ?_) (fun g51 => ?_)
  · refine Sim.sub [3] rfl ?_
    exact hK _ _
  · refine S_iload dX6_teach_54 6 rfl (pc' := 56) rfl ?_
    refine S_stai ml_X6_301 ms_X6_bits dX6_teach_56 [.int b6] rfl (fun v h2 q => c_X6_bits Z l _ _ q) ⟨Nat.le_of_ble_eq_true rfl, Nat.le_of_ble_eq_true rfl⟩ (rest := []) (Nat.le_of_ble_eq_true rfl) rfl (pc' := 59) rfl (fun x56 h56 => ?_)
    refine S_iload_n dX6_teach_59 rfl 2 rfl (pc' := 60) rfl ?_
    refine S_icmp_ne dX6_teach_60 173 rfl (pc' := 63) rfl (fun g60 => ?_) (fun g60 => ?_)
    · refine S_iinc dX6_teach_173 (q := 6) rfl (v := b6 + 1) rfl (by decide) (lo' := [(6, .int (b6 + 1)), (0, .ref (zb Z + a0)), (1, .int a1), (2, .int a2), (3, .int b3), (4, .int b4), (5, .int a5)]) rfl (pc' := 176) rfl ?_
      refine S_goto dX6_teach_176 43 rfl ?_
      refine Sim.sub [1, 2, 3, 4, 5, 6, 0] rfl ?_
      exact hF _ _ _ _
    · refine S_iload dX6_teach_63 6 rfl (pc' := 65) rfl ?_
      refine S_iload dX6_teach_65 5 rfl (pc' := 67) rfl ?_
      refine S_iand dX6_teach_67 (pc' := 68) rfl ?_
      refine S_if_ne dX6_teach_68 173 rfl (pc' := 71) rfl (fun g68 => ?_) (fun g68 => ?_)
      · refine S_iinc dX6_teach_173 (q := 6) rfl (v := b6 + 1) rfl (by decide) (lo' := [(6, .int (b6 + 1)), (0, .ref (zb Z + a0)), (1, .int a1), (2, .int a2), (3, .int b3), (4, .int b4), (5, .int a5)]) rfl (pc' := 176) rfl ?_
        refine S_goto dX6_teach_176 43 rfl ?_
        refine Sim.sub [1, 2, 3, 4, 5, 6, 0] rfl ?_
        exact hF _ _ _ _
      · refine S_aload_n dX6_teach_71 rfl 0 rfl (pc' := 72) rfl ?_
        refine S_invr ml_X6_306 mi_X6_thought (ci := 6) ⟨_, rfl, rfl⟩ (by decide) dX6_teach_72 [] rfl (fun v h2 q => c_X6_thought Z l _ _ q) ⟨Nat.le_of_ble_eq_true rfl, Nat.le_of_ble_eq_true rfl⟩ (rest := []) (Nat.le_of_ble_eq_true rfl) rfl (pc' := 75) rfl (fun x72 h72 => ?_)
        refine S_astore dX6_teach_75 (by decide) (lo' := [(7, .ref (zb Z + x72)), (0, .ref (zb Z + a0)), (1, .int a1), (2, .int a2), (3, .int b3), (4, .int b4), (5, .int a5), (6, .int b6)]) rfl (pc' := 77) rfl ?_
        refine S_iconst dX6_teach_77 (v := 0) rfl (pc' := 78) rfl ?_
        refine S_istore dX6_teach_78 (by decide) (lo' := [(8, .int 0), (7, .ref (zb Z + x72)), (0, .ref (zb Z + a0)), (1, .int a1), (2, .int a2), (3, .int b3), (4, .int b4), (5, .int a5), (6, .int b6)]) rfl (pc' := 80) rfl ?_
        refine Sim.sub [2, 3, 4, 5, 6, 7, 8, 1, 0] rfl ?_
        refine lq_X6_teach_80 Z l a0 a1 a2 b3 b4 a5 b6 x72 _ ?_ 1000 _ _
        intro h80_
        refine S_aload dX6_teach_135 7 rfl (pc' := 137) rfl ?_
        refine S_iload_n dX6_teach_137 rfl 1 rfl (pc' := 138) rfl ?_
        refine S_invi ml_X6_316 mi_X6_runsOut (ci := 6) ⟨_, rfl, rfl⟩ (by decide) dX6_teach_138 [.int a1] rfl (fun v h2 q => c_X6_runsOut Z l _ _ _ q) ⟨Nat.le_of_ble_eq_true rfl, Nat.le_of_ble_eq_true rfl⟩ (rest := []) (Nat.le_of_ble_eq_true rfl) rfl (pc' := 141) rfl (fun x138 h138 => ?_)
        refine S_istore dX6_teach_141 (by decide) (lo' := [(8, .int x138), (0, .ref (zb Z + a0)), (1, .int a1), (2, .int a2), (3, .int b3), (4, .int b4), (5, .int a5), (6, .int b6), (7, .ref (zb Z + x72))]) rfl (pc' := 143) rfl ?_
        refine S_iload dX6_teach_143 0 rfl (pc' := 145) rfl ?_
        refine S_iload dX6_teach_145 5 rfl (pc' := 147) rfl ?_
        refine S_icmp_ge dX6_teach_147 155 rfl (pc' := 150) rfl (fun g147 => ?_) (fun g147 => ?_)
        · refine S_iload_n dX6_teach_155 rfl 4 rfl (pc' := 156) rfl ?_
          refine S_istore_n dX6_teach_156 rfl (by decide) (lo' := [(3, .int b3), (8, .int x138), (0, .ref (zb Z + a0)), (1, .int a1), (2, .int a2), (4, .int b4), (5, .int a5), (6, .int b6), (7, .ref (zb Z + x72))]) rfl (pc' := 157) rfl ?_
          refine S_iload dX6_teach_157 1 rfl (pc' := 159) rfl ?_
          refine S_iload dX6_teach_159 5 rfl (pc' := 161) rfl ?_
          refine S_icmp_ge_J dX6_teach_161 169 rfl (pc' := 164) rfl g147 ?_
          refine S_iload dX6_teach_169 5 rfl (pc' := 171) rfl ?_
          refine S_istore dX6_teach_171 (by decide) (lo' := [(4, .int b4), (3, .int b3), (8, .int x138), (0, .ref (zb Z + a0)), (1, .int a1), (2, .int a2), (5, .int a5), (6, .int b6), (7, .ref (zb Z + x72))]) rfl (pc' := 173) rfl ?_
          refine S_iinc dX6_teach_173 (q := 7) rfl (v := b6 + 1) rfl (by decide) (lo' := [(6, .int (b6 + 1)), (4, .int b4), (3, .int b3), (8, .int x138), (0, .ref (zb Z + a0)), (1, .int a1), (2, .int a2), (5, .int a5), (7, .ref (zb Z + x72))]) rfl (pc' := 176) rfl ?_
          refine S_goto dX6_teach_176 43 rfl ?_
          refine Sim.sub [4, 5, 6, 2, 1, 7, 0] rfl ?_
          exact hF _ _ _ _
        · refine S_iload dX6_teach_150 7 rfl (pc' := 152) rfl ?_
          refine S_goto dX6_teach_152 156 rfl ?_
          refine S_istore_n dX6_teach_156 rfl (by decide) (lo' := [(3, .int b6), (8, .int x138), (0, .ref (zb Z + a0)), (1, .int a1), (2, .int a2), (4, .int b4), (5, .int a5), (6, .int b6), (7, .ref (zb Z + x72))]) rfl (pc' := 157) rfl ?_
          refine S_iload dX6_teach_157 1 rfl (pc' := 159) rfl ?_
          refine S_iload dX6_teach_159 5 rfl (pc' := 161) rfl ?_
          refine S_icmp_ge_N dX6_teach_161 169 rfl (pc' := 164) rfl g147 ?_
          refine S_iload dX6_teach_164 1 rfl (pc' := 166) rfl ?_
          refine S_goto dX6_teach_166 171 rfl ?_
          refine S_istore dX6_teach_171 (by decide) (lo' := [(4, .int x138), (3, .int b6), (8, .int x138), (0, .ref (zb Z + a0)), (1, .int a1), (2, .int a2), (5, .int a5), (6, .int b6), (7, .ref (zb Z + x72))]) rfl (pc' := 173) rfl ?_
          refine S_iinc dX6_teach_173 (q := 7) rfl (v := b6 + 1) rfl (by decide) (lo' := [(6, .int (b6 + 1)), (4, .int x138), (3, .int b6), (8, .int x138), (0, .ref (zb Z + a0)), (1, .int a1), (2, .int a2), (5, .int a5), (7, .ref (zb Z + x72))]) rfl (pc' := 176) rfl ?_
          refine S_goto dX6_teach_176 43 rfl ?_
          refine Sim.sub [4, 5, 6, 2, 1, 7, 0] rfl ?_
          exact hF _ _ _ _
theorem lq_X6_teach_43 (Z : ZZ) (l : Launch) (a0 : Nat) (a1 : Int32) (a2 : Int32) (a5 : Int32) {args : Array Value} {h0 h1 : HP} {v0 : Int32} (K : Int32 → HP → Option (Int32 × HP))
    (hK : ∀ (b3 : Int32) (h : HP), Sim Z l cX6_teach RX6 10 6 133 (some .int) "teach" args (Mq Z args h0 h1 (some (.int v0))) h0 h1 v0 179 [(3, .int b3)] [] h (K b3 h)) :
    ∀ (k : Nat) (b3 : Int32) (b4 : Int32) (b6 : Int32) (h : HP), Sim Z l cX6_teach RX6 10 6 133 (some .int) "teach" args (Mq Z args h0 h1 (some (.int v0))) h0 h1 v0 43 [(0, .ref (zb Z + a0)), (1, .int a1), (2, .int a2), (3, .int b3), (4, .int b4), (5, .int a5), (6, .int b6)] [] h (lp_X6_teach_43 a0 a1 a2 a5 K k b3 b4 b6 h) := by
  intro k
  induction k with
  | zero => exact fun _ _ _ _ => Sim.none
  | succ k ih => exact lc_X6_teach_43 Z l a0 a1 a2 a5 K _ hK ih
set_option maxRecDepth 100000 in
set_option maxHeartbeats 4000000 in
theorem c_X6_teach (Z : ZZ) (l : Launch) (t : Nat) (a1 : Int32) (a2 : Int32) (h : HP) {v : Int32} {h1 : HP} (ho : f_X6_teach t a1 a2 h = some (v, h1)) : MetP Z l yX6_teach cX6_teach 10 (some .int) 6 133 [.ref (zb Z + t), .int a1, .int a2] h (some (.int v)) h1 := by
  refine MetP_of ho (by decide +kernel) (Nat.le_of_ble_eq_true rfl) [(0, .ref (zb Z + t)), (1, .int a1), (2, .int a2)] rfl (own := RX6) rfl (nm := "teach") rfl ?_
  unfold f_X6_teach
  refine S_aload_n dX6_teach_0 rfl 0 rfl (pc' := 1) rfl ?_
  refine S_iload_n dX6_teach_1 rfl 1 rfl (pc' := 2) rfl ?_
  refine S_invi ml_X6_148 mi_X6_isSong (ci := 6) ⟨_, rfl, rfl⟩ (by decide) dX6_teach_2 [.int a1] rfl (fun v h2 q => c_X6_isSong Z l _ _ _ q) ⟨Nat.le_of_ble_eq_true rfl, Nat.le_of_ble_eq_true rfl⟩ (rest := []) (Nat.le_of_ble_eq_true rfl) rfl (pc' := 5) rfl (fun x2 h2 => ?_)
  refine S_if_eq dX6_teach_5 20 rfl (pc' := 8) rfl (fun g5 => ?_) (fun g5 => ?_)
  · refine S_aload_n dX6_teach_20 rfl 0 rfl (pc' := 21) rfl ?_
    refine S_bipush dX6_teach_21 (v := (-2)) rfl (pc' := 23) rfl ?_
    refine S_invi ml_X6_108 mi_X6_refuse (ci := 6) ⟨_, rfl, rfl⟩ (by decide) dX6_teach_23 [.int (-2)] rfl (fun v h2 q => c_X6_refuse Z l _ _ _ q) ⟨Nat.le_of_ble_eq_true rfl, Nat.le_of_ble_eq_true rfl⟩ (rest := []) (Nat.le_of_ble_eq_true rfl) rfl (pc' := 26) rfl (fun x23 h23 => ?_)
    exact S_iret rfl dX6_teach_26
  · refine S_iload_n dX6_teach_8 rfl 2 rfl (pc' := 9) rfl ?_
    refine S_i2l dX6_teach_9 (pc' := 10) rfl ?_
    refine S_lconst dX6_teach_10 (v := 0) rfl (pc' := 11) rfl ?_
    refine S_ldc2 dX6_teach_11 kc_X6_325 (pc' := 14) rfl ?_
    refine S_stai ml_X6_95 ms_X6_in dX6_teach_14 [.long a2.toInt64, .long 0, .long 8] rfl (fun v h2 q => c_X6_in Z l _ _ _ _ q) ⟨Nat.le_of_ble_eq_true rfl, Nat.le_of_ble_eq_true rfl⟩ (rest := []) (Nat.le_of_ble_eq_true rfl) rfl (pc' := 17) rfl (fun x14 h14 => ?_)
    refine S_if_ne dX6_teach_17 27 rfl (pc' := 20) rfl (fun g17 => ?_) (fun g17 => ?_)
    · refine S_iconst dX6_teach_27 (v := (-1)) rfl (pc' := 28) rfl ?_
      refine S_istore_n dX6_teach_28 rfl (by decide) (lo' := [(3, .int (-1)), (0, .ref (zb Z + t)), (1, .int a1), (2, .int a2)]) rfl (pc' := 29) rfl ?_
      refine S_bipush dX6_teach_29 (v := 61) rfl (pc' := 31) rfl ?_
      refine S_istore dX6_teach_31 (by decide) (lo' := [(4, .int 61), (3, .int (-1)), (0, .ref (zb Z + t)), (1, .int a1), (2, .int a2)]) rfl (pc' := 33) rfl ?_
      refine S_aload_n dX6_teach_33 rfl 2 rfl (pc' := 34) rfl ?_
      refine S_iload_n dX6_teach_34 rfl 3 rfl (pc' := 35) rfl ?_
      refine S_invi ml_X6_285 mi_X6_holdersOf (ci := 6) ⟨_, rfl, rfl⟩ (by decide) dX6_teach_35 [.int a1] rfl (fun v h2 q => c_X6_holdersOf Z l _ _ _ q) ⟨Nat.le_of_ble_eq_true rfl, Nat.le_of_ble_eq_true rfl⟩ (rest := []) (Nat.le_of_ble_eq_true rfl) rfl (pc' := 38) rfl (fun x35 h35 => ?_)
      refine S_istore dX6_teach_38 (by decide) (lo' := [(5, .int x35), (4, .int 61), (3, .int (-1)), (0, .ref (zb Z + t)), (1, .int a1), (2, .int a2)]) rfl (pc' := 40) rfl ?_
      refine S_iconst dX6_teach_40 (v := 0) rfl (pc' := 41) rfl ?_
      refine S_istore dX6_teach_41 (by decide) (lo' := [(6, .int 0), (5, .int x35), (4, .int 61), (3, .int (-1)), (0, .ref (zb Z + t)), (1, .int a1), (2, .int a2)]) rfl (pc' := 43) rfl ?_
      refine Sim.sub [4, 5, 6, 3, 2, 1, 0] rfl ?_
      refine lq_X6_teach_43 Z l t a1 a2 x35 _ ?_ 1000 _ _ _ _
      intro b3_43 h43_
      refine S_iload_n dX6_teach_179 rfl 0 rfl (pc' := 180) rfl ?_
      exact S_iret rfl dX6_teach_180
    · refine S_aload_n dX6_teach_20 rfl 0 rfl (pc' := 21) rfl ?_
      refine S_bipush dX6_teach_21 (v := (-2)) rfl (pc' := 23) rfl ?_
      refine S_invi ml_X6_108 mi_X6_refuse (ci := 6) ⟨_, rfl, rfl⟩ (by decide) dX6_teach_23 [.int (-2)] rfl (fun v h2 q => c_X6_refuse Z l _ _ _ q) ⟨Nat.le_of_ble_eq_true rfl, Nat.le_of_ble_eq_true rfl⟩ (rest := []) (Nat.le_of_ble_eq_true rfl) rfl (pc' := 26) rfl (fun x23 h23 => ?_)
      exact S_iret rfl dX6_teach_26
theorem dX6_hummer_0 : decode cX6_hummer 0 = .ok (.aload_n 0, 1) := by decide +kernel
theorem dX6_hummer_1 : decode cX6_hummer 1 = .ok (.iload_n 1, 1) := by decide +kernel
theorem dX6_hummer_2 : decode cX6_hummer 2 = .ok (.invokevirtual 148, 3) := by decide +kernel
theorem dX6_hummer_5 : decode cX6_hummer 5 = .ok (.ifCond .ne 10, 3) := by decide +kernel
theorem dX6_hummer_8 : decode cX6_hummer 8 = .ok (.aload_n 0, 1) := by decide +kernel
theorem dX6_hummer_9 : decode cX6_hummer 9 = .ok (.bipush (-2), 2) := by decide +kernel
theorem dX6_hummer_11 : decode cX6_hummer 11 = .ok (.invokevirtual 108, 3) := by decide +kernel
theorem dX6_hummer_14 : decode cX6_hummer 14 = .ok (.ireturn, 1) := by decide +kernel
theorem dX6_hummer_15 : decode cX6_hummer 15 = .ok (.iconst (-1), 1) := by decide +kernel
theorem dX6_hummer_16 : decode cX6_hummer 16 = .ok (.istore_n 2, 1) := by decide +kernel
theorem dX6_hummer_17 : decode cX6_hummer 17 = .ok (.iconst (-1), 1) := by decide +kernel
theorem dX6_hummer_18 : decode cX6_hummer 18 = .ok (.istore_n 3, 1) := by decide +kernel
theorem dX6_hummer_19 : decode cX6_hummer 19 = .ok (.iconst 0, 1) := by decide +kernel
theorem dX6_hummer_20 : decode cX6_hummer 20 = .ok (.istore 4, 2) := by decide +kernel
theorem dX6_hummer_22 : decode cX6_hummer 22 = .ok (.iload 4, 2) := by decide +kernel
theorem dX6_hummer_24 : decode cX6_hummer 24 = .ok (.aload_n 0, 1) := by decide +kernel
theorem dX6_hummer_25 : decode cX6_hummer 25 = .ok (.getfield 92, 3) := by decide +kernel
theorem dX6_hummer_28 : decode cX6_hummer 28 = .ok (.if_icmp .ge 73, 3) := by decide +kernel
theorem dX6_hummer_31 : decode cX6_hummer 31 = .ok (.aload_n 0, 1) := by decide +kernel
theorem dX6_hummer_32 : decode cX6_hummer 32 = .ok (.iload 4, 2) := by decide +kernel
theorem dX6_hummer_34 : decode cX6_hummer 34 = .ok (.iload_n 1, 1) := by decide +kernel
theorem dX6_hummer_35 : decode cX6_hummer 35 = .ok (.invokevirtual 267, 3) := by decide +kernel
theorem dX6_hummer_38 : decode cX6_hummer 38 = .ok (.ifCond .eq 57, 3) := by decide +kernel
theorem dX6_hummer_41 : decode cX6_hummer 41 = .ok (.aload_n 0, 1) := by decide +kernel
theorem dX6_hummer_42 : decode cX6_hummer 42 = .ok (.invokevirtual 306, 3) := by decide +kernel
theorem dX6_hummer_45 : decode cX6_hummer 45 = .ok (.astore 5, 2) := by decide +kernel
theorem dX6_hummer_47 : decode cX6_hummer 47 = .ok (.aload 5, 2) := by decide +kernel
theorem dX6_hummer_49 : decode cX6_hummer 49 = .ok (.dup, 1) := by decide +kernel
theorem dX6_hummer_50 : decode cX6_hummer 50 = .ok (.getfield 133, 3) := by decide +kernel
theorem dX6_hummer_53 : decode cX6_hummer 53 = .ok (.iconst 1, 1) := by decide +kernel
theorem dX6_hummer_54 : decode cX6_hummer 54 = .ok (.iload 4, 2) := by decide +kernel
theorem dX6_hummer_56 : decode cX6_hummer 56 = .ok (.ishl, 1) := by decide +kernel
theorem dX6_hummer_57 : decode cX6_hummer 57 = .ok (.ior, 1) := by decide +kernel
theorem dX6_hummer_58 : decode cX6_hummer 58 = .ok (.putfield 133, 3) := by decide +kernel
theorem dX6_hummer_61 : decode cX6_hummer 61 = .ok (.aload 5, 2) := by decide +kernel
theorem dX6_hummer_63 : decode cX6_hummer 63 = .ok (.iload_n 1, 1) := by decide +kernel
theorem dX6_hummer_64 : decode cX6_hummer 64 = .ok (.invokevirtual 316, 3) := by decide +kernel
theorem dX6_hummer_67 : decode cX6_hummer 67 = .ok (.istore 6, 2) := by decide +kernel
theorem dX6_hummer_69 : decode cX6_hummer 69 = .ok (.iload 6, 2) := by decide +kernel
theorem dX6_hummer_71 : decode cX6_hummer 71 = .ok (.iload_n 3, 1) := by decide +kernel
theorem dX6_hummer_72 : decode cX6_hummer 72 = .ok (.if_icmp .le 8, 3) := by decide +kernel
theorem dX6_hummer_75 : decode cX6_hummer 75 = .ok (.iload 4, 2) := by decide +kernel
theorem dX6_hummer_77 : decode cX6_hummer 77 = .ok (.goto 4, 3) := by decide +kernel
theorem dX6_hummer_80 : decode cX6_hummer 80 = .ok (.iload_n 2, 1) := by decide +kernel
theorem dX6_hummer_81 : decode cX6_hummer 81 = .ok (.istore_n 2, 1) := by decide +kernel
theorem dX6_hummer_82 : decode cX6_hummer 82 = .ok (.iload 6, 2) := by decide +kernel
theorem dX6_hummer_84 : decode cX6_hummer 84 = .ok (.iload_n 3, 1) := by decide +kernel
theorem dX6_hummer_85 : decode cX6_hummer 85 = .ok (.if_icmp .le 8, 3) := by decide +kernel
theorem dX6_hummer_88 : decode cX6_hummer 88 = .ok (.iload 6, 2) := by decide +kernel
theorem dX6_hummer_90 : decode cX6_hummer 90 = .ok (.goto 4, 3) := by decide +kernel
theorem dX6_hummer_93 : decode cX6_hummer 93 = .ok (.iload_n 3, 1) := by decide +kernel
theorem dX6_hummer_94 : decode cX6_hummer 94 = .ok (.istore_n 3, 1) := by decide +kernel
theorem dX6_hummer_95 : decode cX6_hummer 95 = .ok (.iinc 4 1, 3) := by decide +kernel
theorem dX6_hummer_98 : decode cX6_hummer 98 = .ok (.goto (-76), 3) := by decide +kernel
theorem dX6_hummer_101 : decode cX6_hummer 101 = .ok (.iload_n 2, 1) := by decide +kernel
theorem dX6_hummer_102 : decode cX6_hummer 102 = .ok (.ireturn, 1) := by decide +kernel
set_option maxRecDepth 100000 in
set_option maxHeartbeats 4000000 in
theorem lc_X6_hummer_22 (Z : ZZ) (l : Launch) (a0 : Nat) (a1 : Int32) {args : Array Value} {h0 h1 : HP} {v0 : Int32} (K : Int32 → HP → Option (Int32 × HP)) (F : Int32 → Int32 → Int32 → HP → Option (Int32 × HP))
    (hK : ∀ (b2 : Int32) (h : HP), Sim Z l cX6_hummer RX6 7 6 133 (some .int) "hummer" args (Mq Z args h0 h1 (some (.int v0))) h0 h1 v0 101 [(2, .int b2)] [] h (K b2 h))
    (hF : ∀ (b2 : Int32) (b3 : Int32) (b4 : Int32) (h : HP), Sim Z l cX6_hummer RX6 7 6 133 (some .int) "hummer" args (Mq Z args h0 h1 (some (.int v0))) h0 h1 v0 22 [(0, .ref (zb Z + a0)), (1, .int a1), (2, .int b2), (3, .int b3), (4, .int b4)] [] h (F b2 b3 b4 h)) :
    ∀ (b2 : Int32) (b3 : Int32) (b4 : Int32) (h : HP), Sim Z l cX6_hummer RX6 7 6 133 (some .int) "hummer" args (Mq Z args h0 h1 (some (.int v0))) h0 h1 v0 22 [(0, .ref (zb Z + a0)), (1, .int a1), (2, .int b2), (3, .int b3), (4, .int b4)] [] h (lb_X6_hummer_22 a0 a1 K F b2 b3 b4 h) := by
  intro b2 b3 b4 h
  unfold lb_X6_hummer_22
  refine S_iload dX6_hummer_22 4 rfl (pc' := 24) rfl ?_
  refine S_aload_n dX6_hummer_24 rfl 0 rfl (pc' := 25) rfl ?_
  refine S_getI fl_X6_92 rfl dX6_hummer_25 (pc' := 28) rfl (fun x25 => ?_)
  refine S_icmp_ge dX6_hummer_28 101 rfl (pc' := 31) rfl (fun g28 => ?_) (fun g28 => ?_)
  · refine Sim.sub [2] rfl ?_
    exact hK _ _
  · refine S_aload_n dX6_hummer_31 rfl 0 rfl (pc' := 32) rfl ?_
    refine S_iload dX6_hummer_32 4 rfl (pc' := 34) rfl ?_
    refine S_iload_n dX6_hummer_34 rfl 1 rfl (pc' := 35) rfl ?_
    refine S_invi ml_X6_267 mi_X6_knowsIt (ci := 6) ⟨_, rfl, rfl⟩ (by decide) dX6_hummer_35 [.int b4, .int a1] rfl (fun v h2 q => c_X6_knowsIt Z l _ _ _ _ q) ⟨Nat.le_of_ble_eq_true rfl, Nat.le_of_ble_eq_true rfl⟩ (rest := []) (Nat.le_of_ble_eq_true rfl) rfl (pc' := 38) rfl (fun x35 h35 => ?_)
    refine S_if_eq dX6_hummer_38 95 rfl (pc' := 41) rfl (fun g38 => ?_) (fun g38 => ?_)
    · refine S_iinc dX6_hummer_95 (q := 4) rfl (v := b4 + 1) rfl (by decide) (lo' := [(4, .int (b4 + 1)), (0, .ref (zb Z + a0)), (1, .int a1), (2, .int b2), (3, .int b3)]) rfl (pc' := 98) rfl ?_
      refine S_goto dX6_hummer_98 22 rfl ?_
      refine Sim.sub [1, 2, 3, 4, 0] rfl ?_
      exact hF _ _ _ _
    · refine S_aload_n dX6_hummer_41 rfl 0 rfl (pc' := 42) rfl ?_
      refine S_invr ml_X6_306 mi_X6_thought (ci := 6) ⟨_, rfl, rfl⟩ (by decide) dX6_hummer_42 [] rfl (fun v h2 q => c_X6_thought Z l _ _ q) ⟨Nat.le_of_ble_eq_true rfl, Nat.le_of_ble_eq_true rfl⟩ (rest := []) (Nat.le_of_ble_eq_true rfl) rfl (pc' := 45) rfl (fun x42 h42 => ?_)
      refine S_astore dX6_hummer_45 (by decide) (lo' := [(5, .ref (zb Z + x42)), (0, .ref (zb Z + a0)), (1, .int a1), (2, .int b2), (3, .int b3), (4, .int b4)]) rfl (pc' := 47) rfl ?_
      refine S_aload dX6_hummer_47 0 rfl (pc' := 49) rfl ?_
      refine S_dup dX6_hummer_49 rfl (pc' := 50) rfl ?_
      refine S_getI fl_X6_133 rfl dX6_hummer_50 (pc' := 53) rfl (fun x50 => ?_)
      refine S_iconst dX6_hummer_53 (v := 1) rfl (pc' := 54) rfl ?_
      refine S_iload dX6_hummer_54 5 rfl (pc' := 56) rfl ?_
      refine S_ishl dX6_hummer_56 (pc' := 57) rfl ?_
      refine S_ior dX6_hummer_57 (pc' := 58) rfl ?_
      refine S_putI fl_X6_133 (by decide) rfl dX6_hummer_58 (pc' := 61) rfl (fun h58 => ?_)
      refine S_aload dX6_hummer_61 0 rfl (pc' := 63) rfl ?_
      refine S_iload_n dX6_hummer_63 rfl 2 rfl (pc' := 64) rfl ?_
      refine S_invi ml_X6_316 mi_X6_runsOut (ci := 6) ⟨_, rfl, rfl⟩ (by decide) dX6_hummer_64 [.int a1] rfl (fun v h2 q => c_X6_runsOut Z l _ _ _ q) ⟨Nat.le_of_ble_eq_true rfl, Nat.le_of_ble_eq_true rfl⟩ (rest := []) (Nat.le_of_ble_eq_true rfl) rfl (pc' := 67) rfl (fun x64 h64 => ?_)
      refine S_istore dX6_hummer_67 (by decide) (lo' := [(6, .int x64), (5, .ref (zb Z + x42)), (0, .ref (zb Z + a0)), (1, .int a1), (2, .int b2), (3, .int b3), (4, .int b4)]) rfl (pc' := 69) rfl ?_
      refine S_iload dX6_hummer_69 0 rfl (pc' := 71) rfl ?_
      refine S_iload_n dX6_hummer_71 rfl 5 rfl (pc' := 72) rfl ?_
      refine S_icmp_le dX6_hummer_72 80 rfl (pc' := 75) rfl (fun g72 => ?_) (fun g72 => ?_)
      · refine S_iload_n dX6_hummer_80 rfl 4 rfl (pc' := 81) rfl ?_
        refine S_istore_n dX6_hummer_81 rfl (by decide) (lo' := [(2, .int b2), (6, .int x64), (5, .ref (zb Z + x42)), (0, .ref (zb Z + a0)), (1, .int a1), (3, .int b3), (4, .int b4)]) rfl (pc' := 82) rfl ?_
        refine S_iload dX6_hummer_82 1 rfl (pc' := 84) rfl ?_
        refine S_iload_n dX6_hummer_84 rfl 5 rfl (pc' := 85) rfl ?_
        refine S_icmp_le_J dX6_hummer_85 93 rfl (pc' := 88) rfl g72 ?_
        refine S_iload_n dX6_hummer_93 rfl 5 rfl (pc' := 94) rfl ?_
        refine S_istore_n dX6_hummer_94 rfl (by decide) (lo' := [(3, .int b3), (2, .int b2), (6, .int x64), (5, .ref (zb Z + x42)), (0, .ref (zb Z + a0)), (1, .int a1), (4, .int b4)]) rfl (pc' := 95) rfl ?_
        refine S_iinc dX6_hummer_95 (q := 6) rfl (v := b4 + 1) rfl (by decide) (lo' := [(4, .int (b4 + 1)), (3, .int b3), (2, .int b2), (6, .int x64), (5, .ref (zb Z + x42)), (0, .ref (zb Z + a0)), (1, .int a1)]) rfl (pc' := 98) rfl ?_
        refine S_goto dX6_hummer_98 22 rfl ?_
        refine Sim.sub [5, 6, 2, 1, 0] rfl ?_
        exact hF _ _ _ _
      · refine S_iload dX6_hummer_75 6 rfl (pc' := 77) rfl ?_
        refine S_goto dX6_hummer_77 81 rfl ?_
        refine S_istore_n dX6_hummer_81 rfl (by decide) (lo' := [(2, .int b4), (6, .int x64), (5, .ref (zb Z + x42)), (0, .ref (zb Z + a0)), (1, .int a1), (3, .int b3), (4, .int b4)]) rfl (pc' := 82) rfl ?_
        refine S_iload dX6_hummer_82 1 rfl (pc' := 84) rfl ?_
        refine S_iload_n dX6_hummer_84 rfl 5 rfl (pc' := 85) rfl ?_
        refine S_icmp_le_N dX6_hummer_85 93 rfl (pc' := 88) rfl g72 ?_
        refine S_iload dX6_hummer_88 1 rfl (pc' := 90) rfl ?_
        refine S_goto dX6_hummer_90 94 rfl ?_
        refine S_istore_n dX6_hummer_94 rfl (by decide) (lo' := [(3, .int x64), (2, .int b4), (6, .int x64), (5, .ref (zb Z + x42)), (0, .ref (zb Z + a0)), (1, .int a1), (4, .int b4)]) rfl (pc' := 95) rfl ?_
        refine S_iinc dX6_hummer_95 (q := 6) rfl (v := b4 + 1) rfl (by decide) (lo' := [(4, .int (b4 + 1)), (3, .int x64), (2, .int b4), (6, .int x64), (5, .ref (zb Z + x42)), (0, .ref (zb Z + a0)), (1, .int a1)]) rfl (pc' := 98) rfl ?_
        refine S_goto dX6_hummer_98 22 rfl ?_
        refine Sim.sub [5, 6, 2, 1, 0] rfl ?_
        exact hF _ _ _ _
theorem lq_X6_hummer_22 (Z : ZZ) (l : Launch) (a0 : Nat) (a1 : Int32) {args : Array Value} {h0 h1 : HP} {v0 : Int32} (K : Int32 → HP → Option (Int32 × HP))
    (hK : ∀ (b2 : Int32) (h : HP), Sim Z l cX6_hummer RX6 7 6 133 (some .int) "hummer" args (Mq Z args h0 h1 (some (.int v0))) h0 h1 v0 101 [(2, .int b2)] [] h (K b2 h)) :
    ∀ (k : Nat) (b2 : Int32) (b3 : Int32) (b4 : Int32) (h : HP), Sim Z l cX6_hummer RX6 7 6 133 (some .int) "hummer" args (Mq Z args h0 h1 (some (.int v0))) h0 h1 v0 22 [(0, .ref (zb Z + a0)), (1, .int a1), (2, .int b2), (3, .int b3), (4, .int b4)] [] h (lp_X6_hummer_22 a0 a1 K k b2 b3 b4 h) := by
  intro k
  induction k with
  | zero => exact fun _ _ _ _ => Sim.none
  | succ k ih => exact lc_X6_hummer_22 Z l a0 a1 K _ hK ih
set_option maxRecDepth 100000 in
set_option maxHeartbeats 4000000 in
theorem c_X6_hummer (Z : ZZ) (l : Launch) (t : Nat) (a1 : Int32) (h : HP) {v : Int32} {h1 : HP} (ho : f_X6_hummer t a1 h = some (v, h1)) : MetP Z l yX6_hummer cX6_hummer 7 (some .int) 6 133 [.ref (zb Z + t), .int a1] h (some (.int v)) h1 := by
  refine MetP_of ho (by decide +kernel) (Nat.le_of_ble_eq_true rfl) [(0, .ref (zb Z + t)), (1, .int a1)] rfl (own := RX6) rfl (nm := "hummer") rfl ?_
  unfold f_X6_hummer
  refine S_aload_n dX6_hummer_0 rfl 0 rfl (pc' := 1) rfl ?_
  refine S_iload_n dX6_hummer_1 rfl 1 rfl (pc' := 2) rfl ?_
  refine S_invi ml_X6_148 mi_X6_isSong (ci := 6) ⟨_, rfl, rfl⟩ (by decide) dX6_hummer_2 [.int a1] rfl (fun v h2 q => c_X6_isSong Z l _ _ _ q) ⟨Nat.le_of_ble_eq_true rfl, Nat.le_of_ble_eq_true rfl⟩ (rest := []) (Nat.le_of_ble_eq_true rfl) rfl (pc' := 5) rfl (fun x2 h2 => ?_)
  refine S_if_ne dX6_hummer_5 15 rfl (pc' := 8) rfl (fun g5 => ?_) (fun g5 => ?_)
  · refine S_iconst dX6_hummer_15 (v := (-1)) rfl (pc' := 16) rfl ?_
    refine S_istore_n dX6_hummer_16 rfl (by decide) (lo' := [(2, .int (-1)), (0, .ref (zb Z + t)), (1, .int a1)]) rfl (pc' := 17) rfl ?_
    refine S_iconst dX6_hummer_17 (v := (-1)) rfl (pc' := 18) rfl ?_
    refine S_istore_n dX6_hummer_18 rfl (by decide) (lo' := [(3, .int (-1)), (2, .int (-1)), (0, .ref (zb Z + t)), (1, .int a1)]) rfl (pc' := 19) rfl ?_
    refine S_iconst dX6_hummer_19 (v := 0) rfl (pc' := 20) rfl ?_
    refine S_istore dX6_hummer_20 (by decide) (lo' := [(4, .int 0), (3, .int (-1)), (2, .int (-1)), (0, .ref (zb Z + t)), (1, .int a1)]) rfl (pc' := 22) rfl ?_
    refine Sim.sub [3, 4, 2, 1, 0] rfl ?_
    refine lq_X6_hummer_22 Z l t a1 _ ?_ 1000 _ _ _ _
    intro b2_22 h22_
    refine S_iload_n dX6_hummer_101 rfl 0 rfl (pc' := 102) rfl ?_
    exact S_iret rfl dX6_hummer_102
  · refine S_aload_n dX6_hummer_8 rfl 0 rfl (pc' := 9) rfl ?_
    refine S_bipush dX6_hummer_9 (v := (-2)) rfl (pc' := 11) rfl ?_
    refine S_invi ml_X6_108 mi_X6_refuse (ci := 6) ⟨_, rfl, rfl⟩ (by decide) dX6_hummer_11 [.int (-2)] rfl (fun v h2 q => c_X6_refuse Z l _ _ _ q) ⟨Nat.le_of_ble_eq_true rfl, Nat.le_of_ble_eq_true rfl⟩ (rest := []) (Nat.le_of_ble_eq_true rfl) rfl (pc' := 14) rfl (fun x11 h11 => ?_)
    exact S_iret rfl dX6_hummer_14
theorem dX6_next_0 : decode cX6_next 0 = .ok (.iconst (-1), 1) := by decide +kernel
theorem dX6_next_1 : decode cX6_next 1 = .ok (.istore_n 1, 1) := by decide +kernel
theorem dX6_next_2 : decode cX6_next 2 = .ok (.bipush 61, 2) := by decide +kernel
theorem dX6_next_4 : decode cX6_next 4 = .ok (.istore_n 2, 1) := by decide +kernel
theorem dX6_next_5 : decode cX6_next 5 = .ok (.iconst 0, 1) := by decide +kernel
theorem dX6_next_6 : decode cX6_next 6 = .ok (.istore_n 3, 1) := by decide +kernel
theorem dX6_next_7 : decode cX6_next 7 = .ok (.iload_n 3, 1) := by decide +kernel
theorem dX6_next_8 : decode cX6_next 8 = .ok (.aload_n 0, 1) := by decide +kernel
theorem dX6_next_9 : decode cX6_next 9 = .ok (.getfield 99, 3) := by decide +kernel
theorem dX6_next_12 : decode cX6_next 12 = .ok (.if_icmp .ge 55, 3) := by decide +kernel
theorem dX6_next_15 : decode cX6_next 15 = .ok (.aload_n 0, 1) := by decide +kernel
theorem dX6_next_16 : decode cX6_next 16 = .ok (.getfield 62, 3) := by decide +kernel
theorem dX6_next_19 : decode cX6_next 19 = .ok (.iload_n 3, 1) := by decide +kernel
theorem dX6_next_20 : decode cX6_next 20 = .ok (.iaload, 1) := by decide +kernel
theorem dX6_next_21 : decode cX6_next 21 = .ok (.ifCond .ne 11, 3) := by decide +kernel
theorem dX6_next_24 : decode cX6_next 24 = .ok (.aload_n 0, 1) := by decide +kernel
theorem dX6_next_25 : decode cX6_next 25 = .ok (.iload_n 3, 1) := by decide +kernel
theorem dX6_next_26 : decode cX6_next 26 = .ok (.invokevirtual 319, 3) := by decide +kernel
theorem dX6_next_29 : decode cX6_next 29 = .ok (.goto 5, 3) := by decide +kernel
theorem dX6_next_32 : decode cX6_next 32 = .ok (.bipush 61, 2) := by decide +kernel
theorem dX6_next_34 : decode cX6_next 34 = .ok (.istore 4, 2) := by decide +kernel
theorem dX6_next_36 : decode cX6_next 36 = .ok (.iload 4, 2) := by decide +kernel
theorem dX6_next_38 : decode cX6_next 38 = .ok (.iload_n 2, 1) := by decide +kernel
theorem dX6_next_39 : decode cX6_next 39 = .ok (.if_icmp .ge 7, 3) := by decide +kernel
theorem dX6_next_42 : decode cX6_next 42 = .ok (.iload_n 3, 1) := by decide +kernel
theorem dX6_next_43 : decode cX6_next 43 = .ok (.goto 4, 3) := by decide +kernel
theorem dX6_next_46 : decode cX6_next 46 = .ok (.iload_n 1, 1) := by decide +kernel
theorem dX6_next_47 : decode cX6_next 47 = .ok (.istore_n 1, 1) := by decide +kernel
theorem dX6_next_48 : decode cX6_next 48 = .ok (.iload 4, 2) := by decide +kernel
theorem dX6_next_50 : decode cX6_next 50 = .ok (.iload_n 2, 1) := by decide +kernel
theorem dX6_next_51 : decode cX6_next 51 = .ok (.if_icmp .ge 8, 3) := by decide +kernel
theorem dX6_next_54 : decode cX6_next 54 = .ok (.iload 4, 2) := by decide +kernel
theorem dX6_next_56 : decode cX6_next 56 = .ok (.goto 4, 3) := by decide +kernel
theorem dX6_next_59 : decode cX6_next 59 = .ok (.iload_n 2, 1) := by decide +kernel
theorem dX6_next_60 : decode cX6_next 60 = .ok (.istore_n 2, 1) := by decide +kernel
theorem dX6_next_61 : decode cX6_next 61 = .ok (.iinc 3 1, 3) := by decide +kernel
theorem dX6_next_64 : decode cX6_next 64 = .ok (.goto (-57), 3) := by decide +kernel
theorem dX6_next_67 : decode cX6_next 67 = .ok (.iload_n 1, 1) := by decide +kernel
theorem dX6_next_68 : decode cX6_next 68 = .ok (.ireturn, 1) := by decide +kernel
set_option maxRecDepth 100000 in
set_option maxHeartbeats 4000000 in
theorem lc_X6_next_7 (Z : ZZ) (l : Launch) (a0 : Nat) {args : Array Value} {h0 h1 : HP} {v0 : Int32} (K : Int32 → HP → Option (Int32 × HP)) (F : Int32 → Int32 → Int32 → HP → Option (Int32 × HP))
    (hK : ∀ (b1 : Int32) (h : HP), Sim Z l cX6_next RX6 5 7 154 (some .int) "next" args (Mq Z args h0 h1 (some (.int v0))) h0 h1 v0 67 [(1, .int b1)] [] h (K b1 h))
    (hF : ∀ (b1 : Int32) (b2 : Int32) (b3 : Int32) (h : HP), Sim Z l cX6_next RX6 5 7 154 (some .int) "next" args (Mq Z args h0 h1 (some (.int v0))) h0 h1 v0 7 [(0, .ref (zb Z + a0)), (1, .int b1), (2, .int b2), (3, .int b3)] [] h (F b1 b2 b3 h)) :
    ∀ (b1 : Int32) (b2 : Int32) (b3 : Int32) (h : HP), Sim Z l cX6_next RX6 5 7 154 (some .int) "next" args (Mq Z args h0 h1 (some (.int v0))) h0 h1 v0 7 [(0, .ref (zb Z + a0)), (1, .int b1), (2, .int b2), (3, .int b3)] [] h (lb_X6_next_7 a0 K F b1 b2 b3 h) := by
  intro b1 b2 b3 h
  unfold lb_X6_next_7
  refine S_iload_n dX6_next_7 rfl 3 rfl (pc' := 8) rfl ?_
  refine S_aload_n dX6_next_8 rfl 0 rfl (pc' := 9) rfl ?_
  refine S_getI fl_X6_99 rfl dX6_next_9 (pc' := 12) rfl (fun x9 => ?_)
  refine S_icmp_ge dX6_next_12 67 rfl (pc' := 15) rfl (fun g12 => ?_) (fun g12 => ?_)
  · refine Sim.sub [1] rfl ?_
    exact hK _ _
  · refine S_aload_n dX6_next_15 rfl 0 rfl (pc' := 16) rfl ?_
    refine S_getR fl_X6_62 rfl dX6_next_16 (pc' := 19) rfl (fun x16 => ?_)
    refine S_iload_n dX6_next_19 rfl 3 rfl (pc' := 20) rfl ?_
    refine S_iaload dX6_next_20 (pc' := 21) rfl (fun x20 => ?_)
    refine S_if_ne dX6_next_21 32 rfl (pc' := 24) rfl (fun g21 => ?_) (fun g21 => ?_)
    · refine S_bipush dX6_next_32 (v := 61) rfl (pc' := 34) rfl ?_
      refine S_istore dX6_next_34 (by decide) (lo' := [(4, .int 61), (0, .ref (zb Z + a0)), (1, .int b1), (2, .int b2), (3, .int b3)]) rfl (pc' := 36) rfl ?_
      refine S_iload dX6_next_36 0 rfl (pc' := 38) rfl ?_
      refine S_iload_n dX6_next_38 rfl 3 rfl (pc' := 39) rfl ?_
      refine S_icmp_ge dX6_next_39 46 rfl (pc' := 42) rfl (fun g39 => ?_) (fun g39 => ?_)
      · refine S_iload_n dX6_next_46 rfl 2 rfl (pc' := 47) rfl ?_
        refine S_istore_n dX6_next_47 rfl (by decide) (lo' := [(1, .int b1), (4, .int 61), (0, .ref (zb Z + a0)), (2, .int b2), (3, .int b3)]) rfl (pc' := 48) rfl ?_
        refine S_iload dX6_next_48 1 rfl (pc' := 50) rfl ?_
        refine S_iload_n dX6_next_50 rfl 3 rfl (pc' := 51) rfl ?_
        refine S_icmp_ge_J dX6_next_51 59 rfl (pc' := 54) rfl g39 ?_
        refine S_iload_n dX6_next_59 rfl 3 rfl (pc' := 60) rfl ?_
        refine S_istore_n dX6_next_60 rfl (by decide) (lo' := [(2, .int b2), (1, .int b1), (4, .int 61), (0, .ref (zb Z + a0)), (3, .int b3)]) rfl (pc' := 61) rfl ?_
        refine S_iinc dX6_next_61 (q := 4) rfl (v := b3 + 1) rfl (by decide) (lo' := [(3, .int (b3 + 1)), (2, .int b2), (1, .int b1), (4, .int 61), (0, .ref (zb Z + a0))]) rfl (pc' := 64) rfl ?_
        refine S_goto dX6_next_64 7 rfl ?_
        refine Sim.sub [4, 2, 1, 0] rfl ?_
        exact hF _ _ _ _
      · refine S_iload_n dX6_next_42 rfl 4 rfl (pc' := 43) rfl ?_
        refine S_goto dX6_next_43 47 rfl ?_
        refine S_istore_n dX6_next_47 rfl (by decide) (lo' := [(1, .int b3), (4, .int 61), (0, .ref (zb Z + a0)), (2, .int b2), (3, .int b3)]) rfl (pc' := 48) rfl ?_
        refine S_iload dX6_next_48 1 rfl (pc' := 50) rfl ?_
        refine S_iload_n dX6_next_50 rfl 3 rfl (pc' := 51) rfl ?_
        refine S_icmp_ge_N dX6_next_51 59 rfl (pc' := 54) rfl g39 ?_
        refine S_iload dX6_next_54 1 rfl (pc' := 56) rfl ?_
        refine S_goto dX6_next_56 60 rfl ?_
        refine S_istore_n dX6_next_60 rfl (by decide) (lo' := [(2, .int 61), (1, .int b3), (4, .int 61), (0, .ref (zb Z + a0)), (3, .int b3)]) rfl (pc' := 61) rfl ?_
        refine S_iinc dX6_next_61 (q := 4) rfl (v := b3 + 1) rfl (by decide) (lo' := [(3, .int (b3 + 1)), (2, .int 61), (1, .int b3), (4, .int 61), (0, .ref (zb Z + a0))]) rfl (pc' := 64) rfl ?_
        refine S_goto dX6_next_64 7 rfl ?_
        refine Sim.sub [4, 2, 1, 0] rfl ?_
        exact hF _ _ _ _
    · refine S_aload_n dX6_next_24 rfl 0 rfl (pc' := 25) rfl ?_
      refine S_iload_n dX6_next_25 rfl 3 rfl (pc' := 26) rfl ?_
      refine S_invi ml_X6_319 mi_X6_lostNow (ci := 6) ⟨_, rfl, rfl⟩ (by decide) dX6_next_26 [.int b3] rfl (fun v h2 q => c_X6_lostNow Z l _ _ _ q) ⟨Nat.le_of_ble_eq_true rfl, Nat.le_of_ble_eq_true rfl⟩ (rest := []) (Nat.le_of_ble_eq_true rfl) rfl (pc' := 29) rfl (fun x26 h26 => ?_)
      refine S_goto dX6_next_29 34 rfl ?_
      refine S_istore dX6_next_34 (by decide) (lo' := [(4, .int x26), (0, .ref (zb Z + a0)), (1, .int b1), (2, .int b2), (3, .int b3)]) rfl (pc' := 36) rfl ?_
      refine S_iload dX6_next_36 0 rfl (pc' := 38) rfl ?_
      refine S_iload_n dX6_next_38 rfl 3 rfl (pc' := 39) rfl ?_
      refine S_icmp_ge dX6_next_39 46 rfl (pc' := 42) rfl (fun g39 => ?_) (fun g39 => ?_)
      · refine S_iload_n dX6_next_46 rfl 2 rfl (pc' := 47) rfl ?_
        refine S_istore_n dX6_next_47 rfl (by decide) (lo' := [(1, .int b1), (4, .int x26), (0, .ref (zb Z + a0)), (2, .int b2), (3, .int b3)]) rfl (pc' := 48) rfl ?_
        refine S_iload dX6_next_48 1 rfl (pc' := 50) rfl ?_
        refine S_iload_n dX6_next_50 rfl 3 rfl (pc' := 51) rfl ?_
        refine S_icmp_ge_J dX6_next_51 59 rfl (pc' := 54) rfl g39 ?_
        refine S_iload_n dX6_next_59 rfl 3 rfl (pc' := 60) rfl ?_
        refine S_istore_n dX6_next_60 rfl (by decide) (lo' := [(2, .int b2), (1, .int b1), (4, .int x26), (0, .ref (zb Z + a0)), (3, .int b3)]) rfl (pc' := 61) rfl ?_
        refine S_iinc dX6_next_61 (q := 4) rfl (v := b3 + 1) rfl (by decide) (lo' := [(3, .int (b3 + 1)), (2, .int b2), (1, .int b1), (4, .int x26), (0, .ref (zb Z + a0))]) rfl (pc' := 64) rfl ?_
        refine S_goto dX6_next_64 7 rfl ?_
        refine Sim.sub [4, 2, 1, 0] rfl ?_
        exact hF _ _ _ _
      · refine S_iload_n dX6_next_42 rfl 4 rfl (pc' := 43) rfl ?_
        refine S_goto dX6_next_43 47 rfl ?_
        refine S_istore_n dX6_next_47 rfl (by decide) (lo' := [(1, .int b3), (4, .int x26), (0, .ref (zb Z + a0)), (2, .int b2), (3, .int b3)]) rfl (pc' := 48) rfl ?_
        refine S_iload dX6_next_48 1 rfl (pc' := 50) rfl ?_
        refine S_iload_n dX6_next_50 rfl 3 rfl (pc' := 51) rfl ?_
        refine S_icmp_ge_N dX6_next_51 59 rfl (pc' := 54) rfl g39 ?_
        refine S_iload dX6_next_54 1 rfl (pc' := 56) rfl ?_
        refine S_goto dX6_next_56 60 rfl ?_
        refine S_istore_n dX6_next_60 rfl (by decide) (lo' := [(2, .int x26), (1, .int b3), (4, .int x26), (0, .ref (zb Z + a0)), (3, .int b3)]) rfl (pc' := 61) rfl ?_
        refine S_iinc dX6_next_61 (q := 4) rfl (v := b3 + 1) rfl (by decide) (lo' := [(3, .int (b3 + 1)), (2, .int x26), (1, .int b3), (4, .int x26), (0, .ref (zb Z + a0))]) rfl (pc' := 64) rfl ?_
        refine S_goto dX6_next_64 7 rfl ?_
        refine Sim.sub [4, 2, 1, 0] rfl ?_
        exact hF _ _ _ _
theorem lq_X6_next_7 (Z : ZZ) (l : Launch) (a0 : Nat) {args : Array Value} {h0 h1 : HP} {v0 : Int32} (K : Int32 → HP → Option (Int32 × HP))
    (hK : ∀ (b1 : Int32) (h : HP), Sim Z l cX6_next RX6 5 7 154 (some .int) "next" args (Mq Z args h0 h1 (some (.int v0))) h0 h1 v0 67 [(1, .int b1)] [] h (K b1 h)) :
    ∀ (k : Nat) (b1 : Int32) (b2 : Int32) (b3 : Int32) (h : HP), Sim Z l cX6_next RX6 5 7 154 (some .int) "next" args (Mq Z args h0 h1 (some (.int v0))) h0 h1 v0 7 [(0, .ref (zb Z + a0)), (1, .int b1), (2, .int b2), (3, .int b3)] [] h (lp_X6_next_7 a0 K k b1 b2 b3 h) := by
  intro k
  induction k with
  | zero => exact fun _ _ _ _ => Sim.none
  | succ k ih => exact lc_X6_next_7 Z l a0 K _ hK ih
set_option maxRecDepth 100000 in
set_option maxHeartbeats 4000000 in
theorem c_X6_next (Z : ZZ) (l : Launch) (t : Nat) (h : HP) {v : Int32} {h1 : HP} (ho : f_X6_next t h = some (v, h1)) : MetP Z l yX6_next cX6_next 5 (some .int) 7 154 [.ref (zb Z + t)] h (some (.int v)) h1 := by
  refine MetP_of ho (by decide +kernel) (Nat.le_of_ble_eq_true rfl) [(0, .ref (zb Z + t))] rfl (own := RX6) rfl (nm := "next") rfl ?_
  unfold f_X6_next
  refine S_iconst dX6_next_0 (v := (-1)) rfl (pc' := 1) rfl ?_
  refine S_istore_n dX6_next_1 rfl (by decide) (lo' := [(1, .int (-1)), (0, .ref (zb Z + t))]) rfl (pc' := 2) rfl ?_
  refine S_bipush dX6_next_2 (v := 61) rfl (pc' := 4) rfl ?_
  refine S_istore_n dX6_next_4 rfl (by decide) (lo' := [(2, .int 61), (1, .int (-1)), (0, .ref (zb Z + t))]) rfl (pc' := 5) rfl ?_
  refine S_iconst dX6_next_5 (v := 0) rfl (pc' := 6) rfl ?_
  refine S_istore_n dX6_next_6 rfl (by decide) (lo' := [(3, .int 0), (2, .int 61), (1, .int (-1)), (0, .ref (zb Z + t))]) rfl (pc' := 7) rfl ?_
  refine Sim.sub [3, 2, 1, 0] rfl ?_
  refine lq_X6_next_7 Z l t _ ?_ 1000 _ _ _ _
  intro b1_7 h7_
  refine S_iload_n dX6_next_67 rfl 0 rfl (pc' := 68) rfl ?_
  exact S_iret rfl dX6_next_68
theorem dX6_placeOf_0 : decode cX6_placeOf 0 = .ok (.iconst 0, 1) := by decide +kernel
theorem dX6_placeOf_1 : decode cX6_placeOf 1 = .ok (.istore_n 2, 1) := by decide +kernel
theorem dX6_placeOf_2 : decode cX6_placeOf 2 = .ok (.iconst 0, 1) := by decide +kernel
theorem dX6_placeOf_3 : decode cX6_placeOf 3 = .ok (.istore_n 3, 1) := by decide +kernel
theorem dX6_placeOf_4 : decode cX6_placeOf 4 = .ok (.iload_n 3, 1) := by decide +kernel
theorem dX6_placeOf_5 : decode cX6_placeOf 5 = .ok (.aload_n 0, 1) := by decide +kernel
theorem dX6_placeOf_6 : decode cX6_placeOf 6 = .ok (.getfield 99, 3) := by decide +kernel
theorem dX6_placeOf_9 : decode cX6_placeOf 9 = .ok (.if_icmp .ge 52, 3) := by decide +kernel
theorem dX6_placeOf_12 : decode cX6_placeOf 12 = .ok (.iload_n 2, 1) := by decide +kernel
theorem dX6_placeOf_13 : decode cX6_placeOf 13 = .ok (.aload_n 0, 1) := by decide +kernel
theorem dX6_placeOf_14 : decode cX6_placeOf 14 = .ok (.getfield 80, 3) := by decide +kernel
theorem dX6_placeOf_17 : decode cX6_placeOf 17 = .ok (.iload_n 3, 1) := by decide +kernel
theorem dX6_placeOf_18 : decode cX6_placeOf 18 = .ok (.iaload, 1) := by decide +kernel
theorem dX6_placeOf_19 : decode cX6_placeOf 19 = .ok (.aload_n 0, 1) := by decide +kernel
theorem dX6_placeOf_20 : decode cX6_placeOf 20 = .ok (.getfield 80, 3) := by decide +kernel
theorem dX6_placeOf_23 : decode cX6_placeOf 23 = .ok (.iload_n 1, 1) := by decide +kernel
theorem dX6_placeOf_24 : decode cX6_placeOf 24 = .ok (.iaload, 1) := by decide +kernel
theorem dX6_placeOf_25 : decode cX6_placeOf 25 = .ok (.if_icmp .lt 23, 3) := by decide +kernel
theorem dX6_placeOf_28 : decode cX6_placeOf 28 = .ok (.aload_n 0, 1) := by decide +kernel
theorem dX6_placeOf_29 : decode cX6_placeOf 29 = .ok (.getfield 80, 3) := by decide +kernel
theorem dX6_placeOf_32 : decode cX6_placeOf 32 = .ok (.iload_n 3, 1) := by decide +kernel
theorem dX6_placeOf_33 : decode cX6_placeOf 33 = .ok (.iaload, 1) := by decide +kernel
theorem dX6_placeOf_34 : decode cX6_placeOf 34 = .ok (.aload_n 0, 1) := by decide +kernel
theorem dX6_placeOf_35 : decode cX6_placeOf 35 = .ok (.getfield 80, 3) := by decide +kernel
theorem dX6_placeOf_38 : decode cX6_placeOf 38 = .ok (.iload_n 1, 1) := by decide +kernel
theorem dX6_placeOf_39 : decode cX6_placeOf 39 = .ok (.iaload, 1) := by decide +kernel
theorem dX6_placeOf_40 : decode cX6_placeOf 40 = .ok (.if_icmp .ne 12, 3) := by decide +kernel
theorem dX6_placeOf_43 : decode cX6_placeOf 43 = .ok (.iload_n 3, 1) := by decide +kernel
theorem dX6_placeOf_44 : decode cX6_placeOf 44 = .ok (.iload_n 1, 1) := by decide +kernel
theorem dX6_placeOf_45 : decode cX6_placeOf 45 = .ok (.if_icmp .ge 7, 3) := by decide +kernel
theorem dX6_placeOf_48 : decode cX6_placeOf 48 = .ok (.iconst 1, 1) := by decide +kernel
theorem dX6_placeOf_49 : decode cX6_placeOf 49 = .ok (.goto 4, 3) := by decide +kernel
theorem dX6_placeOf_52 : decode cX6_placeOf 52 = .ok (.iconst 0, 1) := by decide +kernel
theorem dX6_placeOf_53 : decode cX6_placeOf 53 = .ok (.iadd, 1) := by decide +kernel
theorem dX6_placeOf_54 : decode cX6_placeOf 54 = .ok (.istore_n 2, 1) := by decide +kernel
theorem dX6_placeOf_55 : decode cX6_placeOf 55 = .ok (.iinc 3 1, 3) := by decide +kernel
theorem dX6_placeOf_58 : decode cX6_placeOf 58 = .ok (.goto (-54), 3) := by decide +kernel
theorem dX6_placeOf_61 : decode cX6_placeOf 61 = .ok (.iload_n 2, 1) := by decide +kernel
theorem dX6_placeOf_62 : decode cX6_placeOf 62 = .ok (.ireturn, 1) := by decide +kernel
set_option maxRecDepth 100000 in
set_option maxHeartbeats 4000000 in
theorem lc_X6_placeOf_4 (Z : ZZ) (l : Launch) (a0 : Nat) (a1 : Int32) {args : Array Value} {h0 h1 : HP} {v0 : Int32} (K : Int32 → HP → Option (Int32 × HP)) (F : Int32 → Int32 → HP → Option (Int32 × HP))
    (hK : ∀ (b2 : Int32) (h : HP), Sim Z l cX6_placeOf RX6 4 0 0 (some .int) "placeOf" args (Mq Z args h0 h1 (some (.int v0))) h0 h1 v0 61 [(2, .int b2)] [] h (K b2 h))
    (hF : ∀ (b2 : Int32) (b3 : Int32) (h : HP), Sim Z l cX6_placeOf RX6 4 0 0 (some .int) "placeOf" args (Mq Z args h0 h1 (some (.int v0))) h0 h1 v0 4 [(0, .ref (zb Z + a0)), (1, .int a1), (2, .int b2), (3, .int b3)] [] h (F b2 b3 h)) :
    ∀ (b2 : Int32) (b3 : Int32) (h : HP), Sim Z l cX6_placeOf RX6 4 0 0 (some .int) "placeOf" args (Mq Z args h0 h1 (some (.int v0))) h0 h1 v0 4 [(0, .ref (zb Z + a0)), (1, .int a1), (2, .int b2), (3, .int b3)] [] h (lb_X6_placeOf_4 a0 a1 K F b2 b3 h) := by
  intro b2 b3 h
  unfold lb_X6_placeOf_4
  refine S_iload_n dX6_placeOf_4 rfl 3 rfl (pc' := 5) rfl ?_
  refine S_aload_n dX6_placeOf_5 rfl 0 rfl (pc' := 6) rfl ?_
  refine S_getI fl_X6_99 rfl dX6_placeOf_6 (pc' := 9) rfl (fun x6 => ?_)
  refine S_icmp_ge dX6_placeOf_9 61 rfl (pc' := 12) rfl (fun g9 => ?_) (fun g9 => ?_)
  · refine Sim.sub [2] rfl ?_
    exact hK _ _
  · refine S_iload_n dX6_placeOf_12 rfl 2 rfl (pc' := 13) rfl ?_
    refine S_aload_n dX6_placeOf_13 rfl 0 rfl (pc' := 14) rfl ?_
    refine S_getR fl_X6_80 rfl dX6_placeOf_14 (pc' := 17) rfl (fun x14 => ?_)
    refine S_iload_n dX6_placeOf_17 rfl 3 rfl (pc' := 18) rfl ?_
    refine S_iaload dX6_placeOf_18 (pc' := 19) rfl (fun x18 => ?_)
    refine S_aload_n dX6_placeOf_19 rfl 0 rfl (pc' := 20) rfl ?_
    refine S_getR fl_X6_80 rfl dX6_placeOf_20 (pc' := 23) rfl (fun x20 => ?_)
    refine S_iload_n dX6_placeOf_23 rfl 1 rfl (pc' := 24) rfl ?_
    refine S_iaload dX6_placeOf_24 (pc' := 25) rfl (fun x24 => ?_)
    refine S_icmp_lt dX6_placeOf_25 48 rfl (pc' := 28) rfl (fun g25 => ?_) (fun g25 => ?_)
    · refine S_iconst dX6_placeOf_48 (v := 1) rfl (pc' := 49) rfl ?_
      refine S_goto dX6_placeOf_49 53 rfl ?_
      refine S_iadd dX6_placeOf_53 (pc' := 54) rfl ?_
      refine S_istore_n dX6_placeOf_54 rfl (by decide) (lo' := [(2, .int (b2 + 1)), (0, .ref (zb Z + a0)), (1, .int a1), (3, .int b3)]) rfl (pc' := 55) rfl ?_
      refine S_iinc dX6_placeOf_55 (q := 3) rfl (v := b3 + 1) rfl (by decide) (lo' := [(3, .int (b3 + 1)), (2, .int (b2 + 1)), (0, .ref (zb Z + a0)), (1, .int a1)]) rfl (pc' := 58) rfl ?_
      refine S_goto dX6_placeOf_58 4 rfl ?_
      refine Sim.sub [2, 3, 1, 0] rfl ?_
      exact hF _ _ _
    · refine S_aload_n dX6_placeOf_28 rfl 0 rfl (pc' := 29) rfl ?_
      refine S_getR fl_X6_80 rfl dX6_placeOf_29 (pc' := 32) rfl (fun x29 => ?_)
      refine S_iload_n dX6_placeOf_32 rfl 3 rfl (pc' := 33) rfl ?_
      refine S_iaload dX6_placeOf_33 (pc' := 34) rfl (fun x33 => ?_)
      refine S_aload_n dX6_placeOf_34 rfl 0 rfl (pc' := 35) rfl ?_
      refine S_getR fl_X6_80 rfl dX6_placeOf_35 (pc' := 38) rfl (fun x35 => ?_)
      refine S_iload_n dX6_placeOf_38 rfl 1 rfl (pc' := 39) rfl ?_
      refine S_iaload dX6_placeOf_39 (pc' := 40) rfl (fun x39 => ?_)
      refine S_icmp_ne dX6_placeOf_40 52 rfl (pc' := 43) rfl (fun g40 => ?_) (fun g40 => ?_)
      · refine S_iconst dX6_placeOf_52 (v := 0) rfl (pc' := 53) rfl ?_
        refine S_iadd dX6_placeOf_53 (pc' := 54) rfl ?_
        refine S_istore_n dX6_placeOf_54 rfl (by decide) (lo' := [(2, .int (b2 + 0)), (0, .ref (zb Z + a0)), (1, .int a1), (3, .int b3)]) rfl (pc' := 55) rfl ?_
        refine S_iinc dX6_placeOf_55 (q := 3) rfl (v := b3 + 1) rfl (by decide) (lo' := [(3, .int (b3 + 1)), (2, .int (b2 + 0)), (0, .ref (zb Z + a0)), (1, .int a1)]) rfl (pc' := 58) rfl ?_
        refine S_goto dX6_placeOf_58 4 rfl ?_
        refine Sim.sub [2, 3, 1, 0] rfl ?_
        exact hF _ _ _
      · refine S_iload_n dX6_placeOf_43 rfl 3 rfl (pc' := 44) rfl ?_
        refine S_iload_n dX6_placeOf_44 rfl 1 rfl (pc' := 45) rfl ?_
        refine S_icmp_ge dX6_placeOf_45 52 rfl (pc' := 48) rfl (fun g45 => ?_) (fun g45 => ?_)
        · refine S_iconst dX6_placeOf_52 (v := 0) rfl (pc' := 53) rfl ?_
          refine S_iadd dX6_placeOf_53 (pc' := 54) rfl ?_
          refine S_istore_n dX6_placeOf_54 rfl (by decide) (lo' := [(2, .int (b2 + 0)), (0, .ref (zb Z + a0)), (1, .int a1), (3, .int b3)]) rfl (pc' := 55) rfl ?_
          refine S_iinc dX6_placeOf_55 (q := 3) rfl (v := b3 + 1) rfl (by decide) (lo' := [(3, .int (b3 + 1)), (2, .int (b2 + 0)), (0, .ref (zb Z + a0)), (1, .int a1)]) rfl (pc' := 58) rfl ?_
          refine S_goto dX6_placeOf_58 4 rfl ?_
          refine Sim.sub [2, 3, 1, 0] rfl ?_
          exact hF _ _ _
        · refine S_iconst dX6_placeOf_48 (v := 1) rfl (pc' := 49) rfl ?_
          refine S_goto dX6_placeOf_49 53 rfl ?_
          refine S_iadd dX6_placeOf_53 (pc' := 54) rfl ?_
          refine S_istore_n dX6_placeOf_54 rfl (by decide) (lo' := [(2, .int (b2 + 1)), (0, .ref (zb Z + a0)), (1, .int a1), (3, .int b3)]) rfl (pc' := 55) rfl ?_
          refine S_iinc dX6_placeOf_55 (q := 3) rfl (v := b3 + 1) rfl (by decide) (lo' := [(3, .int (b3 + 1)), (2, .int (b2 + 1)), (0, .ref (zb Z + a0)), (1, .int a1)]) rfl (pc' := 58) rfl ?_
          refine S_goto dX6_placeOf_58 4 rfl ?_
          refine Sim.sub [2, 3, 1, 0] rfl ?_
          exact hF _ _ _
theorem lq_X6_placeOf_4 (Z : ZZ) (l : Launch) (a0 : Nat) (a1 : Int32) {args : Array Value} {h0 h1 : HP} {v0 : Int32} (K : Int32 → HP → Option (Int32 × HP))
    (hK : ∀ (b2 : Int32) (h : HP), Sim Z l cX6_placeOf RX6 4 0 0 (some .int) "placeOf" args (Mq Z args h0 h1 (some (.int v0))) h0 h1 v0 61 [(2, .int b2)] [] h (K b2 h)) :
    ∀ (k : Nat) (b2 : Int32) (b3 : Int32) (h : HP), Sim Z l cX6_placeOf RX6 4 0 0 (some .int) "placeOf" args (Mq Z args h0 h1 (some (.int v0))) h0 h1 v0 4 [(0, .ref (zb Z + a0)), (1, .int a1), (2, .int b2), (3, .int b3)] [] h (lp_X6_placeOf_4 a0 a1 K k b2 b3 h) := by
  intro k
  induction k with
  | zero => exact fun _ _ _ => Sim.none
  | succ k ih => exact lc_X6_placeOf_4 Z l a0 a1 K _ hK ih
set_option maxRecDepth 100000 in
set_option maxHeartbeats 4000000 in
theorem c_X6_placeOf (Z : ZZ) (l : Launch) (t : Nat) (a1 : Int32) (h : HP) {v : Int32} {h1 : HP} (ho : f_X6_placeOf t a1 h = some (v, h1)) : MetP Z l yX6_placeOf cX6_placeOf 4 (some .int) 0 0 [.ref (zb Z + t), .int a1] h (some (.int v)) h1 := by
  refine MetP_of ho (by decide +kernel) (Nat.le_of_ble_eq_true rfl) [(0, .ref (zb Z + t)), (1, .int a1)] rfl (own := RX6) rfl (nm := "placeOf") rfl ?_
  unfold f_X6_placeOf
  refine S_iconst dX6_placeOf_0 (v := 0) rfl (pc' := 1) rfl ?_
  refine S_istore_n dX6_placeOf_1 rfl (by decide) (lo' := [(2, .int 0), (0, .ref (zb Z + t)), (1, .int a1)]) rfl (pc' := 2) rfl ?_
  refine S_iconst dX6_placeOf_2 (v := 0) rfl (pc' := 3) rfl ?_
  refine S_istore_n dX6_placeOf_3 rfl (by decide) (lo' := [(3, .int 0), (2, .int 0), (0, .ref (zb Z + t)), (1, .int a1)]) rfl (pc' := 4) rfl ?_
  refine Sim.sub [2, 3, 1, 0] rfl ?_
  refine lq_X6_placeOf_4 Z l t a1 _ ?_ 1000 _ _ _
  intro b2_4 h4_
  refine S_iload_n dX6_placeOf_61 rfl 0 rfl (pc' := 62) rfl ?_
  exact S_iret rfl dX6_placeOf_62
theorem dX6_order_0 : decode cX6_order 0 = .ok (.aload_n 0, 1) := by decide +kernel
theorem dX6_order_1 : decode cX6_order 1 = .ok (.iload_n 1, 1) := by decide +kernel
theorem dX6_order_2 : decode cX6_order 2 = .ok (.invokevirtual 148, 3) := by decide +kernel
theorem dX6_order_5 : decode cX6_order 5 = .ok (.ifCond .ne 10, 3) := by decide +kernel
theorem dX6_order_8 : decode cX6_order 8 = .ok (.aload_n 0, 1) := by decide +kernel
theorem dX6_order_9 : decode cX6_order 9 = .ok (.bipush (-2), 2) := by decide +kernel
theorem dX6_order_11 : decode cX6_order 11 = .ok (.invokevirtual 108, 3) := by decide +kernel
theorem dX6_order_14 : decode cX6_order 14 = .ok (.ireturn, 1) := by decide +kernel
theorem dX6_order_15 : decode cX6_order 15 = .ok (.iconst 0, 1) := by decide +kernel
theorem dX6_order_16 : decode cX6_order 16 = .ok (.istore_n 2, 1) := by decide +kernel
theorem dX6_order_17 : decode cX6_order 17 = .ok (.iload_n 2, 1) := by decide +kernel
theorem dX6_order_18 : decode cX6_order 18 = .ok (.aload_n 0, 1) := by decide +kernel
theorem dX6_order_19 : decode cX6_order 19 = .ok (.getfield 99, 3) := by decide +kernel
theorem dX6_order_22 : decode cX6_order 22 = .ok (.if_icmp .ge 20, 3) := by decide +kernel
theorem dX6_order_25 : decode cX6_order 25 = .ok (.aload_n 0, 1) := by decide +kernel
theorem dX6_order_26 : decode cX6_order 26 = .ok (.getfield 80, 3) := by decide +kernel
theorem dX6_order_29 : decode cX6_order 29 = .ok (.iload_n 2, 1) := by decide +kernel
theorem dX6_order_30 : decode cX6_order 30 = .ok (.aload_n 0, 1) := by decide +kernel
theorem dX6_order_31 : decode cX6_order 31 = .ok (.iload_n 2, 1) := by decide +kernel
theorem dX6_order_32 : decode cX6_order 32 = .ok (.invokevirtual 319, 3) := by decide +kernel
theorem dX6_order_35 : decode cX6_order 35 = .ok (.iastore, 1) := by decide +kernel
theorem dX6_order_36 : decode cX6_order 36 = .ok (.iinc 2 1, 3) := by decide +kernel
theorem dX6_order_39 : decode cX6_order 39 = .ok (.goto (-22), 3) := by decide +kernel
theorem dX6_order_42 : decode cX6_order 42 = .ok (.iconst 0, 1) := by decide +kernel
theorem dX6_order_43 : decode cX6_order 43 = .ok (.istore_n 2, 1) := by decide +kernel
theorem dX6_order_44 : decode cX6_order 44 = .ok (.aload_n 0, 1) := by decide +kernel
theorem dX6_order_45 : decode cX6_order 45 = .ok (.iload_n 2, 1) := by decide +kernel
theorem dX6_order_46 : decode cX6_order 46 = .ok (.invokevirtual 327, 3) := by decide +kernel
theorem dX6_order_49 : decode cX6_order 49 = .ok (.iload_n 1, 1) := by decide +kernel
theorem dX6_order_50 : decode cX6_order 50 = .ok (.if_icmp .eq 9, 3) := by decide +kernel
theorem dX6_order_53 : decode cX6_order 53 = .ok (.iinc 2 1, 3) := by decide +kernel
theorem dX6_order_56 : decode cX6_order 56 = .ok (.goto (-12), 3) := by decide +kernel
theorem dX6_order_59 : decode cX6_order 59 = .ok (.iload_n 2, 1) := by decide +kernel
theorem dX6_order_60 : decode cX6_order 60 = .ok (.ireturn, 1) := by decide +kernel
set_option maxRecDepth 100000 in
set_option maxHeartbeats 4000000 in
theorem lc_X6_order_17 (Z : ZZ) (l : Launch) (a0 : Nat) (a1 : Int32) {args : Array Value} {h0 h1 : HP} {v0 : Int32} (K : HP → Option (Int32 × HP)) (F : Int32 → HP → Option (Int32 × HP))
    (hK : ∀ (h : HP), Sim Z l cX6_order RX6 3 7 154 (some .int) "order" args (Mq Z args h0 h1 (some (.int v0))) h0 h1 v0 42 [(0, .ref (zb Z + a0)), (1, .int a1)] [] h (K h))
    (hF : ∀ (b2 : Int32) (h : HP), Sim Z l cX6_order RX6 3 7 154 (some .int) "order" args (Mq Z args h0 h1 (some (.int v0))) h0 h1 v0 17 [(0, .ref (zb Z + a0)), (1, .int a1), (2, .int b2)] [] h (F b2 h)) :
    ∀ (b2 : Int32) (h : HP), Sim Z l cX6_order RX6 3 7 154 (some .int) "order" args (Mq Z args h0 h1 (some (.int v0))) h0 h1 v0 17 [(0, .ref (zb Z + a0)), (1, .int a1), (2, .int b2)] [] h (lb_X6_order_17 a0 a1 K F b2 h) := by
  intro b2 h
  unfold lb_X6_order_17
  refine S_iload_n dX6_order_17 rfl 2 rfl (pc' := 18) rfl ?_
  refine S_aload_n dX6_order_18 rfl 0 rfl (pc' := 19) rfl ?_
  refine S_getI fl_X6_99 rfl dX6_order_19 (pc' := 22) rfl (fun x19 => ?_)
  refine S_icmp_ge dX6_order_22 42 rfl (pc' := 25) rfl (fun g22 => ?_) (fun g22 => ?_)
  · refine Sim.sub [0, 1] rfl ?_
    exact hK _
  · refine S_aload_n dX6_order_25 rfl 0 rfl (pc' := 26) rfl ?_
    refine S_getR fl_X6_80 rfl dX6_order_26 (pc' := 29) rfl (fun x26 => ?_)
    refine S_iload_n dX6_order_29 rfl 2 rfl (pc' := 30) rfl ?_
    refine S_aload_n dX6_order_30 rfl 0 rfl (pc' := 31) rfl ?_
    refine S_iload_n dX6_order_31 rfl 2 rfl (pc' := 32) rfl ?_
    refine S_invi ml_X6_319 mi_X6_lostNow (ci := 6) ⟨_, rfl, rfl⟩ (by decide) dX6_order_32 [.int b2] rfl (fun v h2 q => c_X6_lostNow Z l _ _ _ q) ⟨Nat.le_of_ble_eq_true rfl, Nat.le_of_ble_eq_true rfl⟩ (rest := [.int b2, .ref (zb Z + x26)]) (Nat.le_of_ble_eq_true rfl) rfl (pc' := 35) rfl (fun x32 h32 => ?_)
    refine S_iastore dX6_order_35 (pc' := 36) rfl (fun h35 => ?_)
    refine S_iinc dX6_order_36 (q := 2) rfl (v := b2 + 1) rfl (by decide) (lo' := [(2, .int (b2 + 1)), (0, .ref (zb Z + a0)), (1, .int a1)]) rfl (pc' := 39) rfl ?_
    refine S_goto dX6_order_39 17 rfl ?_
    refine Sim.sub [1, 2, 0] rfl ?_
    exact hF _ _
theorem lq_X6_order_17 (Z : ZZ) (l : Launch) (a0 : Nat) (a1 : Int32) {args : Array Value} {h0 h1 : HP} {v0 : Int32} (K : HP → Option (Int32 × HP))
    (hK : ∀ (h : HP), Sim Z l cX6_order RX6 3 7 154 (some .int) "order" args (Mq Z args h0 h1 (some (.int v0))) h0 h1 v0 42 [(0, .ref (zb Z + a0)), (1, .int a1)] [] h (K h)) :
    ∀ (k : Nat) (b2 : Int32) (h : HP), Sim Z l cX6_order RX6 3 7 154 (some .int) "order" args (Mq Z args h0 h1 (some (.int v0))) h0 h1 v0 17 [(0, .ref (zb Z + a0)), (1, .int a1), (2, .int b2)] [] h (lp_X6_order_17 a0 a1 K k b2 h) := by
  intro k
  induction k with
  | zero => exact fun _ _ => Sim.none
  | succ k ih => exact lc_X6_order_17 Z l a0 a1 K _ hK ih
set_option maxRecDepth 100000 in
set_option maxHeartbeats 4000000 in
theorem lc_X6_order_44 (Z : ZZ) (l : Launch) (a0 : Nat) (a1 : Int32) {args : Array Value} {h0 h1 : HP} {v0 : Int32} (K : Int32 → HP → Option (Int32 × HP)) (F : Int32 → HP → Option (Int32 × HP))
    (hK : ∀ (b2 : Int32) (h : HP), Sim Z l cX6_order RX6 3 7 154 (some .int) "order" args (Mq Z args h0 h1 (some (.int v0))) h0 h1 v0 59 [(2, .int b2)] [] h (K b2 h))
    (hF : ∀ (b2 : Int32) (h : HP), Sim Z l cX6_order RX6 3 7 154 (some .int) "order" args (Mq Z args h0 h1 (some (.int v0))) h0 h1 v0 44 [(0, .ref (zb Z + a0)), (1, .int a1), (2, .int b2)] [] h (F b2 h)) :
    ∀ (b2 : Int32) (h : HP), Sim Z l cX6_order RX6 3 7 154 (some .int) "order" args (Mq Z args h0 h1 (some (.int v0))) h0 h1 v0 44 [(0, .ref (zb Z + a0)), (1, .int a1), (2, .int b2)] [] h (lb_X6_order_44 a0 a1 K F b2 h) := by
  intro b2 h
  unfold lb_X6_order_44
  refine S_aload_n dX6_order_44 rfl 0 rfl (pc' := 45) rfl ?_
  refine S_iload_n dX6_order_45 rfl 2 rfl (pc' := 46) rfl ?_
  refine S_invi ml_X6_327 mi_X6_placeOf (ci := 6) ⟨_, rfl, rfl⟩ (by decide) dX6_order_46 [.int b2] rfl (fun v h2 q => c_X6_placeOf Z l _ _ _ q) ⟨Nat.le_of_ble_eq_true rfl, Nat.le_of_ble_eq_true rfl⟩ (rest := []) (Nat.le_of_ble_eq_true rfl) rfl (pc' := 49) rfl (fun x46 h46 => ?_)
  refine S_iload_n dX6_order_49 rfl 1 rfl (pc' := 50) rfl ?_
  refine S_icmp_eq dX6_order_50 59 rfl (pc' := 53) rfl (fun g50 => ?_) (fun g50 => ?_)
  · refine Sim.sub [2] rfl ?_
    exact hK _ _
  · refine S_iinc dX6_order_53 (q := 2) rfl (v := b2 + 1) rfl (by decide) (lo' := [(2, .int (b2 + 1)), (0, .ref (zb Z + a0)), (1, .int a1)]) rfl (pc' := 56) rfl ?_
    refine S_goto dX6_order_56 44 rfl ?_
    refine Sim.sub [1, 2, 0] rfl ?_
    exact hF _ _
theorem lq_X6_order_44 (Z : ZZ) (l : Launch) (a0 : Nat) (a1 : Int32) {args : Array Value} {h0 h1 : HP} {v0 : Int32} (K : Int32 → HP → Option (Int32 × HP))
    (hK : ∀ (b2 : Int32) (h : HP), Sim Z l cX6_order RX6 3 7 154 (some .int) "order" args (Mq Z args h0 h1 (some (.int v0))) h0 h1 v0 59 [(2, .int b2)] [] h (K b2 h)) :
    ∀ (k : Nat) (b2 : Int32) (h : HP), Sim Z l cX6_order RX6 3 7 154 (some .int) "order" args (Mq Z args h0 h1 (some (.int v0))) h0 h1 v0 44 [(0, .ref (zb Z + a0)), (1, .int a1), (2, .int b2)] [] h (lp_X6_order_44 a0 a1 K k b2 h) := by
  intro k
  induction k with
  | zero => exact fun _ _ => Sim.none
  | succ k ih => exact lc_X6_order_44 Z l a0 a1 K _ hK ih
set_option maxRecDepth 100000 in
set_option maxHeartbeats 4000000 in
theorem c_X6_order (Z : ZZ) (l : Launch) (t : Nat) (a1 : Int32) (h : HP) {v : Int32} {h1 : HP} (ho : f_X6_order t a1 h = some (v, h1)) : MetP Z l yX6_order cX6_order 3 (some .int) 7 154 [.ref (zb Z + t), .int a1] h (some (.int v)) h1 := by
  refine MetP_of ho (by decide +kernel) (Nat.le_of_ble_eq_true rfl) [(0, .ref (zb Z + t)), (1, .int a1)] rfl (own := RX6) rfl (nm := "order") rfl ?_
  unfold f_X6_order
  refine S_aload_n dX6_order_0 rfl 0 rfl (pc' := 1) rfl ?_
  refine S_iload_n dX6_order_1 rfl 1 rfl (pc' := 2) rfl ?_
  refine S_invi ml_X6_148 mi_X6_isSong (ci := 6) ⟨_, rfl, rfl⟩ (by decide) dX6_order_2 [.int a1] rfl (fun v h2 q => c_X6_isSong Z l _ _ _ q) ⟨Nat.le_of_ble_eq_true rfl, Nat.le_of_ble_eq_true rfl⟩ (rest := []) (Nat.le_of_ble_eq_true rfl) rfl (pc' := 5) rfl (fun x2 h2 => ?_)
  refine S_if_ne dX6_order_5 15 rfl (pc' := 8) rfl (fun g5 => ?_) (fun g5 => ?_)
  · refine S_iconst dX6_order_15 (v := 0) rfl (pc' := 16) rfl ?_
    refine S_istore_n dX6_order_16 rfl (by decide) (lo' := [(2, .int 0), (0, .ref (zb Z + t)), (1, .int a1)]) rfl (pc' := 17) rfl ?_
    refine Sim.sub [1, 2, 0] rfl ?_
    refine lq_X6_order_17 Z l t a1 _ ?_ 1000 _ _
    intro h17_
    refine S_iconst dX6_order_42 (v := 0) rfl (pc' := 43) rfl ?_
    refine S_istore_n dX6_order_43 rfl (by decide) (lo' := [(2, .int 0), (0, .ref (zb Z + t)), (1, .int a1)]) rfl (pc' := 44) rfl ?_
    refine Sim.sub [1, 2, 0] rfl ?_
    refine lq_X6_order_44 Z l t a1 _ ?_ 1000 _ _
    intro b2_44 h44_
    refine S_iload_n dX6_order_59 rfl 0 rfl (pc' := 60) rfl ?_
    exact S_iret rfl dX6_order_60
  · refine S_aload_n dX6_order_8 rfl 0 rfl (pc' := 9) rfl ?_
    refine S_bipush dX6_order_9 (v := (-2)) rfl (pc' := 11) rfl ?_
    refine S_invi ml_X6_108 mi_X6_refuse (ci := 6) ⟨_, rfl, rfl⟩ (by decide) dX6_order_11 [.int (-2)] rfl (fun v h2 q => c_X6_refuse Z l _ _ _ q) ⟨Nat.le_of_ble_eq_true rfl, Nat.le_of_ble_eq_true rfl⟩ (rest := []) (Nat.le_of_ble_eq_true rfl) rfl (pc' := 14) rfl (fun x11 h11 => ?_)
    exact S_iret rfl dX6_order_14
theorem dX6_griefs_0 : decode cX6_griefs 0 = .ok (.aload_n 0, 1) := by decide +kernel
theorem dX6_griefs_1 : decode cX6_griefs 1 = .ok (.iload_n 1, 1) := by decide +kernel
theorem dX6_griefs_2 : decode cX6_griefs 2 = .ok (.invokevirtual 119, 3) := by decide +kernel
theorem dX6_griefs_5 : decode cX6_griefs 5 = .ok (.ifCond .eq 23, 3) := by decide +kernel
theorem dX6_griefs_8 : decode cX6_griefs 8 = .ok (.aload_n 0, 1) := by decide +kernel
theorem dX6_griefs_9 : decode cX6_griefs 9 = .ok (.iload_n 2, 1) := by decide +kernel
theorem dX6_griefs_10 : decode cX6_griefs 10 = .ok (.invokevirtual 148, 3) := by decide +kernel
theorem dX6_griefs_13 : decode cX6_griefs 13 = .ok (.ifCond .eq 15, 3) := by decide +kernel
theorem dX6_griefs_16 : decode cX6_griefs 16 = .ok (.iload_n 3, 1) := by decide +kernel
theorem dX6_griefs_17 : decode cX6_griefs 17 = .ok (.i2l, 1) := by decide +kernel
theorem dX6_griefs_18 : decode cX6_griefs 18 = .ok (.lconst 0, 1) := by decide +kernel
theorem dX6_griefs_19 : decode cX6_griefs 19 = .ok (.ldc2_w 304, 3) := by decide +kernel
theorem dX6_griefs_22 : decode cX6_griefs 22 = .ok (.invokestatic 95, 3) := by decide +kernel
theorem dX6_griefs_25 : decode cX6_griefs 25 = .ok (.ifCond .ne 10, 3) := by decide +kernel
theorem dX6_griefs_28 : decode cX6_griefs 28 = .ok (.aload_n 0, 1) := by decide +kernel
theorem dX6_griefs_29 : decode cX6_griefs 29 = .ok (.bipush (-2), 2) := by decide +kernel
theorem dX6_griefs_31 : decode cX6_griefs 31 = .ok (.invokevirtual 108, 3) := by decide +kernel
theorem dX6_griefs_34 : decode cX6_griefs 34 = .ok (.ireturn, 1) := by decide +kernel
theorem dX6_griefs_35 : decode cX6_griefs 35 = .ok (.aload_n 0, 1) := by decide +kernel
theorem dX6_griefs_36 : decode cX6_griefs 36 = .ok (.iload_n 1, 1) := by decide +kernel
theorem dX6_griefs_37 : decode cX6_griefs 37 = .ok (.iload_n 2, 1) := by decide +kernel
theorem dX6_griefs_38 : decode cX6_griefs 38 = .ok (.invokevirtual 267, 3) := by decide +kernel
theorem dX6_griefs_41 : decode cX6_griefs 41 = .ok (.ifCond .ne 10, 3) := by decide +kernel
theorem dX6_griefs_44 : decode cX6_griefs 44 = .ok (.aload_n 0, 1) := by decide +kernel
theorem dX6_griefs_45 : decode cX6_griefs 45 = .ok (.bipush (-5), 2) := by decide +kernel
theorem dX6_griefs_47 : decode cX6_griefs 47 = .ok (.invokevirtual 108, 3) := by decide +kernel
theorem dX6_griefs_50 : decode cX6_griefs 50 = .ok (.ireturn, 1) := by decide +kernel
theorem dX6_griefs_51 : decode cX6_griefs 51 = .ok (.iconst (-1), 1) := by decide +kernel
theorem dX6_griefs_52 : decode cX6_griefs 52 = .ok (.istore 4, 2) := by decide +kernel
theorem dX6_griefs_54 : decode cX6_griefs 54 = .ok (.bipush 9, 2) := by decide +kernel
theorem dX6_griefs_56 : decode cX6_griefs 56 = .ok (.istore 5, 2) := by decide +kernel
theorem dX6_griefs_58 : decode cX6_griefs 58 = .ok (.iload 5, 2) := by decide +kernel
theorem dX6_griefs_60 : decode cX6_griefs 60 = .ok (.ifCond .lt 74, 3) := by decide +kernel
theorem dX6_griefs_63 : decode cX6_griefs 63 = .ok (.aload_n 0, 1) := by decide +kernel
theorem dX6_griefs_64 : decode cX6_griefs 64 = .ok (.invokevirtual 306, 3) := by decide +kernel
theorem dX6_griefs_67 : decode cX6_griefs 67 = .ok (.astore 6, 2) := by decide +kernel
theorem dX6_griefs_69 : decode cX6_griefs 69 = .ok (.aload 6, 2) := by decide +kernel
theorem dX6_griefs_71 : decode cX6_griefs 71 = .ok (.getfield 50, 3) := by decide +kernel
theorem dX6_griefs_74 : decode cX6_griefs 74 = .ok (.iload_n 1, 1) := by decide +kernel
theorem dX6_griefs_75 : decode cX6_griefs 75 = .ok (.iload 5, 2) := by decide +kernel
theorem dX6_griefs_77 : decode cX6_griefs 77 = .ok (.iastore, 1) := by decide +kernel
theorem dX6_griefs_78 : decode cX6_griefs 78 = .ok (.iconst 0, 1) := by decide +kernel
theorem dX6_griefs_79 : decode cX6_griefs 79 = .ok (.istore 7, 2) := by decide +kernel
theorem dX6_griefs_81 : decode cX6_griefs 81 = .ok (.iload 7, 2) := by decide +kernel
theorem dX6_griefs_83 : decode cX6_griefs 83 = .ok (.iload_n 3, 1) := by decide +kernel
theorem dX6_griefs_84 : decode cX6_griefs 84 = .ok (.if_icmp .ge 25, 3) := by decide +kernel
theorem dX6_griefs_87 : decode cX6_griefs 87 = .ok (.aload 6, 2) := by decide +kernel
theorem dX6_griefs_89 : decode cX6_griefs 89 = .ok (.iload_n 1, 1) := by decide +kernel
theorem dX6_griefs_90 : decode cX6_griefs 90 = .ok (.iload_n 2, 1) := by decide +kernel
theorem dX6_griefs_91 : decode cX6_griefs 91 = .ok (.invokevirtual 267, 3) := by decide +kernel
theorem dX6_griefs_94 : decode cX6_griefs 94 = .ok (.ifCond .eq 15, 3) := by decide +kernel
theorem dX6_griefs_97 : decode cX6_griefs 97 = .ok (.aload 6, 2) := by decide +kernel
theorem dX6_griefs_99 : decode cX6_griefs 99 = .ok (.invokevirtual 310, 3) := by decide +kernel
theorem dX6_griefs_102 : decode cX6_griefs 102 = .ok (.pop, 1) := by decide +kernel
theorem dX6_griefs_103 : decode cX6_griefs 103 = .ok (.iinc 7 1, 3) := by decide +kernel
theorem dX6_griefs_106 : decode cX6_griefs 106 = .ok (.goto (-25), 3) := by decide +kernel
theorem dX6_griefs_109 : decode cX6_griefs 109 = .ok (.aload 6, 2) := by decide +kernel
theorem dX6_griefs_111 : decode cX6_griefs 111 = .ok (.iload_n 1, 1) := by decide +kernel
theorem dX6_griefs_112 : decode cX6_griefs 112 = .ok (.iload_n 2, 1) := by decide +kernel
theorem dX6_griefs_113 : decode cX6_griefs 113 = .ok (.invokevirtual 267, 3) := by decide +kernel
theorem dX6_griefs_116 : decode cX6_griefs 116 = .ok (.ifCond .eq 8, 3) := by decide +kernel
theorem dX6_griefs_119 : decode cX6_griefs 119 = .ok (.iload 4, 2) := by decide +kernel
theorem dX6_griefs_121 : decode cX6_griefs 121 = .ok (.goto 5, 3) := by decide +kernel
theorem dX6_griefs_124 : decode cX6_griefs 124 = .ok (.iload 5, 2) := by decide +kernel
theorem dX6_griefs_126 : decode cX6_griefs 126 = .ok (.istore 4, 2) := by decide +kernel
theorem dX6_griefs_128 : decode cX6_griefs 128 = .ok (.iinc 5 (-1), 3) := by decide +kernel
theorem dX6_griefs_131 : decode cX6_griefs 131 = .ok (.goto (-73), 3) := by decide +kernel
theorem dX6_griefs_134 : decode cX6_griefs 134 = .ok (.iload 4, 2) := by decide +kernel
theorem dX6_griefs_136 : decode cX6_griefs 136 = .ok (.ireturn, 1) := by decide +kernel
set_option maxRecDepth 100000 in
set_option maxHeartbeats 4000000 in
theorem lc_X6_griefs_81 (Z : ZZ) (l : Launch) (a0 : Nat) (a1 : Int32) (a2 : Int32) (a3 : Int32) (a4 : Int32) (a5 : Int32) (a6 : Nat) {args : Array Value} {h0 h1 : HP} {v0 : Int32} (K : HP → Option (Int32 × HP)) (F : Int32 → HP → Option (Int32 × HP))
    (hK : ∀ (h : HP), Sim Z l cX6_griefs RX6 8 5 111 (some .int) "griefs" args (Mq Z args h0 h1 (some (.int v0))) h0 h1 v0 109 [(0, .ref (zb Z + a0)), (1, .int a1), (2, .int a2), (3, .int a3), (4, .int a4), (5, .int a5), (6, .ref (zb Z + a6))] [] h (K h))
    (hF : ∀ (b7 : Int32) (h : HP), Sim Z l cX6_griefs RX6 8 5 111 (some .int) "griefs" args (Mq Z args h0 h1 (some (.int v0))) h0 h1 v0 81 [(0, .ref (zb Z + a0)), (1, .int a1), (2, .int a2), (3, .int a3), (4, .int a4), (5, .int a5), (6, .ref (zb Z + a6)), (7, .int b7)] [] h (F b7 h)) :
    ∀ (b7 : Int32) (h : HP), Sim Z l cX6_griefs RX6 8 5 111 (some .int) "griefs" args (Mq Z args h0 h1 (some (.int v0))) h0 h1 v0 81 [(0, .ref (zb Z + a0)), (1, .int a1), (2, .int a2), (3, .int a3), (4, .int a4), (5, .int a5), (6, .ref (zb Z + a6)), (7, .int b7)] [] h (lb_X6_griefs_81 a0 a1 a2 a3 a4 a5 a6 K F b7 h) := by
  intro b7 h
  unfold lb_X6_griefs_81
  refine S_iload dX6_griefs_81 7 rfl (pc' := 83) rfl ?_
  refine S_iload_n dX6_griefs_83 rfl 3 rfl (pc' := 84) rfl ?_
  refine S_icmp_ge dX6_griefs_84 109 rfl (pc' := 87) rfl (fun g84 => ?_) (fun g84 => ?_)
  · refine Sim.sub [0, 1, 2, 3, 4, 5, 6] rfl ?_
    exact hK _
  · refine S_aload dX6_griefs_87 6 rfl (pc' := 89) rfl ?_
    refine S_iload_n dX6_griefs_89 rfl 1 rfl (pc' := 90) rfl ?_
    refine S_iload_n dX6_griefs_90 rfl 2 rfl (pc' := 91) rfl ?_
    refine S_invi ml_X6_267 mi_X6_knowsIt (ci := 6) ⟨_, rfl, rfl⟩ (by decide) dX6_griefs_91 [.int a1, .int a2] rfl (fun v h2 q => c_X6_knowsIt Z l _ _ _ _ q) ⟨Nat.le_of_ble_eq_true rfl, Nat.le_of_ble_eq_true rfl⟩ (rest := []) (Nat.le_of_ble_eq_true rfl) rfl (pc' := 94) rfl (fun x91 h91 => ?_)
    refine S_if_eq dX6_griefs_94 109 rfl (pc' := 97) rfl (fun g94 => ?_) (fun g94 => ?_)
    · refine Sim.sub [0, 1, 2, 3, 4, 5, 6] rfl ?_
      exact hK _
    · refine S_aload dX6_griefs_97 6 rfl (pc' := 99) rfl ?_
      refine S_invi ml_X6_310 mi_X6_passes (ci := 6) ⟨_, rfl, rfl⟩ (by decide) dX6_griefs_99 [] rfl (fun v h2 q => c_X6_passes Z l _ _ q) ⟨Nat.le_of_ble_eq_true rfl, Nat.le_of_ble_eq_true rfl⟩ (rest := []) (Nat.le_of_ble_eq_true rfl) rfl (pc' := 102) rfl (fun x99 h99 => ?_)
      refine S_pop dX6_griefs_102 rfl (pc' := 103) rfl ?_
      refine S_iinc dX6_griefs_103 (q := 7) rfl (v := b7 + 1) rfl (by decide) (lo' := [(7, .int (b7 + 1)), (0, .ref (zb Z + a0)), (1, .int a1), (2, .int a2), (3, .int a3), (4, .int a4), (5, .int a5), (6, .ref (zb Z + a6))]) rfl (pc' := 106) rfl ?_
      refine S_goto dX6_griefs_106 81 rfl ?_
      refine Sim.sub [1, 2, 3, 4, 5, 6, 7, 0] rfl ?_
      exact hF _ _
theorem lq_X6_griefs_81 (Z : ZZ) (l : Launch) (a0 : Nat) (a1 : Int32) (a2 : Int32) (a3 : Int32) (a4 : Int32) (a5 : Int32) (a6 : Nat) {args : Array Value} {h0 h1 : HP} {v0 : Int32} (K : HP → Option (Int32 × HP))
    (hK : ∀ (h : HP), Sim Z l cX6_griefs RX6 8 5 111 (some .int) "griefs" args (Mq Z args h0 h1 (some (.int v0))) h0 h1 v0 109 [(0, .ref (zb Z + a0)), (1, .int a1), (2, .int a2), (3, .int a3), (4, .int a4), (5, .int a5), (6, .ref (zb Z + a6))] [] h (K h)) :
    ∀ (k : Nat) (b7 : Int32) (h : HP), Sim Z l cX6_griefs RX6 8 5 111 (some .int) "griefs" args (Mq Z args h0 h1 (some (.int v0))) h0 h1 v0 81 [(0, .ref (zb Z + a0)), (1, .int a1), (2, .int a2), (3, .int a3), (4, .int a4), (5, .int a5), (6, .ref (zb Z + a6)), (7, .int b7)] [] h (lp_X6_griefs_81 a0 a1 a2 a3 a4 a5 a6 K k b7 h) := by
  intro k
  induction k with
  | zero => exact fun _ _ => Sim.none
  | succ k ih => exact lc_X6_griefs_81 Z l a0 a1 a2 a3 a4 a5 a6 K _ hK ih
set_option maxRecDepth 100000 in
set_option maxHeartbeats 4000000 in
theorem lc_X6_griefs_58 (Z : ZZ) (l : Launch) (a0 : Nat) (a1 : Int32) (a2 : Int32) (a3 : Int32) {args : Array Value} {h0 h1 : HP} {v0 : Int32} (K : Int32 → HP → Option (Int32 × HP)) (F : Int32 → Int32 → HP → Option (Int32 × HP))
    (hK : ∀ (b4 : Int32) (h : HP), Sim Z l cX6_griefs RX6 8 5 111 (some .int) "griefs" args (Mq Z args h0 h1 (some (.int v0))) h0 h1 v0 134 [(4, .int b4)] [] h (K b4 h))
    (hF : ∀ (b4 : Int32) (b5 : Int32) (h : HP), Sim Z l cX6_griefs RX6 8 5 111 (some .int) "griefs" args (Mq Z args h0 h1 (some (.int v0))) h0 h1 v0 58 [(0, .ref (zb Z + a0)), (1, .int a1), (2, .int a2), (3, .int a3), (4, .int b4), (5, .int b5)] [] h (F b4 b5 h)) :
    ∀ (b4 : Int32) (b5 : Int32) (h : HP), Sim Z l cX6_griefs RX6 8 5 111 (some .int) "griefs" args (Mq Z args h0 h1 (some (.int v0))) h0 h1 v0 58 [(0, .ref (zb Z + a0)), (1, .int a1), (2, .int a2), (3, .int a3), (4, .int b4), (5, .int b5)] [] h (lb_X6_griefs_58 a0 a1 a2 a3 K F b4 b5 h) := by
  intro b4 b5 h
  unfold lb_X6_griefs_58
  refine S_iload dX6_griefs_58 5 rfl (pc' := 60) rfl ?_
  refine S_if_lt dX6_griefs_60 134 rfl (pc' := 63) rfl (fun g60 => ?_) (fun g60 => ?_)
  · refine Sim.sub [4] rfl ?_
    exact hK _ _
  · refine S_aload_n dX6_griefs_63 rfl 0 rfl (pc' := 64) rfl ?_
    refine S_invr ml_X6_306 mi_X6_thought (ci := 6) ⟨_, rfl, rfl⟩ (by decide) dX6_griefs_64 [] rfl (fun v h2 q => c_X6_thought Z l _ _ q) ⟨Nat.le_of_ble_eq_true rfl, Nat.le_of_ble_eq_true rfl⟩ (rest := []) (Nat.le_of_ble_eq_true rfl) rfl (pc' := 67) rfl (fun x64 h64 => ?_)
    refine S_astore dX6_griefs_67 (by decide) (lo' := [(6, .ref (zb Z + x64)), (0, .ref (zb Z + a0)), (1, .int a1), (2, .int a2), (3, .int a3), (4, .int b4), (5, .int b5)]) rfl (pc' := 69) rfl ?_
    refine S_aload dX6_griefs_69 0 rfl (pc' := 71) rfl ?_
    refine S_getR fl_X6_50 rfl dX6_griefs_71 (pc' := 74) rfl (fun x71 => ?_)
    refine S_iload_n dX6_griefs_74 rfl 2 rfl (pc' := 75) rfl ?_
    refine S_iload dX6_griefs_75 6 rfl (pc' := 77) rfl ?_
    refine S_iastore dX6_griefs_77 (pc' := 78) rfl (fun h77 => ?_)
    refine S_iconst dX6_griefs_78 (v := 0) rfl (pc' := 79) rfl ?_
    refine S_istore dX6_griefs_79 (by decide) (lo' := [(7, .int 0), (6, .ref (zb Z + x64)), (0, .ref (zb Z + a0)), (1, .int a1), (2, .int a2), (3, .int a3), (4, .int b4), (5, .int b5)]) rfl (pc' := 81) rfl ?_
    refine Sim.sub [2, 3, 4, 5, 6, 7, 1, 0] rfl ?_
    refine lq_X6_griefs_81 Z l a0 a1 a2 a3 b4 b5 x64 _ ?_ 1000 _ _
    intro h81_
    refine S_aload dX6_griefs_109 6 rfl (pc' := 111) rfl ?_
    refine S_iload_n dX6_griefs_111 rfl 1 rfl (pc' := 112) rfl ?_
    refine S_iload_n dX6_griefs_112 rfl 2 rfl (pc' := 113) rfl ?_
    refine S_invi ml_X6_267 mi_X6_knowsIt (ci := 6) ⟨_, rfl, rfl⟩ (by decide) dX6_griefs_113 [.int a1, .int a2] rfl (fun v h2 q => c_X6_knowsIt Z l _ _ _ _ q) ⟨Nat.le_of_ble_eq_true rfl, Nat.le_of_ble_eq_true rfl⟩ (rest := []) (Nat.le_of_ble_eq_true rfl) rfl (pc' := 116) rfl (fun x113 h113 => ?_)
    refine S_if_eq dX6_griefs_116 124 rfl (pc' := 119) rfl (fun g116 => ?_) (fun g116 => ?_)
    · refine S_iload dX6_griefs_124 5 rfl (pc' := 126) rfl ?_
      refine S_istore dX6_griefs_126 (by decide) (lo' := [(4, .int b5), (0, .ref (zb Z + a0)), (1, .int a1), (2, .int a2), (3, .int a3), (5, .int b5), (6, .ref (zb Z + x64))]) rfl (pc' := 128) rfl ?_
      refine S_iinc dX6_griefs_128 (q := 5) rfl (v := b5 + (-1)) rfl (by decide) (lo' := [(5, .int (b5 + (-1))), (4, .int b5), (0, .ref (zb Z + a0)), (1, .int a1), (2, .int a2), (3, .int a3), (6, .ref (zb Z + x64))]) rfl (pc' := 131) rfl ?_
      refine S_goto dX6_griefs_131 58 rfl ?_
      refine Sim.sub [2, 3, 4, 5, 1, 0] rfl ?_
      exact hF _ _ _
    · refine S_iload dX6_griefs_119 4 rfl (pc' := 121) rfl ?_
      refine S_goto dX6_griefs_121 126 rfl ?_
      refine S_istore dX6_griefs_126 (by decide) (lo' := [(4, .int b4), (0, .ref (zb Z + a0)), (1, .int a1), (2, .int a2), (3, .int a3), (5, .int b5), (6, .ref (zb Z + x64))]) rfl (pc' := 128) rfl ?_
      refine S_iinc dX6_griefs_128 (q := 5) rfl (v := b5 + (-1)) rfl (by decide) (lo' := [(5, .int (b5 + (-1))), (4, .int b4), (0, .ref (zb Z + a0)), (1, .int a1), (2, .int a2), (3, .int a3), (6, .ref (zb Z + x64))]) rfl (pc' := 131) rfl ?_
      refine S_goto dX6_griefs_131 58 rfl ?_
      refine Sim.sub [2, 3, 4, 5, 1, 0] rfl ?_
      exact hF _ _ _
theorem lq_X6_griefs_58 (Z : ZZ) (l : Launch) (a0 : Nat) (a1 : Int32) (a2 : Int32) (a3 : Int32) {args : Array Value} {h0 h1 : HP} {v0 : Int32} (K : Int32 → HP → Option (Int32 × HP))
    (hK : ∀ (b4 : Int32) (h : HP), Sim Z l cX6_griefs RX6 8 5 111 (some .int) "griefs" args (Mq Z args h0 h1 (some (.int v0))) h0 h1 v0 134 [(4, .int b4)] [] h (K b4 h)) :
    ∀ (k : Nat) (b4 : Int32) (b5 : Int32) (h : HP), Sim Z l cX6_griefs RX6 8 5 111 (some .int) "griefs" args (Mq Z args h0 h1 (some (.int v0))) h0 h1 v0 58 [(0, .ref (zb Z + a0)), (1, .int a1), (2, .int a2), (3, .int a3), (4, .int b4), (5, .int b5)] [] h (lp_X6_griefs_58 a0 a1 a2 a3 K k b4 b5 h) := by
  intro k
  induction k with
  | zero => exact fun _ _ _ => Sim.none
  | succ k ih => exact lc_X6_griefs_58 Z l a0 a1 a2 a3 K _ hK ih
set_option maxRecDepth 100000 in
set_option maxHeartbeats 4000000 in
theorem c_X6_griefs (Z : ZZ) (l : Launch) (t : Nat) (a1 : Int32) (a2 : Int32) (a3 : Int32) (h : HP) {v : Int32} {h1 : HP} (ho : f_X6_griefs t a1 a2 a3 h = some (v, h1)) : MetP Z l yX6_griefs cX6_griefs 8 (some .int) 5 111 [.ref (zb Z + t), .int a1, .int a2, .int a3] h (some (.int v)) h1 := by
  refine MetP_of ho (by decide +kernel) (Nat.le_of_ble_eq_true rfl) [(0, .ref (zb Z + t)), (1, .int a1), (2, .int a2), (3, .int a3)] rfl (own := RX6) rfl (nm := "griefs") rfl ?_
  unfold f_X6_griefs
  refine S_aload_n dX6_griefs_0 rfl 0 rfl (pc' := 1) rfl ?_
  refine S_iload_n dX6_griefs_1 rfl 1 rfl (pc' := 2) rfl ?_
  refine S_invi ml_X6_119 mi_X6_isPerson (ci := 6) ⟨_, rfl, rfl⟩ (by decide) dX6_griefs_2 [.int a1] rfl (fun v h2 q => c_X6_isPerson Z l _ _ _ q) ⟨Nat.le_of_ble_eq_true rfl, Nat.le_of_ble_eq_true rfl⟩ (rest := []) (Nat.le_of_ble_eq_true rfl) rfl (pc' := 5) rfl (fun x2 h2 => ?_)
  refine S_if_eq dX6_griefs_5 28 rfl (pc' := 8) rfl (fun g5 => ?_) (fun g5 => ?_)
  · refine S_aload_n dX6_griefs_28 rfl 0 rfl (pc' := 29) rfl ?_
    refine S_bipush dX6_griefs_29 (v := (-2)) rfl (pc' := 31) rfl ?_
    refine S_invi ml_X6_108 mi_X6_refuse (ci := 6) ⟨_, rfl, rfl⟩ (by decide) dX6_griefs_31 [.int (-2)] rfl (fun v h2 q => c_X6_refuse Z l _ _ _ q) ⟨Nat.le_of_ble_eq_true rfl, Nat.le_of_ble_eq_true rfl⟩ (rest := []) (Nat.le_of_ble_eq_true rfl) rfl (pc' := 34) rfl (fun x31 h31 => ?_)
    exact S_iret rfl dX6_griefs_34
  · refine S_aload_n dX6_griefs_8 rfl 0 rfl (pc' := 9) rfl ?_
    refine S_iload_n dX6_griefs_9 rfl 2 rfl (pc' := 10) rfl ?_
    refine S_invi ml_X6_148 mi_X6_isSong (ci := 6) ⟨_, rfl, rfl⟩ (by decide) dX6_griefs_10 [.int a2] rfl (fun v h2 q => c_X6_isSong Z l _ _ _ q) ⟨Nat.le_of_ble_eq_true rfl, Nat.le_of_ble_eq_true rfl⟩ (rest := []) (Nat.le_of_ble_eq_true rfl) rfl (pc' := 13) rfl (fun x10 h10 => ?_)
    refine S_if_eq dX6_griefs_13 28 rfl (pc' := 16) rfl (fun g13 => ?_) (fun g13 => ?_)
    · refine S_aload_n dX6_griefs_28 rfl 0 rfl (pc' := 29) rfl ?_
      refine S_bipush dX6_griefs_29 (v := (-2)) rfl (pc' := 31) rfl ?_
      refine S_invi ml_X6_108 mi_X6_refuse (ci := 6) ⟨_, rfl, rfl⟩ (by decide) dX6_griefs_31 [.int (-2)] rfl (fun v h2 q => c_X6_refuse Z l _ _ _ q) ⟨Nat.le_of_ble_eq_true rfl, Nat.le_of_ble_eq_true rfl⟩ (rest := []) (Nat.le_of_ble_eq_true rfl) rfl (pc' := 34) rfl (fun x31 h31 => ?_)
      exact S_iret rfl dX6_griefs_34
    · refine S_iload_n dX6_griefs_16 rfl 3 rfl (pc' := 17) rfl ?_
      refine S_i2l dX6_griefs_17 (pc' := 18) rfl ?_
      refine S_lconst dX6_griefs_18 (v := 0) rfl (pc' := 19) rfl ?_
      refine S_ldc2 dX6_griefs_19 kc_X6_304 (pc' := 22) rfl ?_
      refine S_stai ml_X6_95 ms_X6_in dX6_griefs_22 [.long a3.toInt64, .long 0, .long 60] rfl (fun v h2 q => c_X6_in Z l _ _ _ _ q) ⟨Nat.le_of_ble_eq_true rfl, Nat.le_of_ble_eq_true rfl⟩ (rest := []) (Nat.le_of_ble_eq_true rfl) rfl (pc' := 25) rfl (fun x22 h22 => ?_)
      refine S_if_ne dX6_griefs_25 35 rfl (pc' := 28) rfl (fun g25 => ?_) (fun g25 => ?_)
      · refine S_aload_n dX6_griefs_35 rfl 0 rfl (pc' := 36) rfl ?_
        refine S_iload_n dX6_griefs_36 rfl 1 rfl (pc' := 37) rfl ?_
        refine S_iload_n dX6_griefs_37 rfl 2 rfl (pc' := 38) rfl ?_
        refine S_invi ml_X6_267 mi_X6_knowsIt (ci := 6) ⟨_, rfl, rfl⟩ (by decide) dX6_griefs_38 [.int a1, .int a2] rfl (fun v h2 q => c_X6_knowsIt Z l _ _ _ _ q) ⟨Nat.le_of_ble_eq_true rfl, Nat.le_of_ble_eq_true rfl⟩ (rest := []) (Nat.le_of_ble_eq_true rfl) rfl (pc' := 41) rfl (fun x38 h38 => ?_)
        refine S_if_ne dX6_griefs_41 51 rfl (pc' := 44) rfl (fun g41 => ?_) (fun g41 => ?_)
        · refine S_iconst dX6_griefs_51 (v := (-1)) rfl (pc' := 52) rfl ?_
          refine S_istore dX6_griefs_52 (by decide) (lo' := [(4, .int (-1)), (0, .ref (zb Z + t)), (1, .int a1), (2, .int a2), (3, .int a3)]) rfl (pc' := 54) rfl ?_
          refine S_bipush dX6_griefs_54 (v := 9) rfl (pc' := 56) rfl ?_
          refine S_istore dX6_griefs_56 (by decide) (lo' := [(5, .int 9), (4, .int (-1)), (0, .ref (zb Z + t)), (1, .int a1), (2, .int a2), (3, .int a3)]) rfl (pc' := 58) rfl ?_
          refine Sim.sub [2, 3, 4, 5, 1, 0] rfl ?_
          refine lq_X6_griefs_58 Z l t a1 a2 a3 _ ?_ 1000 _ _ _
          intro b4_58 h58_
          refine S_iload dX6_griefs_134 0 rfl (pc' := 136) rfl ?_
          exact S_iret rfl dX6_griefs_136
        · refine S_aload_n dX6_griefs_44 rfl 0 rfl (pc' := 45) rfl ?_
          refine S_bipush dX6_griefs_45 (v := (-5)) rfl (pc' := 47) rfl ?_
          refine S_invi ml_X6_108 mi_X6_refuse (ci := 6) ⟨_, rfl, rfl⟩ (by decide) dX6_griefs_47 [.int (-5)] rfl (fun v h2 q => c_X6_refuse Z l _ _ _ q) ⟨Nat.le_of_ble_eq_true rfl, Nat.le_of_ble_eq_true rfl⟩ (rest := []) (Nat.le_of_ble_eq_true rfl) rfl (pc' := 50) rfl (fun x47 h47 => ?_)
          exact S_iret rfl dX6_griefs_50
      · refine S_aload_n dX6_griefs_28 rfl 0 rfl (pc' := 29) rfl ?_
        refine S_bipush dX6_griefs_29 (v := (-2)) rfl (pc' := 31) rfl ?_
        refine S_invi ml_X6_108 mi_X6_refuse (ci := 6) ⟨_, rfl, rfl⟩ (by decide) dX6_griefs_31 [.int (-2)] rfl (fun v h2 q => c_X6_refuse Z l _ _ _ q) ⟨Nat.le_of_ble_eq_true rfl, Nat.le_of_ble_eq_true rfl⟩ (rest := []) (Nat.le_of_ble_eq_true rfl) rfl (pc' := 34) rfl (fun x31 h31 => ?_)
        exact S_iret rfl dX6_griefs_34
theorem dX6_least_0 : decode cX6_least 0 = .ok (.iload_n 0, 1) := by decide +kernel
theorem dX6_least_1 : decode cX6_least 1 = .ok (.iload_n 1, 1) := by decide +kernel
theorem dX6_least_2 : decode cX6_least 2 = .ok (.if_icmp .ge 7, 3) := by decide +kernel
theorem dX6_least_5 : decode cX6_least 5 = .ok (.iload_n 0, 1) := by decide +kernel
theorem dX6_least_6 : decode cX6_least 6 = .ok (.goto 4, 3) := by decide +kernel
theorem dX6_least_9 : decode cX6_least 9 = .ok (.iload_n 1, 1) := by decide +kernel
theorem dX6_least_10 : decode cX6_least 10 = .ok (.istore_n 3, 1) := by decide +kernel
theorem dX6_least_11 : decode cX6_least 11 = .ok (.iload_n 3, 1) := by decide +kernel
theorem dX6_least_12 : decode cX6_least 12 = .ok (.iload_n 2, 1) := by decide +kernel
theorem dX6_least_13 : decode cX6_least 13 = .ok (.if_icmp .ge 7, 3) := by decide +kernel
theorem dX6_least_16 : decode cX6_least 16 = .ok (.iload_n 3, 1) := by decide +kernel
theorem dX6_least_17 : decode cX6_least 17 = .ok (.goto 4, 3) := by decide +kernel
theorem dX6_least_20 : decode cX6_least 20 = .ok (.iload_n 2, 1) := by decide +kernel
theorem dX6_least_21 : decode cX6_least 21 = .ok (.ireturn, 1) := by decide +kernel
set_option maxRecDepth 100000 in
set_option maxHeartbeats 4000000 in
theorem c_X6_least (Z : ZZ) (l : Launch) (a0 : Int32) (a1 : Int32) (a2 : Int32) (h : HP) {v : Int32} {h1 : HP} (ho : f_X6_least a0 a1 a2 h = some (v, h1)) : MetP Z l yX6_least cX6_least 4 (some .int) 0 0 [.int a0, .int a1, .int a2] h (some (.int v)) h1 := by
  refine MetP_of ho (by decide +kernel) (Nat.le_of_ble_eq_true rfl) [(0, .int a0), (1, .int a1), (2, .int a2)] rfl (own := RX6) rfl (nm := "least") rfl ?_
  unfold f_X6_least
  refine S_iload_n dX6_least_0 rfl 0 rfl (pc' := 1) rfl ?_
  refine S_iload_n dX6_least_1 rfl 1 rfl (pc' := 2) rfl ?_
  refine S_icmp_ge dX6_least_2 9 rfl (pc' := 5) rfl (fun g2 => ?_) (fun g2 => ?_)
  · refine S_iload_n dX6_least_9 rfl 1 rfl (pc' := 10) rfl ?_
    refine S_istore_n dX6_least_10 rfl (by decide) (lo' := [(3, .int a1), (0, .int a0), (1, .int a1), (2, .int a2)]) rfl (pc' := 11) rfl ?_
    refine S_iload_n dX6_least_11 rfl 0 rfl (pc' := 12) rfl ?_
    refine S_iload_n dX6_least_12 rfl 3 rfl (pc' := 13) rfl ?_
    refine S_icmp_ge dX6_least_13 20 rfl (pc' := 16) rfl (fun g13 => ?_) (fun g13 => ?_)
    · refine S_iload_n dX6_least_20 rfl 3 rfl (pc' := 21) rfl ?_
      exact S_iret rfl dX6_least_21
    · refine S_iload_n dX6_least_16 rfl 0 rfl (pc' := 17) rfl ?_
      refine S_goto dX6_least_17 21 rfl ?_
      exact S_iret rfl dX6_least_21
  · refine S_iload_n dX6_least_5 rfl 0 rfl (pc' := 6) rfl ?_
    refine S_goto dX6_least_6 10 rfl ?_
    refine S_istore_n dX6_least_10 rfl (by decide) (lo' := [(3, .int a0), (0, .int a0), (1, .int a1), (2, .int a2)]) rfl (pc' := 11) rfl ?_
    refine S_iload_n dX6_least_11 rfl 0 rfl (pc' := 12) rfl ?_
    refine S_iload_n dX6_least_12 rfl 3 rfl (pc' := 13) rfl ?_
    refine S_icmp_ge dX6_least_13 20 rfl (pc' := 16) rfl (fun g13 => ?_) (fun g13 => ?_)
    · refine S_iload_n dX6_least_20 rfl 3 rfl (pc' := 21) rfl ?_
      exact S_iret rfl dX6_least_21
    · refine S_iload_n dX6_least_16 rfl 0 rfl (pc' := 17) rfl ?_
      refine S_goto dX6_least_17 21 rfl ?_
      exact S_iret rfl dX6_least_21
theorem dX6_changesTo_0 : decode cX6_changesTo 0 = .ok (.iconst 0, 1) := by decide +kernel
theorem dX6_changesTo_1 : decode cX6_changesTo 1 = .ok (.istore_n 3, 1) := by decide +kernel
theorem dX6_changesTo_2 : decode cX6_changesTo 2 = .ok (.iload_n 3, 1) := by decide +kernel
theorem dX6_changesTo_3 : decode cX6_changesTo 3 = .ok (.bipush 8, 2) := by decide +kernel
theorem dX6_changesTo_5 : decode cX6_changesTo 5 = .ok (.if_icmp .gt 16, 3) := by decide +kernel
theorem dX6_changesTo_8 : decode cX6_changesTo 8 = .ok (.aload_n 0, 1) := by decide +kernel
theorem dX6_changesTo_9 : decode cX6_changesTo 9 = .ok (.getfield 86, 3) := by decide +kernel
theorem dX6_changesTo_12 : decode cX6_changesTo 12 = .ok (.iload_n 3, 1) := by decide +kernel
theorem dX6_changesTo_13 : decode cX6_changesTo 13 = .ok (.iload_n 3, 1) := by decide +kernel
theorem dX6_changesTo_14 : decode cX6_changesTo 14 = .ok (.iastore, 1) := by decide +kernel
theorem dX6_changesTo_15 : decode cX6_changesTo 15 = .ok (.iinc 3 1, 3) := by decide +kernel
theorem dX6_changesTo_18 : decode cX6_changesTo 18 = .ok (.goto (-16), 3) := by decide +kernel
theorem dX6_changesTo_21 : decode cX6_changesTo 21 = .ok (.iconst 1, 1) := by decide +kernel
theorem dX6_changesTo_22 : decode cX6_changesTo 22 = .ok (.istore_n 3, 1) := by decide +kernel
theorem dX6_changesTo_23 : decode cX6_changesTo 23 = .ok (.iload_n 3, 1) := by decide +kernel
theorem dX6_changesTo_24 : decode cX6_changesTo 24 = .ok (.iload_n 2, 1) := by decide +kernel
theorem dX6_changesTo_25 : decode cX6_changesTo 25 = .ok (.if_icmp .gt 136, 3) := by decide +kernel
theorem dX6_changesTo_28 : decode cX6_changesTo 28 = .ok (.aload_n 0, 1) := by decide +kernel
theorem dX6_changesTo_29 : decode cX6_changesTo 29 = .ok (.getfield 89, 3) := by decide +kernel
theorem dX6_changesTo_32 : decode cX6_changesTo 32 = .ok (.iconst 0, 1) := by decide +kernel
theorem dX6_changesTo_33 : decode cX6_changesTo 33 = .ok (.iload_n 3, 1) := by decide +kernel
theorem dX6_changesTo_34 : decode cX6_changesTo 34 = .ok (.iastore, 1) := by decide +kernel
theorem dX6_changesTo_35 : decode cX6_changesTo 35 = .ok (.iconst 1, 1) := by decide +kernel
theorem dX6_changesTo_36 : decode cX6_changesTo 36 = .ok (.istore 4, 2) := by decide +kernel
theorem dX6_changesTo_38 : decode cX6_changesTo 38 = .ok (.iload 4, 2) := by decide +kernel
theorem dX6_changesTo_40 : decode cX6_changesTo 40 = .ok (.bipush 8, 2) := by decide +kernel
theorem dX6_changesTo_42 : decode cX6_changesTo 42 = .ok (.if_icmp .gt 83, 3) := by decide +kernel
theorem dX6_changesTo_45 : decode cX6_changesTo 45 = .ok (.aload_n 0, 1) := by decide +kernel
theorem dX6_changesTo_46 : decode cX6_changesTo 46 = .ok (.getfield 83, 3) := by decide +kernel
theorem dX6_changesTo_49 : decode cX6_changesTo 49 = .ok (.iload_n 3, 1) := by decide +kernel
theorem dX6_changesTo_50 : decode cX6_changesTo 50 = .ok (.iconst 1, 1) := by decide +kernel
theorem dX6_changesTo_51 : decode cX6_changesTo 51 = .ok (.isub, 1) := by decide +kernel
theorem dX6_changesTo_52 : decode cX6_changesTo 52 = .ok (.iaload, 1) := by decide +kernel
theorem dX6_changesTo_53 : decode cX6_changesTo 53 = .ok (.aload_n 0, 1) := by decide +kernel
theorem dX6_changesTo_54 : decode cX6_changesTo 54 = .ok (.getfield 65, 3) := by decide +kernel
theorem dX6_changesTo_57 : decode cX6_changesTo 57 = .ok (.iload_n 1, 1) := by decide +kernel
theorem dX6_changesTo_58 : decode cX6_changesTo 58 = .ok (.bipush 8, 2) := by decide +kernel
theorem dX6_changesTo_60 : decode cX6_changesTo 60 = .ok (.imul, 1) := by decide +kernel
theorem dX6_changesTo_61 : decode cX6_changesTo 61 = .ok (.iload 4, 2) := by decide +kernel
theorem dX6_changesTo_63 : decode cX6_changesTo 63 = .ok (.iadd, 1) := by decide +kernel
theorem dX6_changesTo_64 : decode cX6_changesTo 64 = .ok (.iconst 1, 1) := by decide +kernel
theorem dX6_changesTo_65 : decode cX6_changesTo 65 = .ok (.isub, 1) := by decide +kernel
theorem dX6_changesTo_66 : decode cX6_changesTo 66 = .ok (.iaload, 1) := by decide +kernel
theorem dX6_changesTo_67 : decode cX6_changesTo 67 = .ok (.if_icmp .ne 7, 3) := by decide +kernel
theorem dX6_changesTo_70 : decode cX6_changesTo 70 = .ok (.iconst 0, 1) := by decide +kernel
theorem dX6_changesTo_71 : decode cX6_changesTo 71 = .ok (.goto 4, 3) := by decide +kernel
theorem dX6_changesTo_74 : decode cX6_changesTo 74 = .ok (.iconst 1, 1) := by decide +kernel
theorem dX6_changesTo_75 : decode cX6_changesTo 75 = .ok (.istore 5, 2) := by decide +kernel
theorem dX6_changesTo_77 : decode cX6_changesTo 77 = .ok (.aload_n 0, 1) := by decide +kernel
theorem dX6_changesTo_78 : decode cX6_changesTo 78 = .ok (.getfield 89, 3) := by decide +kernel
theorem dX6_changesTo_81 : decode cX6_changesTo 81 = .ok (.iload 4, 2) := by decide +kernel
theorem dX6_changesTo_83 : decode cX6_changesTo 83 = .ok (.aload_n 0, 1) := by decide +kernel
theorem dX6_changesTo_84 : decode cX6_changesTo 84 = .ok (.getfield 86, 3) := by decide +kernel
theorem dX6_changesTo_87 : decode cX6_changesTo 87 = .ok (.iload 4, 2) := by decide +kernel
theorem dX6_changesTo_89 : decode cX6_changesTo 89 = .ok (.iaload, 1) := by decide +kernel
theorem dX6_changesTo_90 : decode cX6_changesTo 90 = .ok (.iconst 1, 1) := by decide +kernel
theorem dX6_changesTo_91 : decode cX6_changesTo 91 = .ok (.iadd, 1) := by decide +kernel
theorem dX6_changesTo_92 : decode cX6_changesTo 92 = .ok (.aload_n 0, 1) := by decide +kernel
theorem dX6_changesTo_93 : decode cX6_changesTo 93 = .ok (.getfield 89, 3) := by decide +kernel
theorem dX6_changesTo_96 : decode cX6_changesTo 96 = .ok (.iload 4, 2) := by decide +kernel
theorem dX6_changesTo_98 : decode cX6_changesTo 98 = .ok (.iconst 1, 1) := by decide +kernel
theorem dX6_changesTo_99 : decode cX6_changesTo 99 = .ok (.isub, 1) := by decide +kernel
theorem dX6_changesTo_100 : decode cX6_changesTo 100 = .ok (.iaload, 1) := by decide +kernel
theorem dX6_changesTo_101 : decode cX6_changesTo 101 = .ok (.iconst 1, 1) := by decide +kernel
theorem dX6_changesTo_102 : decode cX6_changesTo 102 = .ok (.iadd, 1) := by decide +kernel
theorem dX6_changesTo_103 : decode cX6_changesTo 103 = .ok (.aload_n 0, 1) := by decide +kernel
theorem dX6_changesTo_104 : decode cX6_changesTo 104 = .ok (.getfield 86, 3) := by decide +kernel
theorem dX6_changesTo_107 : decode cX6_changesTo 107 = .ok (.iload 4, 2) := by decide +kernel
theorem dX6_changesTo_109 : decode cX6_changesTo 109 = .ok (.iconst 1, 1) := by decide +kernel
theorem dX6_changesTo_110 : decode cX6_changesTo 110 = .ok (.isub, 1) := by decide +kernel
theorem dX6_changesTo_111 : decode cX6_changesTo 111 = .ok (.iaload, 1) := by decide +kernel
theorem dX6_changesTo_112 : decode cX6_changesTo 112 = .ok (.iload 5, 2) := by decide +kernel
theorem dX6_changesTo_114 : decode cX6_changesTo 114 = .ok (.iadd, 1) := by decide +kernel
theorem dX6_changesTo_115 : decode cX6_changesTo 115 = .ok (.invokestatic 330, 3) := by decide +kernel
theorem dX6_changesTo_118 : decode cX6_changesTo 118 = .ok (.iastore, 1) := by decide +kernel
theorem dX6_changesTo_119 : decode cX6_changesTo 119 = .ok (.iinc 4 1, 3) := by decide +kernel
theorem dX6_changesTo_122 : decode cX6_changesTo 122 = .ok (.goto (-84), 3) := by decide +kernel
theorem dX6_changesTo_125 : decode cX6_changesTo 125 = .ok (.iconst 0, 1) := by decide +kernel
theorem dX6_changesTo_126 : decode cX6_changesTo 126 = .ok (.istore 4, 2) := by decide +kernel
theorem dX6_changesTo_128 : decode cX6_changesTo 128 = .ok (.iload 4, 2) := by decide +kernel
theorem dX6_changesTo_130 : decode cX6_changesTo 130 = .ok (.bipush 8, 2) := by decide +kernel
theorem dX6_changesTo_132 : decode cX6_changesTo 132 = .ok (.if_icmp .gt 23, 3) := by decide +kernel
theorem dX6_changesTo_135 : decode cX6_changesTo 135 = .ok (.aload_n 0, 1) := by decide +kernel
theorem dX6_changesTo_136 : decode cX6_changesTo 136 = .ok (.getfield 86, 3) := by decide +kernel
theorem dX6_changesTo_139 : decode cX6_changesTo 139 = .ok (.iload 4, 2) := by decide +kernel
theorem dX6_changesTo_141 : decode cX6_changesTo 141 = .ok (.aload_n 0, 1) := by decide +kernel
theorem dX6_changesTo_142 : decode cX6_changesTo 142 = .ok (.getfield 89, 3) := by decide +kernel
theorem dX6_changesTo_145 : decode cX6_changesTo 145 = .ok (.iload 4, 2) := by decide +kernel
theorem dX6_changesTo_147 : decode cX6_changesTo 147 = .ok (.iaload, 1) := by decide +kernel
theorem dX6_changesTo_148 : decode cX6_changesTo 148 = .ok (.iastore, 1) := by decide +kernel
theorem dX6_changesTo_149 : decode cX6_changesTo 149 = .ok (.iinc 4 1, 3) := by decide +kernel
theorem dX6_changesTo_152 : decode cX6_changesTo 152 = .ok (.goto (-24), 3) := by decide +kernel
theorem dX6_changesTo_155 : decode cX6_changesTo 155 = .ok (.iinc 3 1, 3) := by decide +kernel
theorem dX6_changesTo_158 : decode cX6_changesTo 158 = .ok (.goto (-135), 3) := by decide +kernel
theorem dX6_changesTo_161 : decode cX6_changesTo 161 = .ok (.aload_n 0, 1) := by decide +kernel
theorem dX6_changesTo_162 : decode cX6_changesTo 162 = .ok (.getfield 86, 3) := by decide +kernel
theorem dX6_changesTo_165 : decode cX6_changesTo 165 = .ok (.bipush 8, 2) := by decide +kernel
theorem dX6_changesTo_167 : decode cX6_changesTo 167 = .ok (.iaload, 1) := by decide +kernel
theorem dX6_changesTo_168 : decode cX6_changesTo 168 = .ok (.ireturn, 1) := by decide +kernel
set_option maxRecDepth 100000 in
set_option maxHeartbeats 4000000 in
theorem lc_X6_changesTo_2 (Z : ZZ) (l : Launch) (a0 : Nat) (a1 : Int32) (a2 : Int32) {args : Array Value} {h0 h1 : HP} {v0 : Int32} (K : HP → Option (Int32 × HP)) (F : Int32 → HP → Option (Int32 × HP))
    (hK : ∀ (h : HP), Sim Z l cX6_changesTo RX6 6 1 23 (some .int) "changesTo" args (Mq Z args h0 h1 (some (.int v0))) h0 h1 v0 21 [(0, .ref (zb Z + a0)), (1, .int a1), (2, .int a2)] [] h (K h))
    (hF : ∀ (b3 : Int32) (h : HP), Sim Z l cX6_changesTo RX6 6 1 23 (some .int) "changesTo" args (Mq Z args h0 h1 (some (.int v0))) h0 h1 v0 2 [(0, .ref (zb Z + a0)), (1, .int a1), (2, .int a2), (3, .int b3)] [] h (F b3 h)) :
    ∀ (b3 : Int32) (h : HP), Sim Z l cX6_changesTo RX6 6 1 23 (some .int) "changesTo" args (Mq Z args h0 h1 (some (.int v0))) h0 h1 v0 2 [(0, .ref (zb Z + a0)), (1, .int a1), (2, .int a2), (3, .int b3)] [] h (lb_X6_changesTo_2 a0 a1 a2 K F b3 h) := by
  intro b3 h
  unfold lb_X6_changesTo_2
  refine S_iload_n dX6_changesTo_2 rfl 3 rfl (pc' := 3) rfl ?_
  refine S_bipush dX6_changesTo_3 (v := 8) rfl (pc' := 5) rfl ?_
  refine S_icmp_gt dX6_changesTo_5 21 rfl (pc' := 8) rfl (fun g5 => ?_) (fun g5 => ?_)
  · refine Sim.sub [0, 1, 2] rfl ?_
    exact hK _
  · refine S_aload_n dX6_changesTo_8 rfl 0 rfl (pc' := 9) rfl ?_
    refine S_getR fl_X6_86 rfl dX6_changesTo_9 (pc' := 12) rfl (fun x9 => ?_)
    refine S_iload_n dX6_changesTo_12 rfl 3 rfl (pc' := 13) rfl ?_
    refine S_iload_n dX6_changesTo_13 rfl 3 rfl (pc' := 14) rfl ?_
    refine S_iastore dX6_changesTo_14 (pc' := 15) rfl (fun h14 => ?_)
    refine S_iinc dX6_changesTo_15 (q := 3) rfl (v := b3 + 1) rfl (by decide) (lo' := [(3, .int (b3 + 1)), (0, .ref (zb Z + a0)), (1, .int a1), (2, .int a2)]) rfl (pc' := 18) rfl ?_
    refine S_goto dX6_changesTo_18 2 rfl ?_
    refine Sim.sub [1, 2, 3, 0] rfl ?_
    exact hF _ _
theorem lq_X6_changesTo_2 (Z : ZZ) (l : Launch) (a0 : Nat) (a1 : Int32) (a2 : Int32) {args : Array Value} {h0 h1 : HP} {v0 : Int32} (K : HP → Option (Int32 × HP))
    (hK : ∀ (h : HP), Sim Z l cX6_changesTo RX6 6 1 23 (some .int) "changesTo" args (Mq Z args h0 h1 (some (.int v0))) h0 h1 v0 21 [(0, .ref (zb Z + a0)), (1, .int a1), (2, .int a2)] [] h (K h)) :
    ∀ (k : Nat) (b3 : Int32) (h : HP), Sim Z l cX6_changesTo RX6 6 1 23 (some .int) "changesTo" args (Mq Z args h0 h1 (some (.int v0))) h0 h1 v0 2 [(0, .ref (zb Z + a0)), (1, .int a1), (2, .int a2), (3, .int b3)] [] h (lp_X6_changesTo_2 a0 a1 a2 K k b3 h) := by
  intro k
  induction k with
  | zero => exact fun _ _ => Sim.none
  | succ k ih => exact lc_X6_changesTo_2 Z l a0 a1 a2 K _ hK ih
set_option maxRecDepth 100000 in
set_option maxHeartbeats 4000000 in
theorem lc_X6_changesTo_38 (Z : ZZ) (l : Launch) (a0 : Nat) (a1 : Int32) (a2 : Int32) (a3 : Int32) {args : Array Value} {h0 h1 : HP} {v0 : Int32} (K : HP → Option (Int32 × HP)) (F : Int32 → HP → Option (Int32 × HP))
    (hK : ∀ (h : HP), Sim Z l cX6_changesTo RX6 6 1 23 (some .int) "changesTo" args (Mq Z args h0 h1 (some (.int v0))) h0 h1 v0 125 [(0, .ref (zb Z + a0)), (1, .int a1), (2, .int a2), (3, .int a3)] [] h (K h))
    (hF : ∀ (b4 : Int32) (h : HP), Sim Z l cX6_changesTo RX6 6 1 23 (some .int) "changesTo" args (Mq Z args h0 h1 (some (.int v0))) h0 h1 v0 38 [(0, .ref (zb Z + a0)), (1, .int a1), (2, .int a2), (3, .int a3), (4, .int b4)] [] h (F b4 h)) :
    ∀ (b4 : Int32) (h : HP), Sim Z l cX6_changesTo RX6 6 1 23 (some .int) "changesTo" args (Mq Z args h0 h1 (some (.int v0))) h0 h1 v0 38 [(0, .ref (zb Z + a0)), (1, .int a1), (2, .int a2), (3, .int a3), (4, .int b4)] [] h (lb_X6_changesTo_38 a0 a1 a2 a3 K F b4 h) := by
  intro b4 h
  unfold lb_X6_changesTo_38
  refine S_iload dX6_changesTo_38 4 rfl (pc' := 40) rfl ?_
  refine S_bipush dX6_changesTo_40 (v := 8) rfl (pc' := 42) rfl ?_
  refine S_icmp_gt dX6_changesTo_42 125 rfl (pc' := 45) rfl (fun g42 => ?_) (fun g42 => ?_)
  · refine Sim.sub [0, 1, 2, 3] rfl ?_
    exact hK _
  · refine S_aload_n dX6_changesTo_45 rfl 0 rfl (pc' := 46) rfl ?_
    refine S_getR fl_X6_83 rfl dX6_changesTo_46 (pc' := 49) rfl (fun x46 => ?_)
    refine S_iload_n dX6_changesTo_49 rfl 3 rfl (pc' := 50) rfl ?_
    refine S_iconst dX6_changesTo_50 (v := 1) rfl (pc' := 51) rfl ?_
    refine S_isub dX6_changesTo_51 (pc' := 52) rfl ?_
    refine S_iaload dX6_changesTo_52 (pc' := 53) rfl (fun x52 => ?_)
    refine S_aload_n dX6_changesTo_53 rfl 0 rfl (pc' := 54) rfl ?_
    refine S_getR fl_X6_65 rfl dX6_changesTo_54 (pc' := 57) rfl (fun x54 => ?_)
    refine S_iload_n dX6_changesTo_57 rfl 1 rfl (pc' := 58) rfl ?_
    refine S_bipush dX6_changesTo_58 (v := 8) rfl (pc' := 60) rfl ?_
    refine S_imul dX6_changesTo_60 (pc' := 61) rfl ?_
    refine S_iload dX6_changesTo_61 4 rfl (pc' := 63) rfl ?_
    refine S_iadd dX6_changesTo_63 (pc' := 64) rfl ?_
    refine S_iconst dX6_changesTo_64 (v := 1) rfl (pc' := 65) rfl ?_
    refine S_isub dX6_changesTo_65 (pc' := 66) rfl ?_
    refine S_iaload dX6_changesTo_66 (pc' := 67) rfl (fun x66 => ?_)
    refine S_icmp_ne dX6_changesTo_67 74 rfl (pc' := 70) rfl (fun g67 => ?_) (fun g67 => ?_)
    · refine S_iconst dX6_changesTo_74 (v := 1) rfl (pc' := 75) rfl ?_
      refine S_istore dX6_changesTo_75 (by decide) (lo' := [(5, .int 1), (0, .ref (zb Z + a0)), (1, .int a1), (2, .int a2), (3, .int a3), (4, .int b4)]) rfl (pc' := 77) rfl ?_
      refine S_aload_n dX6_changesTo_77 rfl 1 rfl (pc' := 78) rfl ?_
      refine S_getR fl_X6_89 rfl dX6_changesTo_78 (pc' := 81) rfl (fun x78 => ?_)
      refine S_iload dX6_changesTo_81 5 rfl (pc' := 83) rfl ?_
      refine S_aload_n dX6_changesTo_83 rfl 1 rfl (pc' := 84) rfl ?_
      refine S_getR fl_X6_86 rfl dX6_changesTo_84 (pc' := 87) rfl (fun x84 => ?_)
      refine S_iload dX6_changesTo_87 5 rfl (pc' := 89) rfl ?_
      refine S_iaload dX6_changesTo_89 (pc' := 90) rfl (fun x89 => ?_)
      refine S_iconst dX6_changesTo_90 (v := 1) rfl (pc' := 91) rfl ?_
      refine S_iadd dX6_changesTo_91 (pc' := 92) rfl ?_
      refine S_aload_n dX6_changesTo_92 rfl 1 rfl (pc' := 93) rfl ?_
      refine S_getR fl_X6_89 rfl dX6_changesTo_93 (pc' := 96) rfl (fun x93 => ?_)
      refine S_iload dX6_changesTo_96 5 rfl (pc' := 98) rfl ?_
      refine S_iconst dX6_changesTo_98 (v := 1) rfl (pc' := 99) rfl ?_
      refine S_isub dX6_changesTo_99 (pc' := 100) rfl ?_
      refine S_iaload dX6_changesTo_100 (pc' := 101) rfl (fun x100 => ?_)
      refine S_iconst dX6_changesTo_101 (v := 1) rfl (pc' := 102) rfl ?_
      refine S_iadd dX6_changesTo_102 (pc' := 103) rfl ?_
      refine S_aload_n dX6_changesTo_103 rfl 1 rfl (pc' := 104) rfl ?_
      refine S_getR fl_X6_86 rfl dX6_changesTo_104 (pc' := 107) rfl (fun x104 => ?_)
      refine S_iload dX6_changesTo_107 5 rfl (pc' := 109) rfl ?_
      refine S_iconst dX6_changesTo_109 (v := 1) rfl (pc' := 110) rfl ?_
      refine S_isub dX6_changesTo_110 (pc' := 111) rfl ?_
      refine S_iaload dX6_changesTo_111 (pc' := 112) rfl (fun x111 => ?_)
      refine S_iload dX6_changesTo_112 0 rfl (pc' := 114) rfl ?_
      refine S_iadd dX6_changesTo_114 (pc' := 115) rfl ?_
      refine S_stai ml_X6_330 ms_X6_least dX6_changesTo_115 [.int (x89 + 1), .int (x100 + 1), .int (x111 + 1)] rfl (fun v h2 q => c_X6_least Z l _ _ _ _ q) ⟨Nat.le_of_ble_eq_true rfl, Nat.le_of_ble_eq_true rfl⟩ (rest := [.int b4, .ref (zb Z + x78)]) (Nat.le_of_ble_eq_true rfl) rfl (pc' := 118) rfl (fun x115 h115 => ?_)
      refine S_iastore dX6_changesTo_118 (pc' := 119) rfl (fun h118 => ?_)
      refine S_iinc dX6_changesTo_119 (q := 5) rfl (v := b4 + 1) rfl (by decide) (lo' := [(4, .int (b4 + 1)), (5, .int 1), (0, .ref (zb Z + a0)), (1, .int a1), (2, .int a2), (3, .int a3)]) rfl (pc' := 122) rfl ?_
      refine S_goto dX6_changesTo_122 38 rfl ?_
      refine Sim.sub [2, 3, 4, 5, 0] rfl ?_
      exact hF _ _
    · refine S_iconst dX6_changesTo_70 (v := 0) rfl (pc' := 71) rfl ?_
      refine S_goto dX6_changesTo_71 75 rfl ?_
      refine S_istore dX6_changesTo_75 (by decide) (lo' := [(5, .int 0), (0, .ref (zb Z + a0)), (1, .int a1), (2, .int a2), (3, .int a3), (4, .int b4)]) rfl (pc' := 77) rfl ?_
      refine S_aload_n dX6_changesTo_77 rfl 1 rfl (pc' := 78) rfl ?_
      refine S_getR fl_X6_89 rfl dX6_changesTo_78 (pc' := 81) rfl (fun x78 => ?_)
      refine S_iload dX6_changesTo_81 5 rfl (pc' := 83) rfl ?_
      refine S_aload_n dX6_changesTo_83 rfl 1 rfl (pc' := 84) rfl ?_
      refine S_getR fl_X6_86 rfl dX6_changesTo_84 (pc' := 87) rfl (fun x84 => ?_)
      refine S_iload dX6_changesTo_87 5 rfl (pc' := 89) rfl ?_
      refine S_iaload dX6_changesTo_89 (pc' := 90) rfl (fun x89 => ?_)
      refine S_iconst dX6_changesTo_90 (v := 1) rfl (pc' := 91) rfl ?_
      refine S_iadd dX6_changesTo_91 (pc' := 92) rfl ?_
      refine S_aload_n dX6_changesTo_92 rfl 1 rfl (pc' := 93) rfl ?_
      refine S_getR fl_X6_89 rfl dX6_changesTo_93 (pc' := 96) rfl (fun x93 => ?_)
      refine S_iload dX6_changesTo_96 5 rfl (pc' := 98) rfl ?_
      refine S_iconst dX6_changesTo_98 (v := 1) rfl (pc' := 99) rfl ?_
      refine S_isub dX6_changesTo_99 (pc' := 100) rfl ?_
      refine S_iaload dX6_changesTo_100 (pc' := 101) rfl (fun x100 => ?_)
      refine S_iconst dX6_changesTo_101 (v := 1) rfl (pc' := 102) rfl ?_
      refine S_iadd dX6_changesTo_102 (pc' := 103) rfl ?_
      refine S_aload_n dX6_changesTo_103 rfl 1 rfl (pc' := 104) rfl ?_
      refine S_getR fl_X6_86 rfl dX6_changesTo_104 (pc' := 107) rfl (fun x104 => ?_)
      refine S_iload dX6_changesTo_107 5 rfl (pc' := 109) rfl ?_
      refine S_iconst dX6_changesTo_109 (v := 1) rfl (pc' := 110) rfl ?_
      refine S_isub dX6_changesTo_110 (pc' := 111) rfl ?_
      refine S_iaload dX6_changesTo_111 (pc' := 112) rfl (fun x111 => ?_)
      refine S_iload dX6_changesTo_112 0 rfl (pc' := 114) rfl ?_
      refine S_iadd dX6_changesTo_114 (pc' := 115) rfl ?_
      refine S_stai ml_X6_330 ms_X6_least dX6_changesTo_115 [.int (x89 + 1), .int (x100 + 1), .int (x111 + 0)] rfl (fun v h2 q => c_X6_least Z l _ _ _ _ q) ⟨Nat.le_of_ble_eq_true rfl, Nat.le_of_ble_eq_true rfl⟩ (rest := [.int b4, .ref (zb Z + x78)]) (Nat.le_of_ble_eq_true rfl) rfl (pc' := 118) rfl (fun x115 h115 => ?_)
      refine S_iastore dX6_changesTo_118 (pc' := 119) rfl (fun h118 => ?_)
      refine S_iinc dX6_changesTo_119 (q := 5) rfl (v := b4 + 1) rfl (by decide) (lo' := [(4, .int (b4 + 1)), (5, .int 0), (0, .ref (zb Z + a0)), (1, .int a1), (2, .int a2), (3, .int a3)]) rfl (pc' := 122) rfl ?_
      refine S_goto dX6_changesTo_122 38 rfl ?_
      refine Sim.sub [2, 3, 4, 5, 0] rfl ?_
      exact hF _ _
theorem lq_X6_changesTo_38 (Z : ZZ) (l : Launch) (a0 : Nat) (a1 : Int32) (a2 : Int32) (a3 : Int32) {args : Array Value} {h0 h1 : HP} {v0 : Int32} (K : HP → Option (Int32 × HP))
    (hK : ∀ (h : HP), Sim Z l cX6_changesTo RX6 6 1 23 (some .int) "changesTo" args (Mq Z args h0 h1 (some (.int v0))) h0 h1 v0 125 [(0, .ref (zb Z + a0)), (1, .int a1), (2, .int a2), (3, .int a3)] [] h (K h)) :
    ∀ (k : Nat) (b4 : Int32) (h : HP), Sim Z l cX6_changesTo RX6 6 1 23 (some .int) "changesTo" args (Mq Z args h0 h1 (some (.int v0))) h0 h1 v0 38 [(0, .ref (zb Z + a0)), (1, .int a1), (2, .int a2), (3, .int a3), (4, .int b4)] [] h (lp_X6_changesTo_38 a0 a1 a2 a3 K k b4 h) := by
  intro k
  induction k with
  | zero => exact fun _ _ => Sim.none
  | succ k ih => exact lc_X6_changesTo_38 Z l a0 a1 a2 a3 K _ hK ih
set_option maxRecDepth 100000 in
set_option maxHeartbeats 4000000 in
theorem lc_X6_changesTo_128 (Z : ZZ) (l : Launch) (a0 : Nat) (a1 : Int32) (a2 : Int32) (a3 : Int32) {args : Array Value} {h0 h1 : HP} {v0 : Int32} (K : HP → Option (Int32 × HP)) (F : Int32 → HP → Option (Int32 × HP))
    (hK : ∀ (h : HP), Sim Z l cX6_changesTo RX6 6 1 23 (some .int) "changesTo" args (Mq Z args h0 h1 (some (.int v0))) h0 h1 v0 155 [(0, .ref (zb Z + a0)), (1, .int a1), (2, .int a2), (3, .int a3)] [] h (K h))
    (hF : ∀ (b4 : Int32) (h : HP), Sim Z l cX6_changesTo RX6 6 1 23 (some .int) "changesTo" args (Mq Z args h0 h1 (some (.int v0))) h0 h1 v0 128 [(0, .ref (zb Z + a0)), (1, .int a1), (2, .int a2), (3, .int a3), (4, .int b4)] [] h (F b4 h)) :
    ∀ (b4 : Int32) (h : HP), Sim Z l cX6_changesTo RX6 6 1 23 (some .int) "changesTo" args (Mq Z args h0 h1 (some (.int v0))) h0 h1 v0 128 [(0, .ref (zb Z + a0)), (1, .int a1), (2, .int a2), (3, .int a3), (4, .int b4)] [] h (lb_X6_changesTo_128 a0 a1 a2 a3 K F b4 h) := by
  intro b4 h
  unfold lb_X6_changesTo_128
  refine S_iload dX6_changesTo_128 4 rfl (pc' := 130) rfl ?_
  refine S_bipush dX6_changesTo_130 (v := 8) rfl (pc' := 132) rfl ?_
  refine S_icmp_gt dX6_changesTo_132 155 rfl (pc' := 135) rfl (fun g132 => ?_) (fun g132 => ?_)
  · refine Sim.sub [0, 1, 2, 3] rfl ?_
    exact hK _
  · refine S_aload_n dX6_changesTo_135 rfl 0 rfl (pc' := 136) rfl ?_
    refine S_getR fl_X6_86 rfl dX6_changesTo_136 (pc' := 139) rfl (fun x136 => ?_)
    refine S_iload dX6_changesTo_139 4 rfl (pc' := 141) rfl ?_
    refine S_aload_n dX6_changesTo_141 rfl 0 rfl (pc' := 142) rfl ?_
    refine S_getR fl_X6_89 rfl dX6_changesTo_142 (pc' := 145) rfl (fun x142 => ?_)
    refine S_iload dX6_changesTo_145 4 rfl (pc' := 147) rfl ?_
    refine S_iaload dX6_changesTo_147 (pc' := 148) rfl (fun x147 => ?_)
    refine S_iastore dX6_changesTo_148 (pc' := 149) rfl (fun h148 => ?_)
    refine S_iinc dX6_changesTo_149 (q := 4) rfl (v := b4 + 1) rfl (by decide) (lo' := [(4, .int (b4 + 1)), (0, .ref (zb Z + a0)), (1, .int a1), (2, .int a2), (3, .int a3)]) rfl (pc' := 152) rfl ?_
    refine S_goto dX6_changesTo_152 128 rfl ?_
    refine Sim.sub [1, 2, 3, 4, 0] rfl ?_
    exact hF _ _
theorem lq_X6_changesTo_128 (Z : ZZ) (l : Launch) (a0 : Nat) (a1 : Int32) (a2 : Int32) (a3 : Int32) {args : Array Value} {h0 h1 : HP} {v0 : Int32} (K : HP → Option (Int32 × HP))
    (hK : ∀ (h : HP), Sim Z l cX6_changesTo RX6 6 1 23 (some .int) "changesTo" args (Mq Z args h0 h1 (some (.int v0))) h0 h1 v0 155 [(0, .ref (zb Z + a0)), (1, .int a1), (2, .int a2), (3, .int a3)] [] h (K h)) :
    ∀ (k : Nat) (b4 : Int32) (h : HP), Sim Z l cX6_changesTo RX6 6 1 23 (some .int) "changesTo" args (Mq Z args h0 h1 (some (.int v0))) h0 h1 v0 128 [(0, .ref (zb Z + a0)), (1, .int a1), (2, .int a2), (3, .int a3), (4, .int b4)] [] h (lp_X6_changesTo_128 a0 a1 a2 a3 K k b4 h) := by
  intro k
  induction k with
  | zero => exact fun _ _ => Sim.none
  | succ k ih => exact lc_X6_changesTo_128 Z l a0 a1 a2 a3 K _ hK ih
set_option maxRecDepth 100000 in
set_option maxHeartbeats 4000000 in
theorem lc_X6_changesTo_23 (Z : ZZ) (l : Launch) (a0 : Nat) (a1 : Int32) (a2 : Int32) {args : Array Value} {h0 h1 : HP} {v0 : Int32} (K : HP → Option (Int32 × HP)) (F : Int32 → HP → Option (Int32 × HP))
    (hK : ∀ (h : HP), Sim Z l cX6_changesTo RX6 6 1 23 (some .int) "changesTo" args (Mq Z args h0 h1 (some (.int v0))) h0 h1 v0 161 [(0, .ref (zb Z + a0))] [] h (K h))
    (hF : ∀ (b3 : Int32) (h : HP), Sim Z l cX6_changesTo RX6 6 1 23 (some .int) "changesTo" args (Mq Z args h0 h1 (some (.int v0))) h0 h1 v0 23 [(0, .ref (zb Z + a0)), (1, .int a1), (2, .int a2), (3, .int b3)] [] h (F b3 h)) :
    ∀ (b3 : Int32) (h : HP), Sim Z l cX6_changesTo RX6 6 1 23 (some .int) "changesTo" args (Mq Z args h0 h1 (some (.int v0))) h0 h1 v0 23 [(0, .ref (zb Z + a0)), (1, .int a1), (2, .int a2), (3, .int b3)] [] h (lb_X6_changesTo_23 a0 a1 a2 K F b3 h) := by
  intro b3 h
  unfold lb_X6_changesTo_23
  refine S_iload_n dX6_changesTo_23 rfl 3 rfl (pc' := 24) rfl ?_
  refine S_iload_n dX6_changesTo_24 rfl 2 rfl (pc' := 25) rfl ?_
  refine S_icmp_gt dX6_changesTo_25 161 rfl (pc' := 28) rfl (fun g25 => ?_) (fun g25 => ?_)
  · refine Sim.sub [0] rfl ?_
    exact hK _
  · refine S_aload_n dX6_changesTo_28 rfl 0 rfl (pc' := 29) rfl ?_
    refine S_getR fl_X6_89 rfl dX6_changesTo_29 (pc' := 32) rfl (fun x29 => ?_)
    refine S_iconst dX6_changesTo_32 (v := 0) rfl (pc' := 33) rfl ?_
    refine S_iload_n dX6_changesTo_33 rfl 3 rfl (pc' := 34) rfl ?_
    refine S_iastore dX6_changesTo_34 (pc' := 35) rfl (fun h34 => ?_)
    refine S_iconst dX6_changesTo_35 (v := 1) rfl (pc' := 36) rfl ?_
    refine S_istore dX6_changesTo_36 (by decide) (lo' := [(4, .int 1), (0, .ref (zb Z + a0)), (1, .int a1), (2, .int a2), (3, .int b3)]) rfl (pc' := 38) rfl ?_
    refine Sim.sub [1, 2, 3, 4, 0] rfl ?_
    refine lq_X6_changesTo_38 Z l a0 a1 a2 b3 _ ?_ 1000 _ _
    intro h38_
    refine S_iconst dX6_changesTo_125 (v := 0) rfl (pc' := 126) rfl ?_
    refine S_istore dX6_changesTo_126 (by decide) (lo' := [(4, .int 0), (0, .ref (zb Z + a0)), (1, .int a1), (2, .int a2), (3, .int b3)]) rfl (pc' := 128) rfl ?_
    refine Sim.sub [1, 2, 3, 4, 0] rfl ?_
    refine lq_X6_changesTo_128 Z l a0 a1 a2 b3 _ ?_ 1000 _ _
    intro h128_
    refine S_iinc dX6_changesTo_155 (q := 3) rfl (v := b3 + 1) rfl (by decide) (lo' := [(3, .int (b3 + 1)), (0, .ref (zb Z + a0)), (1, .int a1), (2, .int a2)]) rfl (pc' := 158) rfl ?_
    refine S_goto dX6_changesTo_158 23 rfl ?_
    refine Sim.sub [1, 2, 3, 0] rfl ?_
    exact hF _ _
theorem lq_X6_changesTo_23 (Z : ZZ) (l : Launch) (a0 : Nat) (a1 : Int32) (a2 : Int32) {args : Array Value} {h0 h1 : HP} {v0 : Int32} (K : HP → Option (Int32 × HP))
    (hK : ∀ (h : HP), Sim Z l cX6_changesTo RX6 6 1 23 (some .int) "changesTo" args (Mq Z args h0 h1 (some (.int v0))) h0 h1 v0 161 [(0, .ref (zb Z + a0))] [] h (K h)) :
    ∀ (k : Nat) (b3 : Int32) (h : HP), Sim Z l cX6_changesTo RX6 6 1 23 (some .int) "changesTo" args (Mq Z args h0 h1 (some (.int v0))) h0 h1 v0 23 [(0, .ref (zb Z + a0)), (1, .int a1), (2, .int a2), (3, .int b3)] [] h (lp_X6_changesTo_23 a0 a1 a2 K k b3 h) := by
  intro k
  induction k with
  | zero => exact fun _ _ => Sim.none
  | succ k ih => exact lc_X6_changesTo_23 Z l a0 a1 a2 K _ hK ih
set_option maxRecDepth 100000 in
set_option maxHeartbeats 4000000 in
theorem c_X6_changesTo (Z : ZZ) (l : Launch) (t : Nat) (a1 : Int32) (a2 : Int32) (h : HP) {v : Int32} {h1 : HP} (ho : f_X6_changesTo t a1 a2 h = some (v, h1)) : MetP Z l yX6_changesTo cX6_changesTo 6 (some .int) 1 23 [.ref (zb Z + t), .int a1, .int a2] h (some (.int v)) h1 := by
  refine MetP_of ho (by decide +kernel) (Nat.le_of_ble_eq_true rfl) [(0, .ref (zb Z + t)), (1, .int a1), (2, .int a2)] rfl (own := RX6) rfl (nm := "changesTo") rfl ?_
  unfold f_X6_changesTo
  refine S_iconst dX6_changesTo_0 (v := 0) rfl (pc' := 1) rfl ?_
  refine S_istore_n dX6_changesTo_1 rfl (by decide) (lo' := [(3, .int 0), (0, .ref (zb Z + t)), (1, .int a1), (2, .int a2)]) rfl (pc' := 2) rfl ?_
  refine Sim.sub [1, 2, 3, 0] rfl ?_
  refine lq_X6_changesTo_2 Z l t a1 a2 _ ?_ 1000 _ _
  intro h2_
  refine S_iconst dX6_changesTo_21 (v := 1) rfl (pc' := 22) rfl ?_
  refine S_istore_n dX6_changesTo_22 rfl (by decide) (lo' := [(3, .int 1), (0, .ref (zb Z + t)), (1, .int a1), (2, .int a2)]) rfl (pc' := 23) rfl ?_
  refine Sim.sub [1, 2, 3, 0] rfl ?_
  refine lq_X6_changesTo_23 Z l t a1 a2 _ ?_ 1000 _ _
  intro h23_
  refine S_aload_n dX6_changesTo_161 rfl 0 rfl (pc' := 162) rfl ?_
  refine S_getR fl_X6_86 rfl dX6_changesTo_162 (pc' := 165) rfl (fun x162 => ?_)
  refine S_bipush dX6_changesTo_165 (v := 8) rfl (pc' := 167) rfl ?_
  refine S_iaload dX6_changesTo_167 (pc' := 168) rfl (fun x167 => ?_)
  exact S_iret rfl dX6_changesTo_168
