theorem dJ0_length_8abf5_0 : decode cJ0_length_8abf5 0 = .ok (.aload_n 0, 1) := by decide +kernel
theorem dJ0_length_8abf5_1 : decode cJ0_length_8abf5 1 = .ok (.getfield 9, 3) := by decide +kernel
theorem dJ0_length_8abf5_4 : decode cJ0_length_8abf5 4 = .ok (.arraylength, 1) := by decide +kernel
theorem dJ0_length_8abf5_5 : decode cJ0_length_8abf5 5 = .ok (.aload_n 0, 1) := by decide +kernel
theorem dJ0_length_8abf5_6 : decode cJ0_length_8abf5 6 = .ok (.invokevirtual 335, 3) := by decide +kernel
theorem dJ0_length_8abf5_9 : decode cJ0_length_8abf5 9 = .ok (.ishr, 1) := by decide +kernel
theorem dJ0_length_8abf5_10 : decode cJ0_length_8abf5 10 = .ok (.ireturn, 1) := by decide +kernel
theorem dJ0_charAt_5068e_0 : decode cJ0_charAt_5068e 0 = .ok (.aload_n 0, 1) := by decide +kernel
theorem dJ0_charAt_5068e_1 : decode cJ0_charAt_5068e 1 = .ok (.invokevirtual 492, 3) := by decide +kernel
theorem dJ0_charAt_5068e_4 : decode cJ0_charAt_5068e 4 = .ok (.ifCond .eq 12, 3) := by decide +kernel
theorem dJ0_charAt_5068e_7 : decode cJ0_charAt_5068e 7 = .ok (.aload_n 0, 1) := by decide +kernel
theorem dJ0_charAt_5068e_8 : decode cJ0_charAt_5068e 8 = .ok (.getfield 9, 3) := by decide +kernel
theorem dJ0_charAt_5068e_11 : decode cJ0_charAt_5068e 11 = .ok (.iload_n 1, 1) := by decide +kernel
theorem dJ0_charAt_5068e_12 : decode cJ0_charAt_5068e 12 = .ok (.invokestatic 495, 3) := by decide +kernel
theorem dJ0_charAt_5068e_15 : decode cJ0_charAt_5068e 15 = .ok (.ireturn, 1) := by decide +kernel
theorem dJ0_charAt_5068e_16 : decode cJ0_charAt_5068e 16 = .ok (.aload_n 0, 1) := by decide +kernel
theorem dJ0_charAt_5068e_17 : decode cJ0_charAt_5068e 17 = .ok (.getfield 9, 3) := by decide +kernel
theorem dJ0_charAt_5068e_20 : decode cJ0_charAt_5068e 20 = .ok (.iload_n 1, 1) := by decide +kernel
theorem dJ0_charAt_5068e_21 : decode cJ0_charAt_5068e 21 = .ok (.invokestatic 498, 3) := by decide +kernel
theorem dJ0_charAt_5068e_24 : decode cJ0_charAt_5068e 24 = .ok (.ireturn, 1) := by decide +kernel
theorem dJ0_coder_7d493_0 : decode cJ0_coder_7d493 0 = .ok (.getstatic 38, 3) := by decide +kernel
theorem dJ0_coder_7d493_3 : decode cJ0_coder_7d493 3 = .ok (.ifCond .eq 10, 3) := by decide +kernel
theorem dJ0_coder_7d493_6 : decode cJ0_coder_7d493 6 = .ok (.aload_n 0, 1) := by decide +kernel
theorem dJ0_coder_7d493_7 : decode cJ0_coder_7d493 7 = .ok (.getfield 15, 3) := by decide +kernel
theorem dJ0_coder_7d493_10 : decode cJ0_coder_7d493 10 = .ok (.goto 4, 3) := by decide +kernel
theorem dJ0_coder_7d493_13 : decode cJ0_coder_7d493 13 = .ok (.iconst 1, 1) := by decide +kernel
theorem dJ0_coder_7d493_14 : decode cJ0_coder_7d493 14 = .ok (.ireturn, 1) := by decide +kernel
theorem dJ0_isLatin1_aae02_0 : decode cJ0_isLatin1_aae02 0 = .ok (.getstatic 38, 3) := by decide +kernel
theorem dJ0_isLatin1_aae02_3 : decode cJ0_isLatin1_aae02 3 = .ok (.ifCond .eq 14, 3) := by decide +kernel
theorem dJ0_isLatin1_aae02_6 : decode cJ0_isLatin1_aae02 6 = .ok (.aload_n 0, 1) := by decide +kernel
theorem dJ0_isLatin1_aae02_7 : decode cJ0_isLatin1_aae02 7 = .ok (.getfield 15, 3) := by decide +kernel
theorem dJ0_isLatin1_aae02_10 : decode cJ0_isLatin1_aae02 10 = .ok (.ifCond .ne 7, 3) := by decide +kernel
theorem dJ0_isLatin1_aae02_13 : decode cJ0_isLatin1_aae02 13 = .ok (.iconst 1, 1) := by decide +kernel
theorem dJ0_isLatin1_aae02_14 : decode cJ0_isLatin1_aae02 14 = .ok (.goto 4, 3) := by decide +kernel
theorem dJ0_isLatin1_aae02_17 : decode cJ0_isLatin1_aae02 17 = .ok (.iconst 0, 1) := by decide +kernel
theorem dJ0_isLatin1_aae02_18 : decode cJ0_isLatin1_aae02 18 = .ok (.ireturn, 1) := by decide +kernel
theorem dJ0_checkIndex_df160_0 : decode cJ0_checkIndex_df160 0 = .ok (.iload_n 0, 1) := by decide +kernel
theorem dJ0_checkIndex_df160_1 : decode cJ0_checkIndex_df160 1 = .ok (.iload_n 1, 1) := by decide +kernel
theorem dJ0_checkIndex_df160_2 : decode cJ0_checkIndex_df160 2 = .ok (.getstatic 1053, 3) := by decide +kernel
theorem dJ0_checkIndex_df160_5 : decode cJ0_checkIndex_df160 5 = .ok (.invokestatic 1059, 3) := by decide +kernel
theorem dJ0_checkIndex_df160_8 : decode cJ0_checkIndex_df160 8 = .ok (.pop, 1) := by decide +kernel
theorem dJ0_checkIndex_df160_9 : decode cJ0_checkIndex_df160 9 = .ok (.return_, 1) := by decide +kernel
theorem dJ1_charAt_3b067_0 : decode cJ1_charAt_3b067 0 = .ok (.iload_n 1, 1) := by decide +kernel
theorem dJ1_charAt_3b067_1 : decode cJ1_charAt_3b067 1 = .ok (.aload_n 0, 1) := by decide +kernel
theorem dJ1_charAt_3b067_2 : decode cJ1_charAt_3b067 2 = .ok (.arraylength, 1) := by decide +kernel
theorem dJ1_charAt_3b067_3 : decode cJ1_charAt_3b067 3 = .ok (.invokestatic 9, 3) := by decide +kernel
theorem dJ1_charAt_3b067_6 : decode cJ1_charAt_3b067 6 = .ok (.aload_n 0, 1) := by decide +kernel
theorem dJ1_charAt_3b067_7 : decode cJ1_charAt_3b067 7 = .ok (.iload_n 1, 1) := by decide +kernel
theorem dJ1_charAt_3b067_8 : decode cJ1_charAt_3b067 8 = .ok (.baload, 1) := by decide +kernel
theorem dJ1_charAt_3b067_9 : decode cJ1_charAt_3b067 9 = .ok (.sipush 255, 3) := by decide +kernel
theorem dJ1_charAt_3b067_12 : decode cJ1_charAt_3b067 12 = .ok (.iand, 1) := by decide +kernel
theorem dJ1_charAt_3b067_13 : decode cJ1_charAt_3b067 13 = .ok (.i2c, 1) := by decide +kernel
theorem dJ1_charAt_3b067_14 : decode cJ1_charAt_3b067 14 = .ok (.ireturn, 1) := by decide +kernel
theorem dJ3_checkIndex_8e157_0 : decode cJ3_checkIndex_8e157 0 = .ok (.iload_n 0, 1) := by decide +kernel
theorem dJ3_checkIndex_8e157_1 : decode cJ3_checkIndex_8e157 1 = .ok (.ifCond .lt 8, 3) := by decide +kernel
theorem dJ3_checkIndex_8e157_4 : decode cJ3_checkIndex_8e157 4 = .ok (.iload_n 0, 1) := by decide +kernel
theorem dJ3_checkIndex_8e157_5 : decode cJ3_checkIndex_8e157 5 = .ok (.iload_n 1, 1) := by decide +kernel
theorem dJ3_checkIndex_8e157_6 : decode cJ3_checkIndex_8e157 6 = .ok (.if_icmp .lt 10, 3) := by decide +kernel
theorem dJ3_checkIndex_8e157_9 : decode cJ3_checkIndex_8e157 9 = .ok (.aload_n 2, 1) := by decide +kernel
theorem dJ3_checkIndex_8e157_10 : decode cJ3_checkIndex_8e157 10 = .ok (.iload_n 0, 1) := by decide +kernel
theorem dJ3_checkIndex_8e157_11 : decode cJ3_checkIndex_8e157 11 = .ok (.iload_n 1, 1) := by decide +kernel
theorem dJ3_checkIndex_8e157_12 : decode cJ3_checkIndex_8e157 12 = .ok (.invokestatic 95, 3) := by decide +kernel
theorem dJ3_checkIndex_8e157_15 : decode cJ3_checkIndex_8e157 15 = .ok (.athrow, 1) := by decide +kernel
theorem dJ3_checkIndex_8e157_16 : decode cJ3_checkIndex_8e157 16 = .ok (.iload_n 0, 1) := by decide +kernel
theorem dJ3_checkIndex_8e157_17 : decode cJ3_checkIndex_8e157 17 = .ok (.ireturn, 1) := by decide +kernel
theorem sl_38 : Cond.fieldLink RJ0 38 "java/lang/String" "COMPACT_STRINGS" "Z" ∈ lw_tbl := List.mem_of_getElem? (i := 546) (by decide +kernel)
theorem sl_9 : Cond.fieldLink RJ0 9 "java/lang/String" "value" "[B" ∈ lw_tbl := List.mem_of_getElem? (i := 1569) (by decide +kernel)
theorem sl_15 : Cond.fieldLink RJ0 15 "java/lang/String" "coder" "B" ∈ lw_tbl := List.mem_of_getElem? (i := 1570) (by decide +kernel)
theorem sl_1053 : Cond.fieldLink RJ0 1053 "jdk/internal/util/Preconditions" "SIOOBE_FORMATTER" "Ljava/util/function/BiFunction;" ∈ lw_tbl := List.mem_of_getElem? (i := 562) (by decide +kernel)
set_option maxRecDepth 100000 in
set_option maxHeartbeats 4000000 in
theorem c_coder (Z : ZZ) (l : Launch) {i : Nat} (hi : i < 10) (h : HP) : MetP Z l yJ0_coder_7d493 cJ0_coder_7d493 1 (some .byte) 0 0 [.ref (zK Z i)] h (some (.int 0)) h := by
  refine MetP_of (v0 := (0 : Int32)) (o := some (0, h)) rfl (by decide +kernel) (Nat.le_of_ble_eq_true rfl) [(0, .ref (zK Z i))] rfl (own := RJ0) rfl (nm := "coder") rfl ?_
  refine S_gets1 sl_38 dJ0_coder_7d493_0 (pc' := 3) rfl ?_
  refine S_if_eq_N dJ0_coder_7d493_3 13 rfl (pc' := 6) rfl (by decide) ?_
  refine S_aload_n dJ0_coder_7d493_6 rfl 0 rfl (pc' := 7) rfl ?_
  refine S_scod hi sl_15 dJ0_coder_7d493_7 (pc' := 10) rfl ?_
  refine S_goto dJ0_coder_7d493_10 14 rfl ?_
  exact S_nret rfl rfl dJ0_coder_7d493_14
theorem c_isLatin1 (Z : ZZ) (l : Launch) {i : Nat} (hi : i < 10) (h : HP) : MetP Z l yJ0_isLatin1_aae02 cJ0_isLatin1_aae02 1 (some .boolean) 0 0 [.ref (zK Z i)] h (some (.int 1)) h := by
  refine MetP_of (v0 := (1 : Int32)) (o := some (1, h)) rfl (by decide +kernel) (Nat.le_of_ble_eq_true rfl) [(0, .ref (zK Z i))] rfl (own := RJ0) rfl (nm := "isLatin1") rfl ?_
  refine S_gets1 sl_38 dJ0_isLatin1_aae02_0 (pc' := 3) rfl ?_
  refine S_if_eq_N dJ0_isLatin1_aae02_3 17 rfl (pc' := 6) rfl (by decide) ?_
  refine S_aload_n dJ0_isLatin1_aae02_6 rfl 0 rfl (pc' := 7) rfl ?_
  refine S_scod hi sl_15 dJ0_isLatin1_aae02_7 (pc' := 10) rfl ?_
  refine S_if_ne_N dJ0_isLatin1_aae02_10 17 rfl (pc' := 13) rfl rfl ?_
  refine S_iconst dJ0_isLatin1_aae02_13 (v := 1) rfl (pc' := 14) rfl ?_
  refine S_goto dJ0_isLatin1_aae02_14 18 rfl ?_
  exact S_nret rfl (by decide) dJ0_isLatin1_aae02_18
theorem shr0 (x : Int32) : x >>> ((0 : Int32) &&& 31) = x := by
  apply Int32.toBitVec_inj.mp
  simp
theorem c_strlen (Z : ZZ) (l : Launch) {i : Nat} (hi : i < 10) (h : HP) : MetP Z l yJ0_length_8abf5 cJ0_length_8abf5 1 (some .int) 1 30 [.ref (zK Z i)] h (some (.int (Int32.ofNat (litB.getD i []).length))) h := by
  have e := shr0 (Int32.ofNat (litB.getD i []).length)
  refine MetP_of (v0 := Int32.ofNat (litB.getD i []).length) (o := some (Int32.ofNat (litB.getD i []).length, h)) rfl (by decide +kernel) (Nat.le_of_ble_eq_true rfl) [(0, .ref (zK Z i))] rfl (own := RJ0) rfl (nm := "length") rfl ?_
  refine S_aload_n dJ0_length_8abf5_0 rfl 0 rfl (pc' := 1) rfl ?_
  refine S_sval hi sl_9 dJ0_length_8abf5_1 (pc' := 4) rfl ?_
  refine S_blen hi dJ0_length_8abf5_4 (pc' := 5) rfl ?_
  refine S_aload_n dJ0_length_8abf5_5 rfl 0 rfl (pc' := 6) rfl ?_
  refine S_invK hi ml_J0_335 mi_J0_coder_7d493 dJ0_length_8abf5_6 [] rfl (c_coder Z l hi h) ⟨Nat.le_of_ble_eq_true rfl, Nat.le_of_ble_eq_true rfl⟩ (rest := [.int (Int32.ofNat (litB.getD i []).length)]) (Nat.le_of_ble_eq_true rfl) rfl (pc' := 9) rfl ?_
  refine S_ishr dJ0_length_8abf5_9 (pc' := 10) rfl ?_
  rw [e]
  exact S_iret rfl dJ0_length_8abf5_10
theorem c_pre (Z : ZZ) (l : Launch) {j n : Int32} (h1 : ¬ j < 0) (h2 : j < n) (v : Value) (hv : v = .null ∨ ∃ t : Nat, v = .ref t) (h : HP) : MetP Z l yJ3_checkIndex_8e157 cJ3_checkIndex_8e157 3 (some .int) 0 0 [.int j, .int n, v] h (some (.int j)) h := by
  rcases hv with rfl | ⟨t, rfl⟩
  · refine MetP_of (v0 := j) (o := some (j, h)) rfl (by decide +kernel) (Nat.le_of_ble_eq_true rfl) [(0, .int j), (1, .int n), (2, .null)] rfl (own := RJ3) rfl (nm := "checkIndex") rfl ?_
    refine S_iload_n dJ3_checkIndex_8e157_0 rfl 0 rfl (pc' := 1) rfl ?_
    refine S_if_lt_N dJ3_checkIndex_8e157_1 9 rfl (pc' := 4) rfl h1 ?_
    refine S_iload_n dJ3_checkIndex_8e157_4 rfl 0 rfl (pc' := 5) rfl ?_
    refine S_iload_n dJ3_checkIndex_8e157_5 rfl 1 rfl (pc' := 6) rfl ?_
    refine S_icmp_lt_J dJ3_checkIndex_8e157_6 16 rfl (pc' := 9) rfl h2 ?_
    refine S_iload_n dJ3_checkIndex_8e157_16 rfl 0 rfl (pc' := 17) rfl ?_
    exact S_iret rfl dJ3_checkIndex_8e157_17
  · refine MetP_of (v0 := j) (o := some (j, h)) rfl (by decide +kernel) (Nat.le_of_ble_eq_true rfl) [(0, .int j), (1, .int n), (2, .ref t)] rfl (own := RJ3) rfl (nm := "checkIndex") rfl ?_
    refine S_iload_n dJ3_checkIndex_8e157_0 rfl 0 rfl (pc' := 1) rfl ?_
    refine S_if_lt_N dJ3_checkIndex_8e157_1 9 rfl (pc' := 4) rfl h1 ?_
    refine S_iload_n dJ3_checkIndex_8e157_4 rfl 0 rfl (pc' := 5) rfl ?_
    refine S_iload_n dJ3_checkIndex_8e157_5 rfl 1 rfl (pc' := 6) rfl ?_
    refine S_icmp_lt_J dJ3_checkIndex_8e157_6 16 rfl (pc' := 9) rfl h2 ?_
    refine S_iload_n dJ3_checkIndex_8e157_16 rfl 0 rfl (pc' := 17) rfl ?_
    exact S_iret rfl dJ3_checkIndex_8e157_17
theorem c_chk (Z : ZZ) (l : Launch) {j n : Int32} (h1 : ¬ j < 0) (h2 : j < n) (h : HP) : MetP Z l yJ0_checkIndex_df160 cJ0_checkIndex_df160 2 none 1 40 [.int j, .int n] h none h := by
  refine MetP_of (v0 := ()) (o := some ((), h)) rfl (by decide +kernel) (Nat.le_of_ble_eq_true rfl) [(0, .int j), (1, .int n)] rfl (own := RJ0) rfl (nm := "checkIndex") rfl ?_
  refine S_iload_n dJ0_checkIndex_df160_0 rfl 0 rfl (pc' := 1) rfl ?_
  refine S_iload_n dJ0_checkIndex_df160_1 rfl 1 rfl (pc' := 2) rfl ?_
  refine S_getsF sl_1053 dJ0_checkIndex_df160_2 (pc' := 5) rfl (fun v hv => ?_)
  have k1 : ∀ (x : Int32) (h2 : HP), (some (j, h) : Option (Int32 × HP)) = some (x, h2) → MetP Z l yJ3_checkIndex_8e157 cJ3_checkIndex_8e157 3 (some .int) 0 0 [.int j, .int n, v] h (some (.int x)) h2 := fun x h2' q => by
    cases q
    exact c_pre Z l h1 h2 v hv h
  show Sim Z l cJ0_checkIndex_df160 RJ0 2 1 40 none "checkIndex" _ _ h h () 5 _ [v, .int n, .int j] h (ob (some (j, h)) fun _ h2 => some ((), h2))
  refine S_stai ml_J0_1059 ms_J3_checkIndex_8e157 dJ0_checkIndex_df160_5 [.int j, .int n, v] rfl k1 ⟨Nat.le_of_ble_eq_true rfl, Nat.le_of_ble_eq_true rfl⟩ (rest := []) (Nat.le_of_ble_eq_true rfl) rfl (pc' := 8) rfl (fun x h2 => ?_)
  refine S_pop dJ0_checkIndex_df160_8 rfl (pc' := 9) rfl ?_
  exact S_vret rfl dJ0_checkIndex_df160_9
theorem vp_lt {j : Int32} {n : Nat} (hn : n < 100) (hj : vp_in j n) : ¬ j < 0 ∧ j < Int32.ofNat n := by
  obtain ⟨k, hk, rfl⟩ := vp_in_of hj (by omega)
  exact ⟨nI_pos (by omega), nI_lt hk (by omega)⟩
theorem c_lat (Z : ZZ) (l : Launch) {i : Nat} (hi : i < 10) {j : Int32} (hj : vp_in j (litB.getD i []).length) (h : HP) : MetP Z l yJ1_charAt_3b067 cJ1_charAt_3b067 2 (some .char) 2 80 [.ref (zV Z i), .int j] h (some (.int ((litB.getD i []).getD j.toNatClampNeg 0))) h := by
  have hlt : j.toNatClampNeg < (litB.getD i []).length := Nat.not_le.mp fun q => hj (Or.inr q)
  obtain ⟨e1, e2, e3⟩ := sCh_ok i hi _ hlt
  obtain ⟨k1, k2⟩ := vp_lt e3 hj
  refine MetP_of (v0 := (litB.getD i []).getD j.toNatClampNeg 0) (o := some ((litB.getD i []).getD j.toNatClampNeg 0, h)) rfl (by decide +kernel) (Nat.le_of_ble_eq_true rfl) [(0, .ref (zV Z i)), (1, .int j)] rfl (own := RJ1) rfl (nm := "charAt") rfl ?_
  refine S_iload_n dJ1_charAt_3b067_0 rfl 1 rfl (pc' := 1) rfl ?_
  refine S_aload_n dJ1_charAt_3b067_1 rfl 0 rfl (pc' := 2) rfl ?_
  refine S_blen hi dJ1_charAt_3b067_2 (pc' := 3) rfl ?_
  have k3 : ∀ (x : Unit) (h2 : HP), (some ((), h) : Option (Unit × HP)) = some (x, h2) → MetP Z l yJ0_checkIndex_df160 cJ0_checkIndex_df160 2 none 1 40 [.int j, .int (Int32.ofNat (litB.getD i []).length)] h ((fun _ => none : Unit → Option Value) x) h2 := fun x h2' q => by
    cases q
    exact c_chk Z l k1 k2 h
  show Sim Z l cJ1_charAt_3b067 RJ1 2 2 80 (some .char) "charAt" _ _ h h _ 3 _ [.int (Int32.ofNat (litB.getD i []).length), .int j] h (ob (some ((), h)) fun _ h2 => some ((litB.getD i []).getD j.toNatClampNeg 0, h2))
  refine S_stav ml_J1_9 ms_J0_checkIndex_df160 dJ1_charAt_3b067_3 [.int j, .int (Int32.ofNat (litB.getD i []).length)] rfl k3 ⟨Nat.le_of_ble_eq_true rfl, Nat.le_of_ble_eq_true rfl⟩ (rest := []) (Nat.le_of_ble_eq_true rfl) rfl (pc' := 6) rfl (fun _ h2 => ?_)
  refine S_aload_n dJ1_charAt_3b067_6 rfl 0 rfl (pc' := 7) rfl ?_
  refine S_iload_n dJ1_charAt_3b067_7 rfl 1 rfl (pc' := 8) rfl ?_
  refine S_bald hi hj dJ1_charAt_3b067_8 (pc' := 9) rfl ?_
  refine S_sipush dJ1_charAt_3b067_9 (v := 255) rfl (pc' := 12) rfl ?_
  refine S_iand dJ1_charAt_3b067_12 (pc' := 13) rfl ?_
  refine S_i2c dJ1_charAt_3b067_13 (pc' := 14) rfl ?_
  rw [show ((((litB.getD i []).getD j.toNatClampNeg 0) &&& 255).toUInt32 % 65536).toInt32 = (litB.getD i []).getD j.toNatClampNeg 0 from e1]
  exact S_nret rfl e2 dJ1_charAt_3b067_14
theorem c_strat (Z : ZZ) (l : Launch) {i : Nat} (hi : i < 10) {j : Int32} (hj : vp_in j (litB.getD i []).length) (h : HP) : MetP Z l yJ0_charAt_5068e cJ0_charAt_5068e 2 (some .char) 4 120 [.ref (zK Z i), .int j] h (some (.int ((litB.getD i []).getD j.toNatClampNeg 0))) h := by
  have hlt : j.toNatClampNeg < (litB.getD i []).length := Nat.not_le.mp fun q => hj (Or.inr q)
  obtain ⟨e1, e2, e3⟩ := sCh_ok i hi _ hlt
  refine MetP_of (v0 := (litB.getD i []).getD j.toNatClampNeg 0) (o := ob (some ((litB.getD i []).getD j.toNatClampNeg 0, h)) fun x h2 => if narrow .char (.int x) = .int x then some (x, h2) else none) (show (if narrow .char (.int ((litB.getD i []).getD j.toNatClampNeg 0)) = .int ((litB.getD i []).getD j.toNatClampNeg 0) then some ((litB.getD i []).getD j.toNatClampNeg 0, h) else none) = _ from if_pos e2) (by decide +kernel) (Nat.le_of_ble_eq_true rfl) [(0, .ref (zK Z i)), (1, .int j)] rfl (own := RJ0) rfl (nm := "charAt") rfl ?_
  refine S_aload_n dJ0_charAt_5068e_0 rfl 0 rfl (pc' := 1) rfl ?_
  refine S_invK hi ml_J0_492 mi_J0_isLatin1_aae02 dJ0_charAt_5068e_1 [] rfl (c_isLatin1 Z l hi h) ⟨Nat.le_of_ble_eq_true rfl, Nat.le_of_ble_eq_true rfl⟩ (rest := []) (Nat.le_of_ble_eq_true rfl) rfl (pc' := 4) rfl ?_
  refine S_if_eq_N dJ0_charAt_5068e_4 16 rfl (pc' := 7) rfl (by decide) ?_
  refine S_aload_n dJ0_charAt_5068e_7 rfl 0 rfl (pc' := 8) rfl ?_
  refine S_sval hi sl_9 dJ0_charAt_5068e_8 (pc' := 11) rfl ?_
  refine S_iload_n dJ0_charAt_5068e_11 rfl 1 rfl (pc' := 12) rfl ?_
  have k1 : ∀ (x : Int32) (h2 : HP), (some ((litB.getD i []).getD j.toNatClampNeg 0, h) : Option (Int32 × HP)) = some (x, h2) → MetP Z l yJ1_charAt_3b067 cJ1_charAt_3b067 2 (some .char) 2 80 [.ref (zV Z i), .int j] h (some (.int x)) h2 := fun x h2' q => by
    cases q
    exact c_lat Z l hi hj h
  · refine S_stai ml_J0_495 ms_J1_charAt_3b067 dJ0_charAt_5068e_12 [.ref (zV Z i), .int j] rfl k1 ⟨Nat.le_of_ble_eq_true rfl, Nat.le_of_ble_eq_true rfl⟩ (rest := []) (Nat.le_of_ble_eq_true rfl) rfl (pc' := 15) rfl (fun x h2 => ?_)
    refine Sim.ite (fun g => ?_) (fun g => Sim.none)
    exact S_nret rfl g dJ0_charAt_5068e_15
section STR
variable {Z : ZZ} {l : Launch} {cc : ByteArray} {own : String} {nL fr lc : Nat} {rt : Option FieldType} {nm : String} {args : Array Value} {QQ : State → List Frame → State → Prop} {h0 h1 : HP} {ρ : Type} {v0 : ρ}
variable {pc pc' tgt : Nat} {lo lo' : List (Nat × Value)} {st rest : List Value} {h : HP} {o o1 o2 : Option (ρ × HP)}
theorem S_strlen {idx : Nat} (ml : ML own idx yJ0_length_8abf5 cJ0_length_8abf5 1 (some .int) 0) (mi : MI RJ0 yJ0_length_8abf5) (hd : decode cc pc = .ok (.invokevirtual idx, 3)) (hR : 2 ≤ fr ∧ 8 + 12 + 30 ≤ lc) (hcat : (st.map fun v => v.category).sum ≤ 8) (hp : pc + 3 = pc') {i : Nat} {f : Int32 → Option (ρ × HP)}
    (kk : ∀ x, Sim Z l cc own nL fr lc rt nm args QQ h0 h1 v0 pc' lo (.int x :: st) h (f x)) : Sim Z l cc own nL fr lc rt nm args QQ h0 h1 v0 pc lo (.ref (zK Z i) :: st) h ((sLen i).bind f) := by
  intro ho
  unfold sLen at ho
  by_cases g : i < 10
  · rw [if_pos g] at ho
    exact S_invK g ml mi hd [] rfl (c_strlen Z l g h) hR hcat rfl hp (kk _) ho
  · rw [if_neg g] at ho
    cases ho
theorem S_strat {idx : Nat} (ml : ML own idx yJ0_charAt_5068e cJ0_charAt_5068e 2 (some .char) 1) (mi : MI RJ0 yJ0_charAt_5068e) (hd : decode cc pc = .ok (.invokevirtual idx, 3)) (hR : 5 ≤ fr ∧ 8 + 13 + 120 ≤ lc) (hcat : (st.map fun v => v.category).sum ≤ 8) (hp : pc + 3 = pc') {i : Nat} {j : Int32} {f : Int32 → Option (ρ × HP)}
    (kk : ∀ x, Sim Z l cc own nL fr lc rt nm args QQ h0 h1 v0 pc' lo (.int x :: st) h (f x)) : Sim Z l cc own nL fr lc rt nm args QQ h0 h1 v0 pc lo (.int j :: .ref (zK Z i) :: st) h ((sAt i j).bind f) := by
  intro ho
  unfold sAt at ho
  by_cases g : i < 10 ∧ vpi j (litB.getD i []).length = true
  · rw [if_pos g] at ho
    exact S_invK g.1 ml mi hd [.int j] rfl (c_strat Z l g.1 (vpi_spec g.2) h) hR hcat rfl hp (kk _) ho
  · rw [if_neg g] at ho
    cases ho
end STR
