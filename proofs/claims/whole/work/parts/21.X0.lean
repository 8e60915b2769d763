theorem dX0_init_0 : decode cX0_init 0 = .ok (.aload_n 0, 1) := by decide +kernel
theorem dX0_init_1 : decode cX0_init 1 = .ok (.invokespecial 3, 3) := by decide +kernel
theorem dX0_init_4 : decode cX0_init 4 = .ok (.aload_n 0, 1) := by decide +kernel
theorem dX0_init_5 : decode cX0_init 5 = .ok (.iconst 3, 1) := by decide +kernel
theorem dX0_init_6 : decode cX0_init 6 = .ok (.putfield 9, 3) := by decide +kernel
theorem dX0_init_9 : decode cX0_init 9 = .ok (.aload_n 0, 1) := by decide +kernel
theorem dX0_init_10 : decode cX0_init 10 = .ok (.iconst 1, 1) := by decide +kernel
theorem dX0_init_11 : decode cX0_init 11 = .ok (.putfield 15, 3) := by decide +kernel
theorem dX0_init_14 : decode cX0_init 14 = .ok (.aload_n 0, 1) := by decide +kernel
theorem dX0_init_15 : decode cX0_init 15 = .ok (.bipush 8, 2) := by decide +kernel
theorem dX0_init_17 : decode cX0_init 17 = .ok (.newarray .int, 2) := by decide +kernel
theorem dX0_init_19 : decode cX0_init 19 = .ok (.putfield 18, 3) := by decide +kernel
theorem dX0_init_22 : decode cX0_init 22 = .ok (.aload_n 0, 1) := by decide +kernel
theorem dX0_init_23 : decode cX0_init 23 = .ok (.bipush 8, 2) := by decide +kernel
theorem dX0_init_25 : decode cX0_init 25 = .ok (.newarray .int, 2) := by decide +kernel
theorem dX0_init_27 : decode cX0_init 27 = .ok (.putfield 22, 3) := by decide +kernel
theorem dX0_init_30 : decode cX0_init 30 = .ok (.aload_n 0, 1) := by decide +kernel
theorem dX0_init_31 : decode cX0_init 31 = .ok (.bipush 8, 2) := by decide +kernel
theorem dX0_init_33 : decode cX0_init 33 = .ok (.newarray .int, 2) := by decide +kernel
theorem dX0_init_35 : decode cX0_init 35 = .ok (.putfield 25, 3) := by decide +kernel
theorem dX0_init_38 : decode cX0_init 38 = .ok (.aload_n 0, 1) := by decide +kernel
theorem dX0_init_39 : decode cX0_init 39 = .ok (.bipush 8, 2) := by decide +kernel
theorem dX0_init_41 : decode cX0_init 41 = .ok (.newarray .int, 2) := by decide +kernel
theorem dX0_init_43 : decode cX0_init 43 = .ok (.putfield 28, 3) := by decide +kernel
theorem dX0_init_46 : decode cX0_init 46 = .ok (.aload_n 0, 1) := by decide +kernel
theorem dX0_init_47 : decode cX0_init 47 = .ok (.bipush 8, 2) := by decide +kernel
theorem dX0_init_49 : decode cX0_init 49 = .ok (.newarray .int, 2) := by decide +kernel
theorem dX0_init_51 : decode cX0_init 51 = .ok (.putfield 31, 3) := by decide +kernel
theorem dX0_init_54 : decode cX0_init 54 = .ok (.aload_n 0, 1) := by decide +kernel
theorem dX0_init_55 : decode cX0_init 55 = .ok (.bipush 6, 2) := by decide +kernel
theorem dX0_init_57 : decode cX0_init 57 = .ok (.newarray .int, 2) := by decide +kernel
theorem dX0_init_59 : decode cX0_init 59 = .ok (.putfield 34, 3) := by decide +kernel
theorem dX0_init_62 : decode cX0_init 62 = .ok (.aload_n 0, 1) := by decide +kernel
theorem dX0_init_63 : decode cX0_init 63 = .ok (.bipush 6, 2) := by decide +kernel
theorem dX0_init_65 : decode cX0_init 65 = .ok (.newarray .int, 2) := by decide +kernel
theorem dX0_init_67 : decode cX0_init 67 = .ok (.putfield 37, 3) := by decide +kernel
theorem dX0_init_70 : decode cX0_init 70 = .ok (.aload_n 0, 1) := by decide +kernel
theorem dX0_init_71 : decode cX0_init 71 = .ok (.bipush 6, 2) := by decide +kernel
theorem dX0_init_73 : decode cX0_init 73 = .ok (.newarray .int, 2) := by decide +kernel
theorem dX0_init_75 : decode cX0_init 75 = .ok (.putfield 40, 3) := by decide +kernel
theorem dX0_init_78 : decode cX0_init 78 = .ok (.aload_n 0, 1) := by decide +kernel
theorem dX0_init_79 : decode cX0_init 79 = .ok (.bipush 48, 2) := by decide +kernel
theorem dX0_init_81 : decode cX0_init 81 = .ok (.newarray .int, 2) := by decide +kernel
theorem dX0_init_83 : decode cX0_init 83 = .ok (.putfield 43, 3) := by decide +kernel
theorem dX0_init_86 : decode cX0_init 86 = .ok (.aload_n 0, 1) := by decide +kernel
theorem dX0_init_87 : decode cX0_init 87 = .ok (.bipush 48, 2) := by decide +kernel
theorem dX0_init_89 : decode cX0_init 89 = .ok (.newarray .int, 2) := by decide +kernel
theorem dX0_init_91 : decode cX0_init 91 = .ok (.putfield 46, 3) := by decide +kernel
theorem dX0_init_94 : decode cX0_init 94 = .ok (.return_, 1) := by decide +kernel
set_option maxRecDepth 100000 in
set_option maxHeartbeats 4000000 in
theorem c_X0_init (Z : ZZ) (l : Launch) (t : Nat) (h : HP) {v : Unit} {h1 : HP} (ho : f_X0_init t h = some (v, h1)) : MetP Z l yX0_init cX0_init 1 (none) 1 20 [.ref (zb Z + t)] h (none) h1 := by
  refine MetP_of ho (by decide +kernel) (Nat.le_of_ble_eq_true rfl) [(0, .ref (zb Z + t))] rfl (own := RX0) rfl (nm := "<init>") rfl ?_
  unfold f_X0_init
  refine S_aload_n dX0_init_0 rfl 0 rfl (pc' := 1) rfl ?_
  refine S_obj ob_X0_3 ob_i ob_c dX0_init_1 ⟨Nat.le_of_ble_eq_true rfl, Nat.le_of_ble_eq_true rfl⟩ (pc' := 4) rfl ?_
  refine S_aload_n dX0_init_4 rfl 0 rfl (pc' := 5) rfl ?_
  refine S_iconst dX0_init_5 (v := 3) rfl (pc' := 6) rfl ?_
  refine S_putI fl_X0_9 (by decide) rfl dX0_init_6 (pc' := 9) rfl (fun h6 => ?_)
  refine S_aload_n dX0_init_9 rfl 0 rfl (pc' := 10) rfl ?_
  refine S_iconst dX0_init_10 (v := 1) rfl (pc' := 11) rfl ?_
  refine S_putI fl_X0_15 (by decide) rfl dX0_init_11 (pc' := 14) rfl (fun h11 => ?_)
  refine S_aload_n dX0_init_14 rfl 0 rfl (pc' := 15) rfl ?_
  refine S_bipush dX0_init_15 (v := 8) rfl (pc' := 17) rfl ?_
  refine S_newarr 7 0 .int rfl (Or.inl ⟨rfl, rfl⟩) ac_int dX0_init_17 (pc' := 19) rfl (fun x17 h17 => ?_)
  refine S_putR fl_X0_18 (Or.inr ⟨_, rfl⟩) (fun _ => ⟨rfl, rfl, _, _, rfl⟩) (by decide) rfl dX0_init_19 (pc' := 22) rfl (fun h19 => ?_)
  refine S_aload_n dX0_init_22 rfl 0 rfl (pc' := 23) rfl ?_
  refine S_bipush dX0_init_23 (v := 8) rfl (pc' := 25) rfl ?_
  refine S_newarr 7 0 .int rfl (Or.inl ⟨rfl, rfl⟩) ac_int dX0_init_25 (pc' := 27) rfl (fun x25 h25 => ?_)
  refine S_putR fl_X0_22 (Or.inr ⟨_, rfl⟩) (fun _ => ⟨rfl, rfl, _, _, rfl⟩) (by decide) rfl dX0_init_27 (pc' := 30) rfl (fun h27 => ?_)
  refine S_aload_n dX0_init_30 rfl 0 rfl (pc' := 31) rfl ?_
  refine S_bipush dX0_init_31 (v := 8) rfl (pc' := 33) rfl ?_
  refine S_newarr 7 0 .int rfl (Or.inl ⟨rfl, rfl⟩) ac_int dX0_init_33 (pc' := 35) rfl (fun x33 h33 => ?_)
  refine S_putR fl_X0_25 (Or.inr ⟨_, rfl⟩) (fun _ => ⟨rfl, rfl, _, _, rfl⟩) (by decide) rfl dX0_init_35 (pc' := 38) rfl (fun h35 => ?_)
  refine S_aload_n dX0_init_38 rfl 0 rfl (pc' := 39) rfl ?_
  refine S_bipush dX0_init_39 (v := 8) rfl (pc' := 41) rfl ?_
  refine S_newarr 7 0 .int rfl (Or.inl ⟨rfl, rfl⟩) ac_int dX0_init_41 (pc' := 43) rfl (fun x41 h41 => ?_)
  refine S_putR fl_X0_28 (Or.inr ⟨_, rfl⟩) (fun _ => ⟨rfl, rfl, _, _, rfl⟩) (by decide) rfl dX0_init_43 (pc' := 46) rfl (fun h43 => ?_)
  refine S_aload_n dX0_init_46 rfl 0 rfl (pc' := 47) rfl ?_
  refine S_bipush dX0_init_47 (v := 8) rfl (pc' := 49) rfl ?_
  refine S_newarr 7 0 .int rfl (Or.inl ⟨rfl, rfl⟩) ac_int dX0_init_49 (pc' := 51) rfl (fun x49 h49 => ?_)
  refine S_putR fl_X0_31 (Or.inr ⟨_, rfl⟩) (fun _ => ⟨rfl, rfl, _, _, rfl⟩) (by decide) rfl dX0_init_51 (pc' := 54) rfl (fun h51 => ?_)
  refine S_aload_n dX0_init_54 rfl 0 rfl (pc' := 55) rfl ?_
  refine S_bipush dX0_init_55 (v := 6) rfl (pc' := 57) rfl ?_
  refine S_newarr 7 0 .int rfl (Or.inl ⟨rfl, rfl⟩) ac_int dX0_init_57 (pc' := 59) rfl (fun x57 h57 => ?_)
  refine S_putR fl_X0_34 (Or.inr ⟨_, rfl⟩) (fun _ => ⟨rfl, rfl, _, _, rfl⟩) (by decide) rfl dX0_init_59 (pc' := 62) rfl (fun h59 => ?_)
  refine S_aload_n dX0_init_62 rfl 0 rfl (pc' := 63) rfl ?_
  refine S_bipush dX0_init_63 (v := 6) rfl (pc' := 65) rfl ?_
  refine S_newarr 7 0 .int rfl (Or.inl ⟨rfl, rfl⟩) ac_int dX0_init_65 (pc' := 67) rfl (fun x65 h65 => ?_)
  refine S_putR fl_X0_37 (Or.inr ⟨_, rfl⟩) (fun _ => ⟨rfl, rfl, _, _, rfl⟩) (by decide) rfl dX0_init_67 (pc' := 70) rfl (fun h67 => ?_)
  refine S_aload_n dX0_init_70 rfl 0 rfl (pc' := 71) rfl ?_
  refine S_bipush dX0_init_71 (v := 6) rfl (pc' := 73) rfl ?_
  refine S_newarr 7 0 .int rfl (Or.inl ⟨rfl, rfl⟩) ac_int dX0_init_73 (pc' := 75) rfl (fun x73 h73 => ?_)
  refine S_putR fl_X0_40 (Or.inr ⟨_, rfl⟩) (fun _ => ⟨rfl, rfl, _, _, rfl⟩) (by decide) rfl dX0_init_75 (pc' := 78) rfl (fun h75 => ?_)
  refine S_aload_n dX0_init_78 rfl 0 rfl (pc' := 79) rfl ?_
  refine S_bipush dX0_init_79 (v := 48) rfl (pc' := 81) rfl ?_
  refine S_newarr 7 0 .int rfl (Or.inl ⟨rfl, rfl⟩) ac_int dX0_init_81 (pc' := 83) rfl (fun x81 h81 => ?_)
  refine S_putR fl_X0_43 (Or.inr ⟨_, rfl⟩) (fun _ => ⟨rfl, rfl, _, _, rfl⟩) (by decide) rfl dX0_init_83 (pc' := 86) rfl (fun h83 => ?_)
  refine S_aload_n dX0_init_86 rfl 0 rfl (pc' := 87) rfl ?_
  refine S_bipush dX0_init_87 (v := 48) rfl (pc' := 89) rfl ?_
  refine S_newarr 7 0 .int rfl (Or.inl ⟨rfl, rfl⟩) ac_int dX0_init_89 (pc' := 91) rfl (fun x89 h89 => ?_)
  refine S_putR fl_X0_46 (Or.inr ⟨_, rfl⟩) (fun _ => ⟨rfl, rfl, _, _, rfl⟩) (by decide) rfl dX0_init_91 (pc' := 94) rfl (fun h91 => ?_)
  exact S_vret rfl dX0_init_94
theorem dX0_become_0 : decode cX0_become 0 = .ok (.aload_n 0, 1) := by decide +kernel
theorem dX0_become_1 : decode cX0_become 1 = .ok (.aload_n 1, 1) := by decide +kernel
theorem dX0_become_2 : decode cX0_become 2 = .ok (.getfield 49, 3) := by decide +kernel
theorem dX0_become_5 : decode cX0_become 5 = .ok (.putfield 49, 3) := by decide +kernel
theorem dX0_become_8 : decode cX0_become 8 = .ok (.aload_n 0, 1) := by decide +kernel
theorem dX0_become_9 : decode cX0_become 9 = .ok (.aload_n 1, 1) := by decide +kernel
theorem dX0_become_10 : decode cX0_become 10 = .ok (.getfield 52, 3) := by decide +kernel
theorem dX0_become_13 : decode cX0_become 13 = .ok (.putfield 52, 3) := by decide +kernel
theorem dX0_become_16 : decode cX0_become 16 = .ok (.aload_n 0, 1) := by decide +kernel
theorem dX0_become_17 : decode cX0_become 17 = .ok (.aload_n 1, 1) := by decide +kernel
theorem dX0_become_18 : decode cX0_become 18 = .ok (.getfield 9, 3) := by decide +kernel
theorem dX0_become_21 : decode cX0_become 21 = .ok (.putfield 9, 3) := by decide +kernel
theorem dX0_become_24 : decode cX0_become 24 = .ok (.aload_n 0, 1) := by decide +kernel
theorem dX0_become_25 : decode cX0_become 25 = .ok (.aload_n 1, 1) := by decide +kernel
theorem dX0_become_26 : decode cX0_become 26 = .ok (.getfield 55, 3) := by decide +kernel
theorem dX0_become_29 : decode cX0_become 29 = .ok (.putfield 55, 3) := by decide +kernel
theorem dX0_become_32 : decode cX0_become 32 = .ok (.aload_n 0, 1) := by decide +kernel
theorem dX0_become_33 : decode cX0_become 33 = .ok (.aload_n 1, 1) := by decide +kernel
theorem dX0_become_34 : decode cX0_become 34 = .ok (.getfield 15, 3) := by decide +kernel
theorem dX0_become_37 : decode cX0_become 37 = .ok (.putfield 15, 3) := by decide +kernel
theorem dX0_become_40 : decode cX0_become 40 = .ok (.aload_n 0, 1) := by decide +kernel
theorem dX0_become_41 : decode cX0_become 41 = .ok (.aload_n 1, 1) := by decide +kernel
theorem dX0_become_42 : decode cX0_become 42 = .ok (.getfield 58, 3) := by decide +kernel
theorem dX0_become_45 : decode cX0_become 45 = .ok (.putfield 58, 3) := by decide +kernel
theorem dX0_become_48 : decode cX0_become 48 = .ok (.aload_n 1, 1) := by decide +kernel
theorem dX0_become_49 : decode cX0_become 49 = .ok (.getfield 18, 3) := by decide +kernel
theorem dX0_become_52 : decode cX0_become 52 = .ok (.iconst 0, 1) := by decide +kernel
theorem dX0_become_53 : decode cX0_become 53 = .ok (.aload_n 0, 1) := by decide +kernel
theorem dX0_become_54 : decode cX0_become 54 = .ok (.getfield 18, 3) := by decide +kernel
theorem dX0_become_57 : decode cX0_become 57 = .ok (.iconst 0, 1) := by decide +kernel
theorem dX0_become_58 : decode cX0_become 58 = .ok (.bipush 8, 2) := by decide +kernel
theorem dX0_become_60 : decode cX0_become 60 = .ok (.invokestatic 61, 3) := by decide +kernel
theorem dX0_become_63 : decode cX0_become 63 = .ok (.aload_n 1, 1) := by decide +kernel
theorem dX0_become_64 : decode cX0_become 64 = .ok (.getfield 22, 3) := by decide +kernel
theorem dX0_become_67 : decode cX0_become 67 = .ok (.iconst 0, 1) := by decide +kernel
theorem dX0_become_68 : decode cX0_become 68 = .ok (.aload_n 0, 1) := by decide +kernel
theorem dX0_become_69 : decode cX0_become 69 = .ok (.getfield 22, 3) := by decide +kernel
theorem dX0_become_72 : decode cX0_become 72 = .ok (.iconst 0, 1) := by decide +kernel
theorem dX0_become_73 : decode cX0_become 73 = .ok (.bipush 8, 2) := by decide +kernel
theorem dX0_become_75 : decode cX0_become 75 = .ok (.invokestatic 61, 3) := by decide +kernel
theorem dX0_become_78 : decode cX0_become 78 = .ok (.aload_n 1, 1) := by decide +kernel
theorem dX0_become_79 : decode cX0_become 79 = .ok (.getfield 25, 3) := by decide +kernel
theorem dX0_become_82 : decode cX0_become 82 = .ok (.iconst 0, 1) := by decide +kernel
theorem dX0_become_83 : decode cX0_become 83 = .ok (.aload_n 0, 1) := by decide +kernel
theorem dX0_become_84 : decode cX0_become 84 = .ok (.getfield 25, 3) := by decide +kernel
theorem dX0_become_87 : decode cX0_become 87 = .ok (.iconst 0, 1) := by decide +kernel
theorem dX0_become_88 : decode cX0_become 88 = .ok (.bipush 8, 2) := by decide +kernel
theorem dX0_become_90 : decode cX0_become 90 = .ok (.invokestatic 61, 3) := by decide +kernel
theorem dX0_become_93 : decode cX0_become 93 = .ok (.aload_n 1, 1) := by decide +kernel
theorem dX0_become_94 : decode cX0_become 94 = .ok (.getfield 28, 3) := by decide +kernel
theorem dX0_become_97 : decode cX0_become 97 = .ok (.iconst 0, 1) := by decide +kernel
theorem dX0_become_98 : decode cX0_become 98 = .ok (.aload_n 0, 1) := by decide +kernel
theorem dX0_become_99 : decode cX0_become 99 = .ok (.getfield 28, 3) := by decide +kernel
theorem dX0_become_102 : decode cX0_become 102 = .ok (.iconst 0, 1) := by decide +kernel
theorem dX0_become_103 : decode cX0_become 103 = .ok (.bipush 8, 2) := by decide +kernel
theorem dX0_become_105 : decode cX0_become 105 = .ok (.invokestatic 61, 3) := by decide +kernel
theorem dX0_become_108 : decode cX0_become 108 = .ok (.aload_n 1, 1) := by decide +kernel
theorem dX0_become_109 : decode cX0_become 109 = .ok (.getfield 31, 3) := by decide +kernel
theorem dX0_become_112 : decode cX0_become 112 = .ok (.iconst 0, 1) := by decide +kernel
theorem dX0_become_113 : decode cX0_become 113 = .ok (.aload_n 0, 1) := by decide +kernel
theorem dX0_become_114 : decode cX0_become 114 = .ok (.getfield 31, 3) := by decide +kernel
theorem dX0_become_117 : decode cX0_become 117 = .ok (.iconst 0, 1) := by decide +kernel
theorem dX0_become_118 : decode cX0_become 118 = .ok (.bipush 8, 2) := by decide +kernel
theorem dX0_become_120 : decode cX0_become 120 = .ok (.invokestatic 61, 3) := by decide +kernel
theorem dX0_become_123 : decode cX0_become 123 = .ok (.aload_n 1, 1) := by decide +kernel
theorem dX0_become_124 : decode cX0_become 124 = .ok (.getfield 34, 3) := by decide +kernel
theorem dX0_become_127 : decode cX0_become 127 = .ok (.iconst 0, 1) := by decide +kernel
theorem dX0_become_128 : decode cX0_become 128 = .ok (.aload_n 0, 1) := by decide +kernel
theorem dX0_become_129 : decode cX0_become 129 = .ok (.getfield 34, 3) := by decide +kernel
theorem dX0_become_132 : decode cX0_become 132 = .ok (.iconst 0, 1) := by decide +kernel
theorem dX0_become_133 : decode cX0_become 133 = .ok (.bipush 6, 2) := by decide +kernel
theorem dX0_become_135 : decode cX0_become 135 = .ok (.invokestatic 61, 3) := by decide +kernel
theorem dX0_become_138 : decode cX0_become 138 = .ok (.aload_n 1, 1) := by decide +kernel
theorem dX0_become_139 : decode cX0_become 139 = .ok (.getfield 37, 3) := by decide +kernel
theorem dX0_become_142 : decode cX0_become 142 = .ok (.iconst 0, 1) := by decide +kernel
theorem dX0_become_143 : decode cX0_become 143 = .ok (.aload_n 0, 1) := by decide +kernel
theorem dX0_become_144 : decode cX0_become 144 = .ok (.getfield 37, 3) := by decide +kernel
theorem dX0_become_147 : decode cX0_become 147 = .ok (.iconst 0, 1) := by decide +kernel
theorem dX0_become_148 : decode cX0_become 148 = .ok (.bipush 6, 2) := by decide +kernel
theorem dX0_become_150 : decode cX0_become 150 = .ok (.invokestatic 61, 3) := by decide +kernel
theorem dX0_become_153 : decode cX0_become 153 = .ok (.aload_n 1, 1) := by decide +kernel
theorem dX0_become_154 : decode cX0_become 154 = .ok (.getfield 40, 3) := by decide +kernel
theorem dX0_become_157 : decode cX0_become 157 = .ok (.iconst 0, 1) := by decide +kernel
theorem dX0_become_158 : decode cX0_become 158 = .ok (.aload_n 0, 1) := by decide +kernel
theorem dX0_become_159 : decode cX0_become 159 = .ok (.getfield 40, 3) := by decide +kernel
theorem dX0_become_162 : decode cX0_become 162 = .ok (.iconst 0, 1) := by decide +kernel
theorem dX0_become_163 : decode cX0_become 163 = .ok (.bipush 6, 2) := by decide +kernel
theorem dX0_become_165 : decode cX0_become 165 = .ok (.invokestatic 61, 3) := by decide +kernel
theorem dX0_become_168 : decode cX0_become 168 = .ok (.aload_n 1, 1) := by decide +kernel
theorem dX0_become_169 : decode cX0_become 169 = .ok (.getfield 43, 3) := by decide +kernel
theorem dX0_become_172 : decode cX0_become 172 = .ok (.iconst 0, 1) := by decide +kernel
theorem dX0_become_173 : decode cX0_become 173 = .ok (.aload_n 0, 1) := by decide +kernel
theorem dX0_become_174 : decode cX0_become 174 = .ok (.getfield 43, 3) := by decide +kernel
theorem dX0_become_177 : decode cX0_become 177 = .ok (.iconst 0, 1) := by decide +kernel
theorem dX0_become_178 : decode cX0_become 178 = .ok (.bipush 48, 2) := by decide +kernel
theorem dX0_become_180 : decode cX0_become 180 = .ok (.invokestatic 61, 3) := by decide +kernel
theorem dX0_become_183 : decode cX0_become 183 = .ok (.aload_n 1, 1) := by decide +kernel
theorem dX0_become_184 : decode cX0_become 184 = .ok (.getfield 46, 3) := by decide +kernel
theorem dX0_become_187 : decode cX0_become 187 = .ok (.iconst 0, 1) := by decide +kernel
theorem dX0_become_188 : decode cX0_become 188 = .ok (.aload_n 0, 1) := by decide +kernel
theorem dX0_become_189 : decode cX0_become 189 = .ok (.getfield 46, 3) := by decide +kernel
theorem dX0_become_192 : decode cX0_become 192 = .ok (.iconst 0, 1) := by decide +kernel
theorem dX0_become_193 : decode cX0_become 193 = .ok (.bipush 48, 2) := by decide +kernel
theorem dX0_become_195 : decode cX0_become 195 = .ok (.invokestatic 61, 3) := by decide +kernel
theorem dX0_become_198 : decode cX0_become 198 = .ok (.return_, 1) := by decide +kernel
set_option maxRecDepth 100000 in
set_option maxHeartbeats 4000000 in
theorem c_X0_become (Z : ZZ) (l : Launch) (t : Nat) (a1 : Nat) (h : HP) {v : Unit} {h1 : HP} (ho : f_X0_become t a1 h = some (v, h1)) : MetP Z l yX0_become cX0_become 2 (none) 1 26 [.ref (zb Z + t), .ref (zb Z + a1)] h (none) h1 := by
  refine MetP_of ho (by decide +kernel) (Nat.le_of_ble_eq_true rfl) [(0, .ref (zb Z + t)), (1, .ref (zb Z + a1))] rfl (own := RX0) rfl (nm := "become") rfl ?_
  unfold f_X0_become
  refine S_aload_n dX0_become_0 rfl 0 rfl (pc' := 1) rfl ?_
  refine S_aload_n dX0_become_1 rfl 1 rfl (pc' := 2) rfl ?_
  refine S_getI fl_X0_49 rfl dX0_become_2 (pc' := 5) rfl (fun x2 => ?_)
  refine S_putI fl_X0_49 (by decide) rfl dX0_become_5 (pc' := 8) rfl (fun h5 => ?_)
  refine S_aload_n dX0_become_8 rfl 0 rfl (pc' := 9) rfl ?_
  refine S_aload_n dX0_become_9 rfl 1 rfl (pc' := 10) rfl ?_
  refine S_getI fl_X0_52 rfl dX0_become_10 (pc' := 13) rfl (fun x10 => ?_)
  refine S_putI fl_X0_52 (by decide) rfl dX0_become_13 (pc' := 16) rfl (fun h13 => ?_)
  refine S_aload_n dX0_become_16 rfl 0 rfl (pc' := 17) rfl ?_
  refine S_aload_n dX0_become_17 rfl 1 rfl (pc' := 18) rfl ?_
  refine S_getI fl_X0_9 rfl dX0_become_18 (pc' := 21) rfl (fun x18 => ?_)
  refine S_putI fl_X0_9 (by decide) rfl dX0_become_21 (pc' := 24) rfl (fun h21 => ?_)
  refine S_aload_n dX0_become_24 rfl 0 rfl (pc' := 25) rfl ?_
  refine S_aload_n dX0_become_25 rfl 1 rfl (pc' := 26) rfl ?_
  refine S_getI fl_X0_55 rfl dX0_become_26 (pc' := 29) rfl (fun x26 => ?_)
  refine S_putI fl_X0_55 (by decide) rfl dX0_become_29 (pc' := 32) rfl (fun h29 => ?_)
  refine S_aload_n dX0_become_32 rfl 0 rfl (pc' := 33) rfl ?_
  refine S_aload_n dX0_become_33 rfl 1 rfl (pc' := 34) rfl ?_
  refine S_getI fl_X0_15 rfl dX0_become_34 (pc' := 37) rfl (fun x34 => ?_)
  refine S_putI fl_X0_15 (by decide) rfl dX0_become_37 (pc' := 40) rfl (fun h37 => ?_)
  refine S_aload_n dX0_become_40 rfl 0 rfl (pc' := 41) rfl ?_
  refine S_aload_n dX0_become_41 rfl 1 rfl (pc' := 42) rfl ?_
  refine S_getI fl_X0_58 rfl dX0_become_42 (pc' := 45) rfl (fun x42 => ?_)
  refine S_putI fl_X0_58 (by decide) rfl dX0_become_45 (pc' := 48) rfl (fun h45 => ?_)
  refine S_aload_n dX0_become_48 rfl 1 rfl (pc' := 49) rfl ?_
  refine S_getR fl_X0_18 rfl dX0_become_49 (pc' := 52) rfl (fun x49 => ?_)
  refine S_iconst dX0_become_52 (v := 0) rfl (pc' := 53) rfl ?_
  refine S_aload_n dX0_become_53 rfl 0 rfl (pc' := 54) rfl ?_
  refine S_getR fl_X0_18 rfl dX0_become_54 (pc' := 57) rfl (fun x54 => ?_)
  refine S_iconst dX0_become_57 (v := 0) rfl (pc' := 58) rfl ?_
  refine S_bipush dX0_become_58 (v := 8) rfl (pc' := 60) rfl ?_
  refine S_copyI cp_X0_61 dX0_become_60 ⟨Nat.le_of_ble_eq_true rfl, Nat.le_of_ble_eq_true rfl⟩ (pc' := 63) rfl (fun h60 => ?_)
  refine S_aload_n dX0_become_63 rfl 1 rfl (pc' := 64) rfl ?_
  refine S_getR fl_X0_22 rfl dX0_become_64 (pc' := 67) rfl (fun x64 => ?_)
  refine S_iconst dX0_become_67 (v := 0) rfl (pc' := 68) rfl ?_
  refine S_aload_n dX0_become_68 rfl 0 rfl (pc' := 69) rfl ?_
  refine S_getR fl_X0_22 rfl dX0_become_69 (pc' := 72) rfl (fun x69 => ?_)
  refine S_iconst dX0_become_72 (v := 0) rfl (pc' := 73) rfl ?_
  refine S_bipush dX0_become_73 (v := 8) rfl (pc' := 75) rfl ?_
  refine S_copyI cp_X0_61 dX0_become_75 ⟨Nat.le_of_ble_eq_true rfl, Nat.le_of_ble_eq_true rfl⟩ (pc' := 78) rfl (fun h75 => ?_)
  refine S_aload_n dX0_become_78 rfl 1 rfl (pc' := 79) rfl ?_
  refine S_getR fl_X0_25 rfl dX0_become_79 (pc' := 82) rfl (fun x79 => ?_)
  refine S_iconst dX0_become_82 (v := 0) rfl (pc' := 83) rfl ?_
  refine S_aload_n dX0_become_83 rfl 0 rfl (pc' := 84) rfl ?_
  refine S_getR fl_X0_25 rfl dX0_become_84 (pc' := 87) rfl (fun x84 => ?_)
  refine S_iconst dX0_become_87 (v := 0) rfl (pc' := 88) rfl ?_
  refine S_bipush dX0_become_88 (v := 8) rfl (pc' := 90) rfl ?_
  refine S_copyI cp_X0_61 dX0_become_90 ⟨Nat.le_of_ble_eq_true rfl, Nat.le_of_ble_eq_true rfl⟩ (pc' := 93) rfl (fun h90 => ?_)
  refine S_aload_n dX0_become_93 rfl 1 rfl (pc' := 94) rfl ?_
  refine S_getR fl_X0_28 rfl dX0_become_94 (pc' := 97) rfl (fun x94 => ?_)
  refine S_iconst dX0_become_97 (v := 0) rfl (pc' := 98) rfl ?_
  refine S_aload_n dX0_become_98 rfl 0 rfl (pc' := 99) rfl ?_
  refine S_getR fl_X0_28 rfl dX0_become_99 (pc' := 102) rfl (fun x99 => ?_)
  refine S_iconst dX0_become_102 (v := 0) rfl (pc' := 103) rfl ?_
  refine S_bipush dX0_become_103 (v := 8) rfl (pc' := 105) rfl ?_
  refine S_copyI cp_X0_61 dX0_become_105 ⟨Nat.le_of_ble_eq_true rfl, Nat.le_of_ble_eq_true rfl⟩ (pc' := 108) rfl (fun h105 => ?_)
  refine S_aload_n dX0_become_108 rfl 1 rfl (pc' := 109) rfl ?_
  refine S_getR fl_X0_31 rfl dX0_become_109 (pc' := 112) rfl (fun x109 => ?_)
  refine S_iconst dX0_become_112 (v := 0) rfl (pc' := 113) rfl ?_
  refine S_aload_n dX0_become_113 rfl 0 rfl (pc' := 114) rfl ?_
  refine S_getR fl_X0_31 rfl dX0_become_114 (pc' := 117) rfl (fun x114 => ?_)
  refine S_iconst dX0_become_117 (v := 0) rfl (pc' := 118) rfl ?_
  refine S_bipush dX0_become_118 (v := 8) rfl (pc' := 120) rfl ?_
  refine S_copyI cp_X0_61 dX0_become_120 ⟨Nat.le_of_ble_eq_true rfl, Nat.le_of_ble_eq_true rfl⟩ (pc' := 123) rfl (fun h120 => ?_)
  refine S_aload_n dX0_become_123 rfl 1 rfl (pc' := 124) rfl ?_
  refine S_getR fl_X0_34 rfl dX0_become_124 (pc' := 127) rfl (fun x124 => ?_)
  refine S_iconst dX0_become_127 (v := 0) rfl (pc' := 128) rfl ?_
  refine S_aload_n dX0_become_128 rfl 0 rfl (pc' := 129) rfl ?_
  refine S_getR fl_X0_34 rfl dX0_become_129 (pc' := 132) rfl (fun x129 => ?_)
  refine S_iconst dX0_become_132 (v := 0) rfl (pc' := 133) rfl ?_
  refine S_bipush dX0_become_133 (v := 6) rfl (pc' := 135) rfl ?_
  refine S_copyI cp_X0_61 dX0_become_135 ⟨Nat.le_of_ble_eq_true rfl, Nat.le_of_ble_eq_true rfl⟩ (pc' := 138) rfl (fun h135 => ?_)
  refine S_aload_n dX0_become_138 rfl 1 rfl (pc' := 139) rfl ?_
  refine S_getR fl_X0_37 rfl dX0_become_139 (pc' := 142) rfl (fun x139 => ?_)
  refine S_iconst dX0_become_142 (v := 0) rfl (pc' := 143) rfl ?_
  refine S_aload_n dX0_become_143 rfl 0 rfl (pc' := 144) rfl ?_
  refine S_getR fl_X0_37 rfl dX0_become_144 (pc' := 147) rfl (fun x144 => ?_)
  refine S_iconst dX0_become_147 (v := 0) rfl (pc' := 148) rfl ?_
  refine S_bipush dX0_become_148 (v := 6) rfl (pc' := 150) rfl ?_
  refine S_copyI cp_X0_61 dX0_become_150 ⟨Nat.le_of_ble_eq_true rfl, Nat.le_of_ble_eq_true rfl⟩ (pc' := 153) rfl (fun h150 => ?_)
  refine S_aload_n dX0_become_153 rfl 1 rfl (pc' := 154) rfl ?_
  refine S_getR fl_X0_40 rfl dX0_become_154 (pc' := 157) rfl (fun x154 => ?_)
  refine S_iconst dX0_become_157 (v := 0) rfl (pc' := 158) rfl ?_
  refine S_aload_n dX0_become_158 rfl 0 rfl (pc' := 159) rfl ?_
  refine S_getR fl_X0_40 rfl dX0_become_159 (pc' := 162) rfl (fun x159 => ?_)
  refine S_iconst dX0_become_162 (v := 0) rfl (pc' := 163) rfl ?_
  refine S_bipush dX0_become_163 (v := 6) rfl (pc' := 165) rfl ?_
  refine S_copyI cp_X0_61 dX0_become_165 ⟨Nat.le_of_ble_eq_true rfl, Nat.le_of_ble_eq_true rfl⟩ (pc' := 168) rfl (fun h165 => ?_)
  refine S_aload_n dX0_become_168 rfl 1 rfl (pc' := 169) rfl ?_
  refine S_getR fl_X0_43 rfl dX0_become_169 (pc' := 172) rfl (fun x169 => ?_)
  refine S_iconst dX0_become_172 (v := 0) rfl (pc' := 173) rfl ?_
  refine S_aload_n dX0_become_173 rfl 0 rfl (pc' := 174) rfl ?_
  refine S_getR fl_X0_43 rfl dX0_become_174 (pc' := 177) rfl (fun x174 => ?_)
  refine S_iconst dX0_become_177 (v := 0) rfl (pc' := 178) rfl ?_
  refine S_bipush dX0_become_178 (v := 48) rfl (pc' := 180) rfl ?_
  refine S_copyI cp_X0_61 dX0_become_180 ⟨Nat.le_of_ble_eq_true rfl, Nat.le_of_ble_eq_true rfl⟩ (pc' := 183) rfl (fun h180 => ?_)
  refine S_aload_n dX0_become_183 rfl 1 rfl (pc' := 184) rfl ?_
  refine S_getR fl_X0_46 rfl dX0_become_184 (pc' := 187) rfl (fun x184 => ?_)
  refine S_iconst dX0_become_187 (v := 0) rfl (pc' := 188) rfl ?_
  refine S_aload_n dX0_become_188 rfl 0 rfl (pc' := 189) rfl ?_
  refine S_getR fl_X0_46 rfl dX0_become_189 (pc' := 192) rfl (fun x189 => ?_)
  refine S_iconst dX0_become_192 (v := 0) rfl (pc' := 193) rfl ?_
  refine S_bipush dX0_become_193 (v := 48) rfl (pc' := 195) rfl ?_
  refine S_copyI cp_X0_61 dX0_become_195 ⟨Nat.le_of_ble_eq_true rfl, Nat.le_of_ble_eq_true rfl⟩ (pc' := 198) rfl (fun h195 => ?_)
  exact S_vret rfl dX0_become_198
theorem dX0_withBit_0 : decode cX0_withBit 0 = .ok (.iload_n 2, 1) := by decide +kernel
theorem dX0_withBit_1 : decode cX0_withBit 1 = .ok (.ifCond .eq 11, 3) := by decide +kernel
theorem dX0_withBit_4 : decode cX0_withBit 4 = .ok (.iload_n 0, 1) := by decide +kernel
theorem dX0_withBit_5 : decode cX0_withBit 5 = .ok (.iconst 1, 1) := by decide +kernel
theorem dX0_withBit_6 : decode cX0_withBit 6 = .ok (.iload_n 1, 1) := by decide +kernel
theorem dX0_withBit_7 : decode cX0_withBit 7 = .ok (.ishl, 1) := by decide +kernel
theorem dX0_withBit_8 : decode cX0_withBit 8 = .ok (.ior, 1) := by decide +kernel
theorem dX0_withBit_9 : decode cX0_withBit 9 = .ok (.goto 10, 3) := by decide +kernel
theorem dX0_withBit_12 : decode cX0_withBit 12 = .ok (.iload_n 0, 1) := by decide +kernel
theorem dX0_withBit_13 : decode cX0_withBit 13 = .ok (.iconst 1, 1) := by decide +kernel
theorem dX0_withBit_14 : decode cX0_withBit 14 = .ok (.iload_n 1, 1) := by decide +kernel
theorem dX0_withBit_15 : decode cX0_withBit 15 = .ok (.ishl, 1) := by decide +kernel
theorem dX0_withBit_16 : decode cX0_withBit 16 = .ok (.iconst (-1), 1) := by decide +kernel
theorem dX0_withBit_17 : decode cX0_withBit 17 = .ok (.ixor, 1) := by decide +kernel
theorem dX0_withBit_18 : decode cX0_withBit 18 = .ok (.iand, 1) := by decide +kernel
theorem dX0_withBit_19 : decode cX0_withBit 19 = .ok (.ireturn, 1) := by decide +kernel
set_option maxRecDepth 100000 in
set_option maxHeartbeats 4000000 in
theorem c_X0_withBit (Z : ZZ) (l : Launch) (a0 : Int32) (a1 : Int32) (a2 : Int32) (h : HP) {v : Int32} {h1 : HP} (ho : f_X0_withBit a0 a1 a2 h = some (v, h1)) : MetP Z l yX0_withBit cX0_withBit 3 (some .int) 0 0 [.int a0, .int a1, .int a2] h (some (.int v)) h1 := by
  refine MetP_of ho (by decide +kernel) (Nat.le_of_ble_eq_true rfl) [(0, .int a0), (1, .int a1), (2, .int a2)] rfl (own := RX0) rfl (nm := "withBit") rfl ?_
  unfold f_X0_withBit
  refine S_iload_n dX0_withBit_0 rfl 2 rfl (pc' := 1) rfl ?_
  refine S_if_eq dX0_withBit_1 12 rfl (pc' := 4) rfl (fun g1 => ?_) (fun g1 => ?_)
  · refine S_iload_n dX0_withBit_12 rfl 0 rfl (pc' := 13) rfl ?_
    refine S_iconst dX0_withBit_13 (v := 1) rfl (pc' := 14) rfl ?_
    refine S_iload_n dX0_withBit_14 rfl 1 rfl (pc' := 15) rfl ?_
    refine S_ishl dX0_withBit_15 (pc' := 16) rfl ?_
    refine S_iconst dX0_withBit_16 (v := (-1)) rfl (pc' := 17) rfl ?_
    refine S_ixor dX0_withBit_17 (pc' := 18) rfl ?_
    refine S_iand dX0_withBit_18 (pc' := 19) rfl ?_
    exact S_iret rfl dX0_withBit_19
  · refine S_iload_n dX0_withBit_4 rfl 0 rfl (pc' := 5) rfl ?_
    refine S_iconst dX0_withBit_5 (v := 1) rfl (pc' := 6) rfl ?_
    refine S_iload_n dX0_withBit_6 rfl 1 rfl (pc' := 7) rfl ?_
    refine S_ishl dX0_withBit_7 (pc' := 8) rfl ?_
    refine S_ior dX0_withBit_8 (pc' := 9) rfl ?_
    refine S_goto dX0_withBit_9 19 rfl ?_
    exact S_iret rfl dX0_withBit_19
theorem dX0_setHums_0 : decode cX0_setHums 0 = .ok (.aload_n 0, 1) := by decide +kernel
theorem dX0_setHums_1 : decode cX0_setHums 1 = .ok (.aload_n 0, 1) := by decide +kernel
theorem dX0_setHums_2 : decode cX0_setHums 2 = .ok (.getfield 58, 3) := by decide +kernel
theorem dX0_setHums_5 : decode cX0_setHums 5 = .ok (.iload_n 1, 1) := by decide +kernel
theorem dX0_setHums_6 : decode cX0_setHums 6 = .ok (.iload_n 2, 1) := by decide +kernel
theorem dX0_setHums_7 : decode cX0_setHums 7 = .ok (.invokestatic 75, 3) := by decide +kernel
theorem dX0_setHums_10 : decode cX0_setHums 10 = .ok (.putfield 58, 3) := by decide +kernel
theorem dX0_setHums_13 : decode cX0_setHums 13 = .ok (.return_, 1) := by decide +kernel
set_option maxRecDepth 100000 in
set_option maxHeartbeats 4000000 in
theorem c_X0_setHums (Z : ZZ) (l : Launch) (t : Nat) (a1 : Int32) (a2 : Int32) (h : HP) {v : Unit} {h1 : HP} (ho : f_X0_setHums t a1 a2 h = some (v, h1)) : MetP Z l yX0_setHums cX0_setHums 3 (none) 1 22 [.ref (zb Z + t), .int a1, .int a2] h (none) h1 := by
  refine MetP_of ho (by decide +kernel) (Nat.le_of_ble_eq_true rfl) [(0, .ref (zb Z + t)), (1, .int a1), (2, .int a2)] rfl (own := RX0) rfl (nm := "setHums") rfl ?_
  unfold f_X0_setHums
  refine S_aload_n dX0_setHums_0 rfl 0 rfl (pc' := 1) rfl ?_
  refine S_aload_n dX0_setHums_1 rfl 0 rfl (pc' := 2) rfl ?_
  refine S_getI fl_X0_58 rfl dX0_setHums_2 (pc' := 5) rfl (fun x2 => ?_)
  refine S_iload_n dX0_setHums_5 rfl 1 rfl (pc' := 6) rfl ?_
  refine S_iload_n dX0_setHums_6 rfl 2 rfl (pc' := 7) rfl ?_
  refine S_stai ml_X0_75 ms_X0_withBit dX0_setHums_7 [.int x2, .int a1, .int a2] rfl (fun v h2 q => c_X0_withBit Z l _ _ _ _ q) ⟨Nat.le_of_ble_eq_true rfl, Nat.le_of_ble_eq_true rfl⟩ (rest := [.ref (zb Z + t)]) (Nat.le_of_ble_eq_true rfl) rfl (pc' := 10) rfl (fun x7 h7 => ?_)
  refine S_putI fl_X0_58 (by decide) rfl dX0_setHums_10 (pc' := 13) rfl (fun h10 => ?_)
  exact S_vret rfl dX0_setHums_13
theorem dX0_setHeld_0 : decode cX0_setHeld 0 = .ok (.aload_n 0, 1) := by decide +kernel
theorem dX0_setHeld_1 : decode cX0_setHeld 1 = .ok (.getfield 46, 3) := by decide +kernel
theorem dX0_setHeld_4 : decode cX0_setHeld 4 = .ok (.iload_n 1, 1) := by decide +kernel
theorem dX0_setHeld_5 : decode cX0_setHeld 5 = .ok (.bipush 6, 2) := by decide +kernel
theorem dX0_setHeld_7 : decode cX0_setHeld 7 = .ok (.imul, 1) := by decide +kernel
theorem dX0_setHeld_8 : decode cX0_setHeld 8 = .ok (.iload_n 2, 1) := by decide +kernel
theorem dX0_setHeld_9 : decode cX0_setHeld 9 = .ok (.iadd, 1) := by decide +kernel
theorem dX0_setHeld_10 : decode cX0_setHeld 10 = .ok (.iload_n 3, 1) := by decide +kernel
theorem dX0_setHeld_11 : decode cX0_setHeld 11 = .ok (.iastore, 1) := by decide +kernel
theorem dX0_setHeld_12 : decode cX0_setHeld 12 = .ok (.return_, 1) := by decide +kernel
set_option maxRecDepth 100000 in
set_option maxHeartbeats 4000000 in
theorem c_X0_setHeld (Z : ZZ) (l : Launch) (t : Nat) (a1 : Int32) (a2 : Int32) (a3 : Int32) (h : HP) {v : Unit} {h1 : HP} (ho : f_X0_setHeld t a1 a2 a3 h = some (v, h1)) : MetP Z l yX0_setHeld cX0_setHeld 4 (none) 0 0 [.ref (zb Z + t), .int a1, .int a2, .int a3] h (none) h1 := by
  refine MetP_of ho (by decide +kernel) (Nat.le_of_ble_eq_true rfl) [(0, .ref (zb Z + t)), (1, .int a1), (2, .int a2), (3, .int a3)] rfl (own := RX0) rfl (nm := "setHeld") rfl ?_
  unfold f_X0_setHeld
  refine S_aload_n dX0_setHeld_0 rfl 0 rfl (pc' := 1) rfl ?_
  refine S_getR fl_X0_46 rfl dX0_setHeld_1 (pc' := 4) rfl (fun x1 => ?_)
  refine S_iload_n dX0_setHeld_4 rfl 1 rfl (pc' := 5) rfl ?_
  refine S_bipush dX0_setHeld_5 (v := 6) rfl (pc' := 7) rfl ?_
  refine S_imul dX0_setHeld_7 (pc' := 8) rfl ?_
  refine S_iload_n dX0_setHeld_8 rfl 2 rfl (pc' := 9) rfl ?_
  refine S_iadd dX0_setHeld_9 (pc' := 10) rfl ?_
  refine S_iload_n dX0_setHeld_10 rfl 3 rfl (pc' := 11) rfl ?_
  refine S_iastore dX0_setHeld_11 (pc' := 12) rfl (fun h11 => ?_)
  exact S_vret rfl dX0_setHeld_12
theorem dX0_addPerson_0 : decode cX0_addPerson 0 = .ok (.aload_n 0, 1) := by decide +kernel
theorem dX0_addPerson_1 : decode cX0_addPerson 1 = .ok (.getfield 49, 3) := by decide +kernel
theorem dX0_addPerson_4 : decode cX0_addPerson 4 = .ok (.istore 5, 2) := by decide +kernel
theorem dX0_addPerson_6 : decode cX0_addPerson 6 = .ok (.aload_n 0, 1) := by decide +kernel
theorem dX0_addPerson_7 : decode cX0_addPerson 7 = .ok (.getfield 18, 3) := by decide +kernel
theorem dX0_addPerson_10 : decode cX0_addPerson 10 = .ok (.iload 5, 2) := by decide +kernel
theorem dX0_addPerson_12 : decode cX0_addPerson 12 = .ok (.iload_n 1, 1) := by decide +kernel
theorem dX0_addPerson_13 : decode cX0_addPerson 13 = .ok (.iastore, 1) := by decide +kernel
theorem dX0_addPerson_14 : decode cX0_addPerson 14 = .ok (.aload_n 0, 1) := by decide +kernel
theorem dX0_addPerson_15 : decode cX0_addPerson 15 = .ok (.getfield 22, 3) := by decide +kernel
theorem dX0_addPerson_18 : decode cX0_addPerson 18 = .ok (.iload 5, 2) := by decide +kernel
theorem dX0_addPerson_20 : decode cX0_addPerson 20 = .ok (.iload_n 2, 1) := by decide +kernel
theorem dX0_addPerson_21 : decode cX0_addPerson 21 = .ok (.iastore, 1) := by decide +kernel
theorem dX0_addPerson_22 : decode cX0_addPerson 22 = .ok (.aload_n 0, 1) := by decide +kernel
theorem dX0_addPerson_23 : decode cX0_addPerson 23 = .ok (.getfield 25, 3) := by decide +kernel
theorem dX0_addPerson_26 : decode cX0_addPerson 26 = .ok (.iload 5, 2) := by decide +kernel
theorem dX0_addPerson_28 : decode cX0_addPerson 28 = .ok (.iload_n 3, 1) := by decide +kernel
theorem dX0_addPerson_29 : decode cX0_addPerson 29 = .ok (.iastore, 1) := by decide +kernel
theorem dX0_addPerson_30 : decode cX0_addPerson 30 = .ok (.aload_n 0, 1) := by decide +kernel
theorem dX0_addPerson_31 : decode cX0_addPerson 31 = .ok (.getfield 28, 3) := by decide +kernel
theorem dX0_addPerson_34 : decode cX0_addPerson 34 = .ok (.iload 5, 2) := by decide +kernel
theorem dX0_addPerson_36 : decode cX0_addPerson 36 = .ok (.iload 4, 2) := by decide +kernel
theorem dX0_addPerson_38 : decode cX0_addPerson 38 = .ok (.iastore, 1) := by decide +kernel
theorem dX0_addPerson_39 : decode cX0_addPerson 39 = .ok (.aload_n 0, 1) := by decide +kernel
theorem dX0_addPerson_40 : decode cX0_addPerson 40 = .ok (.getfield 31, 3) := by decide +kernel
theorem dX0_addPerson_43 : decode cX0_addPerson 43 = .ok (.iload 5, 2) := by decide +kernel
theorem dX0_addPerson_45 : decode cX0_addPerson 45 = .ok (.iconst 0, 1) := by decide +kernel
theorem dX0_addPerson_46 : decode cX0_addPerson 46 = .ok (.iastore, 1) := by decide +kernel
theorem dX0_addPerson_47 : decode cX0_addPerson 47 = .ok (.aload_n 0, 1) := by decide +kernel
theorem dX0_addPerson_48 : decode cX0_addPerson 48 = .ok (.iload 5, 2) := by decide +kernel
theorem dX0_addPerson_50 : decode cX0_addPerson 50 = .ok (.iconst 0, 1) := by decide +kernel
theorem dX0_addPerson_51 : decode cX0_addPerson 51 = .ok (.invokevirtual 67, 3) := by decide +kernel
theorem dX0_addPerson_54 : decode cX0_addPerson 54 = .ok (.iconst 0, 1) := by decide +kernel
theorem dX0_addPerson_55 : decode cX0_addPerson 55 = .ok (.istore 6, 2) := by decide +kernel
theorem dX0_addPerson_57 : decode cX0_addPerson 57 = .ok (.iload 6, 2) := by decide +kernel
theorem dX0_addPerson_59 : decode cX0_addPerson 59 = .ok (.bipush 6, 2) := by decide +kernel
theorem dX0_addPerson_61 : decode cX0_addPerson 61 = .ok (.if_icmp .ge 18, 3) := by decide +kernel
theorem dX0_addPerson_64 : decode cX0_addPerson 64 = .ok (.aload_n 0, 1) := by decide +kernel
theorem dX0_addPerson_65 : decode cX0_addPerson 65 = .ok (.iload 5, 2) := by decide +kernel
theorem dX0_addPerson_67 : decode cX0_addPerson 67 = .ok (.iload 6, 2) := by decide +kernel
theorem dX0_addPerson_69 : decode cX0_addPerson 69 = .ok (.iconst (-1), 1) := by decide +kernel
theorem dX0_addPerson_70 : decode cX0_addPerson 70 = .ok (.invokevirtual 71, 3) := by decide +kernel
theorem dX0_addPerson_73 : decode cX0_addPerson 73 = .ok (.iinc 6 1, 3) := by decide +kernel
theorem dX0_addPerson_76 : decode cX0_addPerson 76 = .ok (.goto (-19), 3) := by decide +kernel
theorem dX0_addPerson_79 : decode cX0_addPerson 79 = .ok (.aload_n 0, 1) := by decide +kernel
theorem dX0_addPerson_80 : decode cX0_addPerson 80 = .ok (.iload 5, 2) := by decide +kernel
theorem dX0_addPerson_82 : decode cX0_addPerson 82 = .ok (.iconst 1, 1) := by decide +kernel
theorem dX0_addPerson_83 : decode cX0_addPerson 83 = .ok (.iadd, 1) := by decide +kernel
theorem dX0_addPerson_84 : decode cX0_addPerson 84 = .ok (.putfield 49, 3) := by decide +kernel
theorem dX0_addPerson_87 : decode cX0_addPerson 87 = .ok (.iload 5, 2) := by decide +kernel
theorem dX0_addPerson_89 : decode cX0_addPerson 89 = .ok (.ireturn, 1) := by decide +kernel
set_option maxRecDepth 100000 in
set_option maxHeartbeats 4000000 in
theorem lc_X0_addPerson_57 (Z : ZZ) (l : Launch) (a0 : Nat) (a5 : Int32) {args : Array Value} {h0 h1 : HP} {v0 : Int32} (K : HP → Option (Int32 × HP)) (F : Int32 → HP → Option (Int32 × HP))
    (hK : ∀ (h : HP), Sim Z l cX0_addPerson RX0 7 2 44 (some .int) "addPerson" args (Mq Z args h0 h1 (some (.int v0))) h0 h1 v0 79 [(0, .ref (zb Z + a0)), (5, .int a5)] [] h (K h))
    (hF : ∀ (b6 : Int32) (h : HP), Sim Z l cX0_addPerson RX0 7 2 44 (some .int) "addPerson" args (Mq Z args h0 h1 (some (.int v0))) h0 h1 v0 57 [(0, .ref (zb Z + a0)), (5, .int a5), (6, .int b6)] [] h (F b6 h)) :
    ∀ (b6 : Int32) (h : HP), Sim Z l cX0_addPerson RX0 7 2 44 (some .int) "addPerson" args (Mq Z args h0 h1 (some (.int v0))) h0 h1 v0 57 [(0, .ref (zb Z + a0)), (5, .int a5), (6, .int b6)] [] h (lb_X0_addPerson_57 a0 a5 K F b6 h) := by
  intro b6 h
  unfold lb_X0_addPerson_57
  refine S_iload dX0_addPerson_57 2 rfl (pc' := 59) rfl ?_
  refine S_bipush dX0_addPerson_59 (v := 6) rfl (pc' := 61) rfl ?_
  refine S_icmp_ge dX0_addPerson_61 79 rfl (pc' := 64) rfl (fun g61 => ?_) (fun g61 => ?_)
  · refine Sim.sub [0, 1] rfl ?_
    exact hK _
  · refine S_aload_n dX0_addPerson_64 rfl 0 rfl (pc' := 65) rfl ?_
    refine S_iload dX0_addPerson_65 1 rfl (pc' := 67) rfl ?_
    refine S_iload dX0_addPerson_67 2 rfl (pc' := 69) rfl ?_
    refine S_iconst dX0_addPerson_69 (v := (-1)) rfl (pc' := 70) rfl ?_
    refine S_invv ml_X0_71 mi_X0_setHeld (ci := 0) ⟨_, rfl, rfl⟩ (by decide) dX0_addPerson_70 [.int a5, .int b6, .int (-1)] rfl (fun v h2 q => c_X0_setHeld Z l _ _ _ _ _ q) ⟨Nat.le_of_ble_eq_true rfl, Nat.le_of_ble_eq_true rfl⟩ (rest := []) (Nat.le_of_ble_eq_true rfl) rfl (pc' := 73) rfl (fun _ h70 => ?_)
    refine S_iinc dX0_addPerson_73 (q := 2) rfl (v := b6 + 1) rfl (by decide) (lo' := [(6, .int (b6 + 1)), (0, .ref (zb Z + a0)), (5, .int a5)]) rfl (pc' := 76) rfl ?_
    refine S_goto dX0_addPerson_76 57 rfl ?_
    refine Sim.sub [1, 2, 0] rfl ?_
    exact hF _ _
theorem lq_X0_addPerson_57 (Z : ZZ) (l : Launch) (a0 : Nat) (a5 : Int32) {args : Array Value} {h0 h1 : HP} {v0 : Int32} (K : HP → Option (Int32 × HP))
    (hK : ∀ (h : HP), Sim Z l cX0_addPerson RX0 7 2 44 (some .int) "addPerson" args (Mq Z args h0 h1 (some (.int v0))) h0 h1 v0 79 [(0, .ref (zb Z + a0)), (5, .int a5)] [] h (K h)) :
    ∀ (k : Nat) (b6 : Int32) (h : HP), Sim Z l cX0_addPerson RX0 7 2 44 (some .int) "addPerson" args (Mq Z args h0 h1 (some (.int v0))) h0 h1 v0 57 [(0, .ref (zb Z + a0)), (5, .int a5), (6, .int b6)] [] h (lp_X0_addPerson_57 a0 a5 K k b6 h) := by
  intro k
  induction k with
  | zero => exact fun _ _ => Sim.none
  | succ k ih => exact lc_X0_addPerson_57 Z l a0 a5 K _ hK ih
set_option maxRecDepth 100000 in
set_option maxHeartbeats 4000000 in
theorem c_X0_addPerson (Z : ZZ) (l : Launch) (t : Nat) (a1 : Int32) (a2 : Int32) (a3 : Int32) (a4 : Int32) (h : HP) {v : Int32} {h1 : HP} (ho : f_X0_addPerson t a1 a2 a3 a4 h = some (v, h1)) : MetP Z l yX0_addPerson cX0_addPerson 7 (some .int) 2 44 [.ref (zb Z + t), .int a1, .int a2, .int a3, .int a4] h (some (.int v)) h1 := by
  refine MetP_of ho (by decide +kernel) (Nat.le_of_ble_eq_true rfl) [(0, .ref (zb Z + t)), (1, .int a1), (2, .int a2), (3, .int a3), (4, .int a4)] rfl (own := RX0) rfl (nm := "addPerson") rfl ?_
  unfold f_X0_addPerson
  refine S_aload_n dX0_addPerson_0 rfl 0 rfl (pc' := 1) rfl ?_
  refine S_getI fl_X0_49 rfl dX0_addPerson_1 (pc' := 4) rfl (fun x1 => ?_)
  refine S_istore dX0_addPerson_4 (by decide) (lo' := [(5, .int x1), (0, .ref (zb Z + t)), (1, .int a1), (2, .int a2), (3, .int a3), (4, .int a4)]) rfl (pc' := 6) rfl ?_
  refine S_aload_n dX0_addPerson_6 rfl 1 rfl (pc' := 7) rfl ?_
  refine S_getR fl_X0_18 rfl dX0_addPerson_7 (pc' := 10) rfl (fun x7 => ?_)
  refine S_iload dX0_addPerson_10 0 rfl (pc' := 12) rfl ?_
  refine S_iload_n dX0_addPerson_12 rfl 2 rfl (pc' := 13) rfl ?_
  refine S_iastore dX0_addPerson_13 (pc' := 14) rfl (fun h13 => ?_)
  refine S_aload_n dX0_addPerson_14 rfl 1 rfl (pc' := 15) rfl ?_
  refine S_getR fl_X0_22 rfl dX0_addPerson_15 (pc' := 18) rfl (fun x15 => ?_)
  refine S_iload dX0_addPerson_18 0 rfl (pc' := 20) rfl ?_
  refine S_iload_n dX0_addPerson_20 rfl 3 rfl (pc' := 21) rfl ?_
  refine S_iastore dX0_addPerson_21 (pc' := 22) rfl (fun h21 => ?_)
  refine S_aload_n dX0_addPerson_22 rfl 1 rfl (pc' := 23) rfl ?_
  refine S_getR fl_X0_25 rfl dX0_addPerson_23 (pc' := 26) rfl (fun x23 => ?_)
  refine S_iload dX0_addPerson_26 0 rfl (pc' := 28) rfl ?_
  refine S_iload_n dX0_addPerson_28 rfl 4 rfl (pc' := 29) rfl ?_
  refine S_iastore dX0_addPerson_29 (pc' := 30) rfl (fun h29 => ?_)
  refine S_aload_n dX0_addPerson_30 rfl 1 rfl (pc' := 31) rfl ?_
  refine S_getR fl_X0_28 rfl dX0_addPerson_31 (pc' := 34) rfl (fun x31 => ?_)
  refine S_iload dX0_addPerson_34 0 rfl (pc' := 36) rfl ?_
  refine S_iload dX0_addPerson_36 5 rfl (pc' := 38) rfl ?_
  refine S_iastore dX0_addPerson_38 (pc' := 39) rfl (fun h38 => ?_)
  refine S_aload_n dX0_addPerson_39 rfl 1 rfl (pc' := 40) rfl ?_
  refine S_getR fl_X0_31 rfl dX0_addPerson_40 (pc' := 43) rfl (fun x40 => ?_)
  refine S_iload dX0_addPerson_43 0 rfl (pc' := 45) rfl ?_
  refine S_iconst dX0_addPerson_45 (v := 0) rfl (pc' := 46) rfl ?_
  refine S_iastore dX0_addPerson_46 (pc' := 47) rfl (fun h46 => ?_)
  refine S_aload_n dX0_addPerson_47 rfl 1 rfl (pc' := 48) rfl ?_
  refine S_iload dX0_addPerson_48 0 rfl (pc' := 50) rfl ?_
  refine S_iconst dX0_addPerson_50 (v := 0) rfl (pc' := 51) rfl ?_
  refine S_invv ml_X0_67 mi_X0_setHums (ci := 0) ⟨_, rfl, rfl⟩ (by decide) dX0_addPerson_51 [.int x1, .int 0] rfl (fun v h2 q => c_X0_setHums Z l _ _ _ _ q) ⟨Nat.le_of_ble_eq_true rfl, Nat.le_of_ble_eq_true rfl⟩ (rest := []) (Nat.le_of_ble_eq_true rfl) rfl (pc' := 54) rfl (fun _ h51 => ?_)
  refine S_iconst dX0_addPerson_54 (v := 0) rfl (pc' := 55) rfl ?_
  refine S_istore dX0_addPerson_55 (by decide) (lo' := [(6, .int 0), (5, .int x1), (0, .ref (zb Z + t)), (1, .int a1), (2, .int a2), (3, .int a3), (4, .int a4)]) rfl (pc' := 57) rfl ?_
  refine Sim.sub [2, 1, 0] rfl ?_
  refine lq_X0_addPerson_57 Z l t x1 _ ?_ 1000 _ _
  intro h57_
  refine S_aload_n dX0_addPerson_79 rfl 0 rfl (pc' := 80) rfl ?_
  refine S_iload dX0_addPerson_80 1 rfl (pc' := 82) rfl ?_
  refine S_iconst dX0_addPerson_82 (v := 1) rfl (pc' := 83) rfl ?_
  refine S_iadd dX0_addPerson_83 (pc' := 84) rfl ?_
  refine S_putI fl_X0_49 (by decide) rfl dX0_addPerson_84 (pc' := 87) rfl (fun h84 => ?_)
  refine S_iload dX0_addPerson_87 1 rfl (pc' := 89) rfl ?_
  exact S_iret rfl dX0_addPerson_89
theorem dX0_addSong_0 : decode cX0_addSong 0 = .ok (.aload_n 0, 1) := by decide +kernel
theorem dX0_addSong_1 : decode cX0_addSong 1 = .ok (.getfield 52, 3) := by decide +kernel
theorem dX0_addSong_4 : decode cX0_addSong 4 = .ok (.istore_n 3, 1) := by decide +kernel
theorem dX0_addSong_5 : decode cX0_addSong 5 = .ok (.aload_n 0, 1) := by decide +kernel
theorem dX0_addSong_6 : decode cX0_addSong 6 = .ok (.getfield 34, 3) := by decide +kernel
theorem dX0_addSong_9 : decode cX0_addSong 9 = .ok (.iload_n 3, 1) := by decide +kernel
theorem dX0_addSong_10 : decode cX0_addSong 10 = .ok (.iload_n 1, 1) := by decide +kernel
theorem dX0_addSong_11 : decode cX0_addSong 11 = .ok (.iastore, 1) := by decide +kernel
theorem dX0_addSong_12 : decode cX0_addSong 12 = .ok (.aload_n 0, 1) := by decide +kernel
theorem dX0_addSong_13 : decode cX0_addSong 13 = .ok (.getfield 37, 3) := by decide +kernel
theorem dX0_addSong_16 : decode cX0_addSong 16 = .ok (.iload_n 3, 1) := by decide +kernel
theorem dX0_addSong_17 : decode cX0_addSong 17 = .ok (.iload_n 2, 1) := by decide +kernel
theorem dX0_addSong_18 : decode cX0_addSong 18 = .ok (.iastore, 1) := by decide +kernel
theorem dX0_addSong_19 : decode cX0_addSong 19 = .ok (.aload_n 0, 1) := by decide +kernel
theorem dX0_addSong_20 : decode cX0_addSong 20 = .ok (.getfield 40, 3) := by decide +kernel
theorem dX0_addSong_23 : decode cX0_addSong 23 = .ok (.iload_n 3, 1) := by decide +kernel
theorem dX0_addSong_24 : decode cX0_addSong 24 = .ok (.iconst 0, 1) := by decide +kernel
theorem dX0_addSong_25 : decode cX0_addSong 25 = .ok (.iastore, 1) := by decide +kernel
theorem dX0_addSong_26 : decode cX0_addSong 26 = .ok (.iconst 0, 1) := by decide +kernel
theorem dX0_addSong_27 : decode cX0_addSong 27 = .ok (.istore 4, 2) := by decide +kernel
theorem dX0_addSong_29 : decode cX0_addSong 29 = .ok (.iload 4, 2) := by decide +kernel
theorem dX0_addSong_31 : decode cX0_addSong 31 = .ok (.bipush 8, 2) := by decide +kernel
theorem dX0_addSong_33 : decode cX0_addSong 33 = .ok (.if_icmp .ge 22, 3) := by decide +kernel
theorem dX0_addSong_36 : decode cX0_addSong 36 = .ok (.aload_n 0, 1) := by decide +kernel
theorem dX0_addSong_37 : decode cX0_addSong 37 = .ok (.getfield 43, 3) := by decide +kernel
theorem dX0_addSong_40 : decode cX0_addSong 40 = .ok (.iload_n 3, 1) := by decide +kernel
theorem dX0_addSong_41 : decode cX0_addSong 41 = .ok (.bipush 8, 2) := by decide +kernel
theorem dX0_addSong_43 : decode cX0_addSong 43 = .ok (.imul, 1) := by decide +kernel
theorem dX0_addSong_44 : decode cX0_addSong 44 = .ok (.iload 4, 2) := by decide +kernel
theorem dX0_addSong_46 : decode cX0_addSong 46 = .ok (.iadd, 1) := by decide +kernel
theorem dX0_addSong_47 : decode cX0_addSong 47 = .ok (.iconst 0, 1) := by decide +kernel
theorem dX0_addSong_48 : decode cX0_addSong 48 = .ok (.iastore, 1) := by decide +kernel
theorem dX0_addSong_49 : decode cX0_addSong 49 = .ok (.iinc 4 1, 3) := by decide +kernel
theorem dX0_addSong_52 : decode cX0_addSong 52 = .ok (.goto (-23), 3) := by decide +kernel
theorem dX0_addSong_55 : decode cX0_addSong 55 = .ok (.iconst 0, 1) := by decide +kernel
theorem dX0_addSong_56 : decode cX0_addSong 56 = .ok (.istore 4, 2) := by decide +kernel
theorem dX0_addSong_58 : decode cX0_addSong 58 = .ok (.iload 4, 2) := by decide +kernel
theorem dX0_addSong_60 : decode cX0_addSong 60 = .ok (.bipush 8, 2) := by decide +kernel
theorem dX0_addSong_62 : decode cX0_addSong 62 = .ok (.if_icmp .ge 17, 3) := by decide +kernel
theorem dX0_addSong_65 : decode cX0_addSong 65 = .ok (.aload_n 0, 1) := by decide +kernel
theorem dX0_addSong_66 : decode cX0_addSong 66 = .ok (.iload 4, 2) := by decide +kernel
theorem dX0_addSong_68 : decode cX0_addSong 68 = .ok (.iload_n 3, 1) := by decide +kernel
theorem dX0_addSong_69 : decode cX0_addSong 69 = .ok (.iconst (-1), 1) := by decide +kernel
theorem dX0_addSong_70 : decode cX0_addSong 70 = .ok (.invokevirtual 71, 3) := by decide +kernel
theorem dX0_addSong_73 : decode cX0_addSong 73 = .ok (.iinc 4 1, 3) := by decide +kernel
theorem dX0_addSong_76 : decode cX0_addSong 76 = .ok (.goto (-18), 3) := by decide +kernel
theorem dX0_addSong_79 : decode cX0_addSong 79 = .ok (.aload_n 0, 1) := by decide +kernel
theorem dX0_addSong_80 : decode cX0_addSong 80 = .ok (.iload_n 3, 1) := by decide +kernel
theorem dX0_addSong_81 : decode cX0_addSong 81 = .ok (.iconst 1, 1) := by decide +kernel
theorem dX0_addSong_82 : decode cX0_addSong 82 = .ok (.iadd, 1) := by decide +kernel
theorem dX0_addSong_83 : decode cX0_addSong 83 = .ok (.putfield 52, 3) := by decide +kernel
theorem dX0_addSong_86 : decode cX0_addSong 86 = .ok (.iload_n 3, 1) := by decide +kernel
theorem dX0_addSong_87 : decode cX0_addSong 87 = .ok (.ireturn, 1) := by decide +kernel
set_option maxRecDepth 100000 in
set_option maxHeartbeats 4000000 in
theorem lc_X0_addSong_29 (Z : ZZ) (l : Launch) (a0 : Nat) (a3 : Int32) {args : Array Value} {h0 h1 : HP} {v0 : Int32} (K : HP → Option (Int32 × HP)) (F : Int32 → HP → Option (Int32 × HP))
    (hK : ∀ (h : HP), Sim Z l cX0_addSong RX0 5 1 23 (some .int) "addSong" args (Mq Z args h0 h1 (some (.int v0))) h0 h1 v0 55 [(0, .ref (zb Z + a0)), (3, .int a3)] [] h (K h))
    (hF : ∀ (b4 : Int32) (h : HP), Sim Z l cX0_addSong RX0 5 1 23 (some .int) "addSong" args (Mq Z args h0 h1 (some (.int v0))) h0 h1 v0 29 [(0, .ref (zb Z + a0)), (3, .int a3), (4, .int b4)] [] h (F b4 h)) :
    ∀ (b4 : Int32) (h : HP), Sim Z l cX0_addSong RX0 5 1 23 (some .int) "addSong" args (Mq Z args h0 h1 (some (.int v0))) h0 h1 v0 29 [(0, .ref (zb Z + a0)), (3, .int a3), (4, .int b4)] [] h (lb_X0_addSong_29 a0 a3 K F b4 h) := by
  intro b4 h
  unfold lb_X0_addSong_29
  refine S_iload dX0_addSong_29 2 rfl (pc' := 31) rfl ?_
  refine S_bipush dX0_addSong_31 (v := 8) rfl (pc' := 33) rfl ?_
  refine S_icmp_ge dX0_addSong_33 55 rfl (pc' := 36) rfl (fun g33 => ?_) (fun g33 => ?_)
  · refine Sim.sub [0, 1] rfl ?_
    exact hK _
  · refine S_aload_n dX0_addSong_36 rfl 0 rfl (pc' := 37) rfl ?_
    refine S_getR fl_X0_43 rfl dX0_addSong_37 (pc' := 40) rfl (fun x37 => ?_)
    refine S_iload_n dX0_addSong_40 rfl 1 rfl (pc' := 41) rfl ?_
    refine S_bipush dX0_addSong_41 (v := 8) rfl (pc' := 43) rfl ?_
    refine S_imul dX0_addSong_43 (pc' := 44) rfl ?_
    refine S_iload dX0_addSong_44 2 rfl (pc' := 46) rfl ?_
    refine S_iadd dX0_addSong_46 (pc' := 47) rfl ?_
    refine S_iconst dX0_addSong_47 (v := 0) rfl (pc' := 48) rfl ?_
    refine S_iastore dX0_addSong_48 (pc' := 49) rfl (fun h48 => ?_)
    refine S_iinc dX0_addSong_49 (q := 2) rfl (v := b4 + 1) rfl (by decide) (lo' := [(4, .int (b4 + 1)), (0, .ref (zb Z + a0)), (3, .int a3)]) rfl (pc' := 52) rfl ?_
    refine S_goto dX0_addSong_52 29 rfl ?_
    refine Sim.sub [1, 2, 0] rfl ?_
    exact hF _ _
theorem lq_X0_addSong_29 (Z : ZZ) (l : Launch) (a0 : Nat) (a3 : Int32) {args : Array Value} {h0 h1 : HP} {v0 : Int32} (K : HP → Option (Int32 × HP))
    (hK : ∀ (h : HP), Sim Z l cX0_addSong RX0 5 1 23 (some .int) "addSong" args (Mq Z args h0 h1 (some (.int v0))) h0 h1 v0 55 [(0, .ref (zb Z + a0)), (3, .int a3)] [] h (K h)) :
    ∀ (k : Nat) (b4 : Int32) (h : HP), Sim Z l cX0_addSong RX0 5 1 23 (some .int) "addSong" args (Mq Z args h0 h1 (some (.int v0))) h0 h1 v0 29 [(0, .ref (zb Z + a0)), (3, .int a3), (4, .int b4)] [] h (lp_X0_addSong_29 a0 a3 K k b4 h) := by
  intro k
  induction k with
  | zero => exact fun _ _ => Sim.none
  | succ k ih => exact lc_X0_addSong_29 Z l a0 a3 K _ hK ih
set_option maxRecDepth 100000 in
set_option maxHeartbeats 4000000 in
theorem lc_X0_addSong_58 (Z : ZZ) (l : Launch) (a0 : Nat) (a3 : Int32) {args : Array Value} {h0 h1 : HP} {v0 : Int32} (K : HP → Option (Int32 × HP)) (F : Int32 → HP → Option (Int32 × HP))
    (hK : ∀ (h : HP), Sim Z l cX0_addSong RX0 5 1 23 (some .int) "addSong" args (Mq Z args h0 h1 (some (.int v0))) h0 h1 v0 79 [(0, .ref (zb Z + a0)), (3, .int a3)] [] h (K h))
    (hF : ∀ (b4 : Int32) (h : HP), Sim Z l cX0_addSong RX0 5 1 23 (some .int) "addSong" args (Mq Z args h0 h1 (some (.int v0))) h0 h1 v0 58 [(0, .ref (zb Z + a0)), (3, .int a3), (4, .int b4)] [] h (F b4 h)) :
    ∀ (b4 : Int32) (h : HP), Sim Z l cX0_addSong RX0 5 1 23 (some .int) "addSong" args (Mq Z args h0 h1 (some (.int v0))) h0 h1 v0 58 [(0, .ref (zb Z + a0)), (3, .int a3), (4, .int b4)] [] h (lb_X0_addSong_58 a0 a3 K F b4 h) := by
  intro b4 h
  unfold lb_X0_addSong_58
  refine S_iload dX0_addSong_58 2 rfl (pc' := 60) rfl ?_
  refine S_bipush dX0_addSong_60 (v := 8) rfl (pc' := 62) rfl ?_
  refine S_icmp_ge dX0_addSong_62 79 rfl (pc' := 65) rfl (fun g62 => ?_) (fun g62 => ?_)
  · refine Sim.sub [0, 1] rfl ?_
    exact hK _
  · refine S_aload_n dX0_addSong_65 rfl 0 rfl (pc' := 66) rfl ?_
    refine S_iload dX0_addSong_66 2 rfl (pc' := 68) rfl ?_
    refine S_iload_n dX0_addSong_68 rfl 1 rfl (pc' := 69) rfl ?_
    refine S_iconst dX0_addSong_69 (v := (-1)) rfl (pc' := 70) rfl ?_
    refine S_invv ml_X0_71 mi_X0_setHeld (ci := 0) ⟨_, rfl, rfl⟩ (by decide) dX0_addSong_70 [.int b4, .int a3, .int (-1)] rfl (fun v h2 q => c_X0_setHeld Z l _ _ _ _ _ q) ⟨Nat.le_of_ble_eq_true rfl, Nat.le_of_ble_eq_true rfl⟩ (rest := []) (Nat.le_of_ble_eq_true rfl) rfl (pc' := 73) rfl (fun _ h70 => ?_)
    refine S_iinc dX0_addSong_73 (q := 2) rfl (v := b4 + 1) rfl (by decide) (lo' := [(4, .int (b4 + 1)), (0, .ref (zb Z + a0)), (3, .int a3)]) rfl (pc' := 76) rfl ?_
    refine S_goto dX0_addSong_76 58 rfl ?_
    refine Sim.sub [1, 2, 0] rfl ?_
    exact hF _ _
theorem lq_X0_addSong_58 (Z : ZZ) (l : Launch) (a0 : Nat) (a3 : Int32) {args : Array Value} {h0 h1 : HP} {v0 : Int32} (K : HP → Option (Int32 × HP))
    (hK : ∀ (h : HP), Sim Z l cX0_addSong RX0 5 1 23 (some .int) "addSong" args (Mq Z args h0 h1 (some (.int v0))) h0 h1 v0 79 [(0, .ref (zb Z + a0)), (3, .int a3)] [] h (K h)) :
    ∀ (k : Nat) (b4 : Int32) (h : HP), Sim Z l cX0_addSong RX0 5 1 23 (some .int) "addSong" args (Mq Z args h0 h1 (some (.int v0))) h0 h1 v0 58 [(0, .ref (zb Z + a0)), (3, .int a3), (4, .int b4)] [] h (lp_X0_addSong_58 a0 a3 K k b4 h) := by
  intro k
  induction k with
  | zero => exact fun _ _ => Sim.none
  | succ k ih => exact lc_X0_addSong_58 Z l a0 a3 K _ hK ih
set_option maxRecDepth 100000 in
set_option maxHeartbeats 4000000 in
theorem c_X0_addSong (Z : ZZ) (l : Launch) (t : Nat) (a1 : Int32) (a2 : Int32) (h : HP) {v : Int32} {h1 : HP} (ho : f_X0_addSong t a1 a2 h = some (v, h1)) : MetP Z l yX0_addSong cX0_addSong 5 (some .int) 1 23 [.ref (zb Z + t), .int a1, .int a2] h (some (.int v)) h1 := by
  refine MetP_of ho (by decide +kernel) (Nat.le_of_ble_eq_true rfl) [(0, .ref (zb Z + t)), (1, .int a1), (2, .int a2)] rfl (own := RX0) rfl (nm := "addSong") rfl ?_
  unfold f_X0_addSong
  refine S_aload_n dX0_addSong_0 rfl 0 rfl (pc' := 1) rfl ?_
  refine S_getI fl_X0_52 rfl dX0_addSong_1 (pc' := 4) rfl (fun x1 => ?_)
  refine S_istore_n dX0_addSong_4 rfl (by decide) (lo' := [(3, .int x1), (0, .ref (zb Z + t)), (1, .int a1), (2, .int a2)]) rfl (pc' := 5) rfl ?_
  refine S_aload_n dX0_addSong_5 rfl 1 rfl (pc' := 6) rfl ?_
  refine S_getR fl_X0_34 rfl dX0_addSong_6 (pc' := 9) rfl (fun x6 => ?_)
  refine S_iload_n dX0_addSong_9 rfl 0 rfl (pc' := 10) rfl ?_
  refine S_iload_n dX0_addSong_10 rfl 2 rfl (pc' := 11) rfl ?_
  refine S_iastore dX0_addSong_11 (pc' := 12) rfl (fun h11 => ?_)
  refine S_aload_n dX0_addSong_12 rfl 1 rfl (pc' := 13) rfl ?_
  refine S_getR fl_X0_37 rfl dX0_addSong_13 (pc' := 16) rfl (fun x13 => ?_)
  refine S_iload_n dX0_addSong_16 rfl 0 rfl (pc' := 17) rfl ?_
  refine S_iload_n dX0_addSong_17 rfl 3 rfl (pc' := 18) rfl ?_
  refine S_iastore dX0_addSong_18 (pc' := 19) rfl (fun h18 => ?_)
  refine S_aload_n dX0_addSong_19 rfl 1 rfl (pc' := 20) rfl ?_
  refine S_getR fl_X0_40 rfl dX0_addSong_20 (pc' := 23) rfl (fun x20 => ?_)
  refine S_iload_n dX0_addSong_23 rfl 0 rfl (pc' := 24) rfl ?_
  refine S_iconst dX0_addSong_24 (v := 0) rfl (pc' := 25) rfl ?_
  refine S_iastore dX0_addSong_25 (pc' := 26) rfl (fun h25 => ?_)
  refine S_iconst dX0_addSong_26 (v := 0) rfl (pc' := 27) rfl ?_
  refine S_istore dX0_addSong_27 (by decide) (lo' := [(4, .int 0), (3, .int x1), (0, .ref (zb Z + t)), (1, .int a1), (2, .int a2)]) rfl (pc' := 29) rfl ?_
  refine Sim.sub [2, 1, 0] rfl ?_
  refine lq_X0_addSong_29 Z l t x1 _ ?_ 1000 _ _
  intro h29_
  refine S_iconst dX0_addSong_55 (v := 0) rfl (pc' := 56) rfl ?_
  refine S_istore dX0_addSong_56 (by decide) (lo' := [(4, .int 0), (0, .ref (zb Z + t)), (3, .int x1)]) rfl (pc' := 58) rfl ?_
  refine Sim.sub [1, 2, 0] rfl ?_
  refine lq_X0_addSong_58 Z l t x1 _ ?_ 1000 _ _
  intro h58_
  refine S_aload_n dX0_addSong_79 rfl 0 rfl (pc' := 80) rfl ?_
  refine S_iload_n dX0_addSong_80 rfl 1 rfl (pc' := 81) rfl ?_
  refine S_iconst dX0_addSong_81 (v := 1) rfl (pc' := 82) rfl ?_
  refine S_iadd dX0_addSong_82 (pc' := 83) rfl ?_
  refine S_putI fl_X0_52 (by decide) rfl dX0_addSong_83 (pc' := 86) rfl (fun h83 => ?_)
  refine S_iload_n dX0_addSong_86 rfl 1 rfl (pc' := 87) rfl ?_
  exact S_iret rfl dX0_addSong_87
theorem dX0_heldFor_0 : decode cX0_heldFor 0 = .ok (.aload_n 0, 1) := by decide +kernel
theorem dX0_heldFor_1 : decode cX0_heldFor 1 = .ok (.getfield 46, 3) := by decide +kernel
theorem dX0_heldFor_4 : decode cX0_heldFor 4 = .ok (.iload_n 1, 1) := by decide +kernel
theorem dX0_heldFor_5 : decode cX0_heldFor 5 = .ok (.bipush 6, 2) := by decide +kernel
theorem dX0_heldFor_7 : decode cX0_heldFor 7 = .ok (.imul, 1) := by decide +kernel
theorem dX0_heldFor_8 : decode cX0_heldFor 8 = .ok (.iload_n 2, 1) := by decide +kernel
theorem dX0_heldFor_9 : decode cX0_heldFor 9 = .ok (.iadd, 1) := by decide +kernel
theorem dX0_heldFor_10 : decode cX0_heldFor 10 = .ok (.iaload, 1) := by decide +kernel
theorem dX0_heldFor_11 : decode cX0_heldFor 11 = .ok (.ireturn, 1) := by decide +kernel
set_option maxRecDepth 100000 in
set_option maxHeartbeats 4000000 in
theorem c_X0_heldFor (Z : ZZ) (l : Launch) (t : Nat) (a1 : Int32) (a2 : Int32) (h : HP) {v : Int32} {h1 : HP} (ho : f_X0_heldFor t a1 a2 h = some (v, h1)) : MetP Z l yX0_heldFor cX0_heldFor 3 (some .int) 0 0 [.ref (zb Z + t), .int a1, .int a2] h (some (.int v)) h1 := by
  refine MetP_of ho (by decide +kernel) (Nat.le_of_ble_eq_true rfl) [(0, .ref (zb Z + t)), (1, .int a1), (2, .int a2)] rfl (own := RX0) rfl (nm := "heldFor") rfl ?_
  unfold f_X0_heldFor
  refine S_aload_n dX0_heldFor_0 rfl 0 rfl (pc' := 1) rfl ?_
  refine S_getR fl_X0_46 rfl dX0_heldFor_1 (pc' := 4) rfl (fun x1 => ?_)
  refine S_iload_n dX0_heldFor_4 rfl 1 rfl (pc' := 5) rfl ?_
  refine S_bipush dX0_heldFor_5 (v := 6) rfl (pc' := 7) rfl ?_
  refine S_imul dX0_heldFor_7 (pc' := 8) rfl ?_
  refine S_iload_n dX0_heldFor_8 rfl 2 rfl (pc' := 9) rfl ?_
  refine S_iadd dX0_heldFor_9 (pc' := 10) rfl ?_
  refine S_iaload dX0_heldFor_10 (pc' := 11) rfl (fun x10 => ?_)
  exact S_iret rfl dX0_heldFor_11
theorem dX0_setBeside_0 : decode cX0_setBeside 0 = .ok (.aload_n 0, 1) := by decide +kernel
theorem dX0_setBeside_1 : decode cX0_setBeside 1 = .ok (.getfield 31, 3) := by decide +kernel
theorem dX0_setBeside_4 : decode cX0_setBeside 4 = .ok (.iload_n 1, 1) := by decide +kernel
theorem dX0_setBeside_5 : decode cX0_setBeside 5 = .ok (.aload_n 0, 1) := by decide +kernel
theorem dX0_setBeside_6 : decode cX0_setBeside 6 = .ok (.getfield 31, 3) := by decide +kernel
theorem dX0_setBeside_9 : decode cX0_setBeside 9 = .ok (.iload_n 1, 1) := by decide +kernel
theorem dX0_setBeside_10 : decode cX0_setBeside 10 = .ok (.iaload, 1) := by decide +kernel
theorem dX0_setBeside_11 : decode cX0_setBeside 11 = .ok (.iload_n 2, 1) := by decide +kernel
theorem dX0_setBeside_12 : decode cX0_setBeside 12 = .ok (.iload_n 3, 1) := by decide +kernel
theorem dX0_setBeside_13 : decode cX0_setBeside 13 = .ok (.invokestatic 75, 3) := by decide +kernel
theorem dX0_setBeside_16 : decode cX0_setBeside 16 = .ok (.iastore, 1) := by decide +kernel
theorem dX0_setBeside_17 : decode cX0_setBeside 17 = .ok (.aload_n 0, 1) := by decide +kernel
theorem dX0_setBeside_18 : decode cX0_setBeside 18 = .ok (.getfield 31, 3) := by decide +kernel
theorem dX0_setBeside_21 : decode cX0_setBeside 21 = .ok (.iload_n 2, 1) := by decide +kernel
theorem dX0_setBeside_22 : decode cX0_setBeside 22 = .ok (.aload_n 0, 1) := by decide +kernel
theorem dX0_setBeside_23 : decode cX0_setBeside 23 = .ok (.getfield 31, 3) := by decide +kernel
theorem dX0_setBeside_26 : decode cX0_setBeside 26 = .ok (.iload_n 2, 1) := by decide +kernel
theorem dX0_setBeside_27 : decode cX0_setBeside 27 = .ok (.iaload, 1) := by decide +kernel
theorem dX0_setBeside_28 : decode cX0_setBeside 28 = .ok (.iload_n 1, 1) := by decide +kernel
theorem dX0_setBeside_29 : decode cX0_setBeside 29 = .ok (.iload_n 3, 1) := by decide +kernel
theorem dX0_setBeside_30 : decode cX0_setBeside 30 = .ok (.invokestatic 75, 3) := by decide +kernel
theorem dX0_setBeside_33 : decode cX0_setBeside 33 = .ok (.iastore, 1) := by decide +kernel
theorem dX0_setBeside_34 : decode cX0_setBeside 34 = .ok (.return_, 1) := by decide +kernel
set_option maxRecDepth 100000 in
set_option maxHeartbeats 4000000 in
theorem c_X0_setBeside (Z : ZZ) (l : Launch) (t : Nat) (a1 : Int32) (a2 : Int32) (a3 : Int32) (h : HP) {v : Unit} {h1 : HP} (ho : f_X0_setBeside t a1 a2 a3 h = some (v, h1)) : MetP Z l yX0_setBeside cX0_setBeside 4 (none) 1 22 [.ref (zb Z + t), .int a1, .int a2, .int a3] h (none) h1 := by
  refine MetP_of ho (by decide +kernel) (Nat.le_of_ble_eq_true rfl) [(0, .ref (zb Z + t)), (1, .int a1), (2, .int a2), (3, .int a3)] rfl (own := RX0) rfl (nm := "setBeside") rfl ?_
  unfold f_X0_setBeside
  refine S_aload_n dX0_setBeside_0 rfl 0 rfl (pc' := 1) rfl ?_
  refine S_getR fl_X0_31 rfl dX0_setBeside_1 (pc' := 4) rfl (fun x1 => ?_)
  refine S_iload_n dX0_setBeside_4 rfl 1 rfl (pc' := 5) rfl ?_
  refine S_aload_n dX0_setBeside_5 rfl 0 rfl (pc' := 6) rfl ?_
  refine S_getR fl_X0_31 rfl dX0_setBeside_6 (pc' := 9) rfl (fun x6 => ?_)
  refine S_iload_n dX0_setBeside_9 rfl 1 rfl (pc' := 10) rfl ?_
  refine S_iaload dX0_setBeside_10 (pc' := 11) rfl (fun x10 => ?_)
  refine S_iload_n dX0_setBeside_11 rfl 2 rfl (pc' := 12) rfl ?_
  refine S_iload_n dX0_setBeside_12 rfl 3 rfl (pc' := 13) rfl ?_
  refine S_stai ml_X0_75 ms_X0_withBit dX0_setBeside_13 [.int x10, .int a2, .int a3] rfl (fun v h2 q => c_X0_withBit Z l _ _ _ _ q) ⟨Nat.le_of_ble_eq_true rfl, Nat.le_of_ble_eq_true rfl⟩ (rest := [.int a1, .ref (zb Z + x1)]) (Nat.le_of_ble_eq_true rfl) rfl (pc' := 16) rfl (fun x13 h13 => ?_)
  refine S_iastore dX0_setBeside_16 (pc' := 17) rfl (fun h16 => ?_)
  refine S_aload_n dX0_setBeside_17 rfl 0 rfl (pc' := 18) rfl ?_
  refine S_getR fl_X0_31 rfl dX0_setBeside_18 (pc' := 21) rfl (fun x18 => ?_)
  refine S_iload_n dX0_setBeside_21 rfl 2 rfl (pc' := 22) rfl ?_
  refine S_aload_n dX0_setBeside_22 rfl 0 rfl (pc' := 23) rfl ?_
  refine S_getR fl_X0_31 rfl dX0_setBeside_23 (pc' := 26) rfl (fun x23 => ?_)
  refine S_iload_n dX0_setBeside_26 rfl 2 rfl (pc' := 27) rfl ?_
  refine S_iaload dX0_setBeside_27 (pc' := 28) rfl (fun x27 => ?_)
  refine S_iload_n dX0_setBeside_28 rfl 1 rfl (pc' := 29) rfl ?_
  refine S_iload_n dX0_setBeside_29 rfl 3 rfl (pc' := 30) rfl ?_
  refine S_stai ml_X0_75 ms_X0_withBit dX0_setBeside_30 [.int x27, .int a1, .int a3] rfl (fun v h2 q => c_X0_withBit Z l _ _ _ _ q) ⟨Nat.le_of_ble_eq_true rfl, Nat.le_of_ble_eq_true rfl⟩ (rest := [.int a2, .ref (zb Z + x18)]) (Nat.le_of_ble_eq_true rfl) rfl (pc' := 33) rfl (fun x30 h30 => ?_)
  refine S_iastore dX0_setBeside_33 (pc' := 34) rfl (fun h33 => ?_)
  exact S_vret rfl dX0_setBeside_34
theorem dX0_leaveTable_0 : decode cX0_leaveTable 0 = .ok (.iconst 0, 1) := by decide +kernel
theorem dX0_leaveTable_1 : decode cX0_leaveTable 1 = .ok (.istore_n 2, 1) := by decide +kernel
theorem dX0_leaveTable_2 : decode cX0_leaveTable 2 = .ok (.iload_n 2, 1) := by decide +kernel
theorem dX0_leaveTable_3 : decode cX0_leaveTable 3 = .ok (.aload_n 0, 1) := by decide +kernel
theorem dX0_leaveTable_4 : decode cX0_leaveTable 4 = .ok (.getfield 49, 3) := by decide +kernel
theorem dX0_leaveTable_7 : decode cX0_leaveTable 7 = .ok (.if_icmp .ge 16, 3) := by decide +kernel
theorem dX0_leaveTable_10 : decode cX0_leaveTable 10 = .ok (.aload_n 0, 1) := by decide +kernel
theorem dX0_leaveTable_11 : decode cX0_leaveTable 11 = .ok (.iload_n 1, 1) := by decide +kernel
theorem dX0_leaveTable_12 : decode cX0_leaveTable 12 = .ok (.iload_n 2, 1) := by decide +kernel
theorem dX0_leaveTable_13 : decode cX0_leaveTable 13 = .ok (.iconst 0, 1) := by decide +kernel
theorem dX0_leaveTable_14 : decode cX0_leaveTable 14 = .ok (.invokevirtual 79, 3) := by decide +kernel
theorem dX0_leaveTable_17 : decode cX0_leaveTable 17 = .ok (.iinc 2 1, 3) := by decide +kernel
theorem dX0_leaveTable_20 : decode cX0_leaveTable 20 = .ok (.goto (-18), 3) := by decide +kernel
theorem dX0_leaveTable_23 : decode cX0_leaveTable 23 = .ok (.return_, 1) := by decide +kernel
set_option maxRecDepth 100000 in
set_option maxHeartbeats 4000000 in
theorem lc_X0_leaveTable_2 (Z : ZZ) (l : Launch) (a0 : Nat) (a1 : Int32) {args : Array Value} {h0 h1 : HP} {v0 : Unit} (K : HP → Option (Unit × HP)) (F : Int32 → HP → Option (Unit × HP))
    (hK : ∀ (h : HP), Sim Z l cX0_leaveTable RX0 3 2 45 (none) "leaveTable" args (Mq Z args h0 h1 (none)) h0 h1 v0 23 [] [] h (K h))
    (hF : ∀ (b2 : Int32) (h : HP), Sim Z l cX0_leaveTable RX0 3 2 45 (none) "leaveTable" args (Mq Z args h0 h1 (none)) h0 h1 v0 2 [(0, .ref (zb Z + a0)), (1, .int a1), (2, .int b2)] [] h (F b2 h)) :
    ∀ (b2 : Int32) (h : HP), Sim Z l cX0_leaveTable RX0 3 2 45 (none) "leaveTable" args (Mq Z args h0 h1 (none)) h0 h1 v0 2 [(0, .ref (zb Z + a0)), (1, .int a1), (2, .int b2)] [] h (lb_X0_leaveTable_2 a0 a1 K F b2 h) := by
  intro b2 h
  unfold lb_X0_leaveTable_2
  refine S_iload_n dX0_leaveTable_2 rfl 2 rfl (pc' := 3) rfl ?_
  refine S_aload_n dX0_leaveTable_3 rfl 0 rfl (pc' := 4) rfl ?_
  refine S_getI fl_X0_49 rfl dX0_leaveTable_4 (pc' := 7) rfl (fun x4 => ?_)
  refine S_icmp_ge dX0_leaveTable_7 23 rfl (pc' := 10) rfl (fun g7 => ?_) (fun g7 => ?_)
  · refine Sim.sub [] rfl ?_
    exact hK _
  · refine S_aload_n dX0_leaveTable_10 rfl 0 rfl (pc' := 11) rfl ?_
    refine S_iload_n dX0_leaveTable_11 rfl 1 rfl (pc' := 12) rfl ?_
    refine S_iload_n dX0_leaveTable_12 rfl 2 rfl (pc' := 13) rfl ?_
    refine S_iconst dX0_leaveTable_13 (v := 0) rfl (pc' := 14) rfl ?_
    refine S_invv ml_X0_79 mi_X0_setBeside (ci := 0) ⟨_, rfl, rfl⟩ (by decide) dX0_leaveTable_14 [.int a1, .int b2, .int 0] rfl (fun v h2 q => c_X0_setBeside Z l _ _ _ _ _ q) ⟨Nat.le_of_ble_eq_true rfl, Nat.le_of_ble_eq_true rfl⟩ (rest := []) (Nat.le_of_ble_eq_true rfl) rfl (pc' := 17) rfl (fun _ h14 => ?_)
    refine S_iinc dX0_leaveTable_17 (q := 2) rfl (v := b2 + 1) rfl (by decide) (lo' := [(2, .int (b2 + 1)), (0, .ref (zb Z + a0)), (1, .int a1)]) rfl (pc' := 20) rfl ?_
    refine S_goto dX0_leaveTable_20 2 rfl ?_
    refine Sim.sub [1, 2, 0] rfl ?_
    exact hF _ _
theorem lq_X0_leaveTable_2 (Z : ZZ) (l : Launch) (a0 : Nat) (a1 : Int32) {args : Array Value} {h0 h1 : HP} {v0 : Unit} (K : HP → Option (Unit × HP))
    (hK : ∀ (h : HP), Sim Z l cX0_leaveTable RX0 3 2 45 (none) "leaveTable" args (Mq Z args h0 h1 (none)) h0 h1 v0 23 [] [] h (K h)) :
    ∀ (k : Nat) (b2 : Int32) (h : HP), Sim Z l cX0_leaveTable RX0 3 2 45 (none) "leaveTable" args (Mq Z args h0 h1 (none)) h0 h1 v0 2 [(0, .ref (zb Z + a0)), (1, .int a1), (2, .int b2)] [] h (lp_X0_leaveTable_2 a0 a1 K k b2 h) := by
  intro k
  induction k with
  | zero => exact fun _ _ => Sim.none
  | succ k ih => exact lc_X0_leaveTable_2 Z l a0 a1 K _ hK ih
set_option maxRecDepth 100000 in
set_option maxHeartbeats 4000000 in
theorem c_X0_leaveTable (Z : ZZ) (l : Launch) (t : Nat) (a1 : Int32) (h : HP) {v : Unit} {h1 : HP} (ho : f_X0_leaveTable t a1 h = some (v, h1)) : MetP Z l yX0_leaveTable cX0_leaveTable 3 (none) 2 45 [.ref (zb Z + t), .int a1] h (none) h1 := by
  refine MetP_of ho (by decide +kernel) (Nat.le_of_ble_eq_true rfl) [(0, .ref (zb Z + t)), (1, .int a1)] rfl (own := RX0) rfl (nm := "leaveTable") rfl ?_
  unfold f_X0_leaveTable
  refine S_iconst dX0_leaveTable_0 (v := 0) rfl (pc' := 1) rfl ?_
  refine S_istore_n dX0_leaveTable_1 rfl (by decide) (lo' := [(2, .int 0), (0, .ref (zb Z + t)), (1, .int a1)]) rfl (pc' := 2) rfl ?_
  refine Sim.sub [1, 2, 0] rfl ?_
  refine lq_X0_leaveTable_2 Z l t a1 _ ?_ 1000 _ _
  intro h2_
  exact S_vret rfl dX0_leaveTable_23
theorem dX0_isOfKind_0 : decode cX0_isOfKind 0 = .ok (.aload_n 0, 1) := by decide +kernel
theorem dX0_isOfKind_1 : decode cX0_isOfKind 1 = .ok (.getfield 18, 3) := by decide +kernel
theorem dX0_isOfKind_4 : decode cX0_isOfKind 4 = .ok (.iload_n 1, 1) := by decide +kernel
theorem dX0_isOfKind_5 : decode cX0_isOfKind 5 = .ok (.iaload, 1) := by decide +kernel
theorem dX0_isOfKind_6 : decode cX0_isOfKind 6 = .ok (.istore_n 3, 1) := by decide +kernel
theorem dX0_isOfKind_7 : decode cX0_isOfKind 7 = .ok (.iload_n 2, 1) := by decide +kernel
theorem dX0_isOfKind_8 : decode cX0_isOfKind 8 = .ok (.ifCond .eq 28, 3) := by decide +kernel
theorem dX0_isOfKind_11 : decode cX0_isOfKind 11 = .ok (.iload_n 2, 1) := by decide +kernel
theorem dX0_isOfKind_12 : decode cX0_isOfKind 12 = .ok (.iload_n 3, 1) := by decide +kernel
theorem dX0_isOfKind_13 : decode cX0_isOfKind 13 = .ok (.if_icmp .eq 23, 3) := by decide +kernel
theorem dX0_isOfKind_16 : decode cX0_isOfKind 16 = .ok (.iload_n 2, 1) := by decide +kernel
theorem dX0_isOfKind_17 : decode cX0_isOfKind 17 = .ok (.iconst 1, 1) := by decide +kernel
theorem dX0_isOfKind_18 : decode cX0_isOfKind 18 = .ok (.if_icmp .ne 8, 3) := by decide +kernel
theorem dX0_isOfKind_21 : decode cX0_isOfKind 21 = .ok (.iload_n 3, 1) := by decide +kernel
theorem dX0_isOfKind_22 : decode cX0_isOfKind 22 = .ok (.iconst 3, 1) := by decide +kernel
theorem dX0_isOfKind_23 : decode cX0_isOfKind 23 = .ok (.if_icmp .eq 13, 3) := by decide +kernel
theorem dX0_isOfKind_26 : decode cX0_isOfKind 26 = .ok (.iload_n 2, 1) := by decide +kernel
theorem dX0_isOfKind_27 : decode cX0_isOfKind 27 = .ok (.iconst 2, 1) := by decide +kernel
theorem dX0_isOfKind_28 : decode cX0_isOfKind 28 = .ok (.if_icmp .ne 12, 3) := by decide +kernel
theorem dX0_isOfKind_31 : decode cX0_isOfKind 31 = .ok (.iload_n 3, 1) := by decide +kernel
theorem dX0_isOfKind_32 : decode cX0_isOfKind 32 = .ok (.iconst 4, 1) := by decide +kernel
theorem dX0_isOfKind_33 : decode cX0_isOfKind 33 = .ok (.if_icmp .ne 7, 3) := by decide +kernel
theorem dX0_isOfKind_36 : decode cX0_isOfKind 36 = .ok (.iconst 1, 1) := by decide +kernel
theorem dX0_isOfKind_37 : decode cX0_isOfKind 37 = .ok (.goto 4, 3) := by decide +kernel
theorem dX0_isOfKind_40 : decode cX0_isOfKind 40 = .ok (.iconst 0, 1) := by decide +kernel
theorem dX0_isOfKind_41 : decode cX0_isOfKind 41 = .ok (.ireturn, 1) := by decide +kernel
set_option maxRecDepth 100000 in
set_option maxHeartbeats 4000000 in
theorem c_X0_isOfKind (Z : ZZ) (l : Launch) (t : Nat) (a1 : Int32) (a2 : Int32) (h : HP) {v : Int32} {h1 : HP} (ho : f_X0_isOfKind t a1 a2 h = some (v, h1)) : MetP Z l yX0_isOfKind cX0_isOfKind 4 (some .boolean) 0 0 [.ref (zb Z + t), .int a1, .int a2] h (some (.int v)) h1 := by
  refine MetP_of ho (by decide +kernel) (Nat.le_of_ble_eq_true rfl) [(0, .ref (zb Z + t)), (1, .int a1), (2, .int a2)] rfl (own := RX0) rfl (nm := "isOfKind") rfl ?_
  unfold f_X0_isOfKind
  refine S_aload_n dX0_isOfKind_0 rfl 0 rfl (pc' := 1) rfl ?_
  refine S_getR fl_X0_18 rfl dX0_isOfKind_1 (pc' := 4) rfl (fun x1 => ?_)
  refine S_iload_n dX0_isOfKind_4 rfl 1 rfl (pc' := 5) rfl ?_
  refine S_iaload dX0_isOfKind_5 (pc' := 6) rfl (fun x5 => ?_)
  refine S_istore_n dX0_isOfKind_6 rfl (by decide) (lo' := [(3, .int x5), (0, .ref (zb Z + t)), (1, .int a1), (2, .int a2)]) rfl (pc' := 7) rfl ?_
  refine S_iload_n dX0_isOfKind_7 rfl 3 rfl (pc' := 8) rfl ?_
  refine S_if_eq dX0_isOfKind_8 36 rfl (pc' := 11) rfl (fun g8 => ?_) (fun g8 => ?_)
  · refine S_iconst dX0_isOfKind_36 (v := 1) rfl (pc' := 37) rfl ?_
    refine S_goto dX0_isOfKind_37 41 rfl ?_
    exact S_zret rfl dX0_isOfKind_41
  · refine S_iload_n dX0_isOfKind_11 rfl 3 rfl (pc' := 12) rfl ?_
    refine S_iload_n dX0_isOfKind_12 rfl 0 rfl (pc' := 13) rfl ?_
    refine S_icmp_eq dX0_isOfKind_13 36 rfl (pc' := 16) rfl (fun g13 => ?_) (fun g13 => ?_)
    · refine S_iconst dX0_isOfKind_36 (v := 1) rfl (pc' := 37) rfl ?_
      refine S_goto dX0_isOfKind_37 41 rfl ?_
      exact S_zret rfl dX0_isOfKind_41
    · refine S_iload_n dX0_isOfKind_16 rfl 3 rfl (pc' := 17) rfl ?_
      refine S_iconst dX0_isOfKind_17 (v := 1) rfl (pc' := 18) rfl ?_
      refine S_icmp_ne dX0_isOfKind_18 26 rfl (pc' := 21) rfl (fun g18 => ?_) (fun g18 => ?_)
      · refine S_iload_n dX0_isOfKind_26 rfl 3 rfl (pc' := 27) rfl ?_
        refine S_iconst dX0_isOfKind_27 (v := 2) rfl (pc' := 28) rfl ?_
        refine S_icmp_ne dX0_isOfKind_28 40 rfl (pc' := 31) rfl (fun g28 => ?_) (fun g28 => ?_)
        · refine S_iconst dX0_isOfKind_40 (v := 0) rfl (pc' := 41) rfl ?_
          exact S_zret rfl dX0_isOfKind_41
        · refine S_iload_n dX0_isOfKind_31 rfl 0 rfl (pc' := 32) rfl ?_
          refine S_iconst dX0_isOfKind_32 (v := 4) rfl (pc' := 33) rfl ?_
          refine S_icmp_ne dX0_isOfKind_33 40 rfl (pc' := 36) rfl (fun g33 => ?_) (fun g33 => ?_)
          · refine S_iconst dX0_isOfKind_40 (v := 0) rfl (pc' := 41) rfl ?_
            exact S_zret rfl dX0_isOfKind_41
          · refine S_iconst dX0_isOfKind_36 (v := 1) rfl (pc' := 37) rfl ?_
            refine S_goto dX0_isOfKind_37 41 rfl ?_
            exact S_zret rfl dX0_isOfKind_41
      · refine S_iload_n dX0_isOfKind_21 rfl 0 rfl (pc' := 22) rfl ?_
        refine S_iconst dX0_isOfKind_22 (v := 3) rfl (pc' := 23) rfl ?_
        refine S_icmp_eq dX0_isOfKind_23 36 rfl (pc' := 26) rfl (fun g23 => ?_) (fun g23 => ?_)
        · refine S_iconst dX0_isOfKind_36 (v := 1) rfl (pc' := 37) rfl ?_
          refine S_goto dX0_isOfKind_37 41 rfl ?_
          exact S_zret rfl dX0_isOfKind_41
        · refine S_iload_n dX0_isOfKind_26 rfl 3 rfl (pc' := 27) rfl ?_
          refine S_iconst dX0_isOfKind_27 (v := 2) rfl (pc' := 28) rfl ?_
          refine S_icmp_ne_J dX0_isOfKind_28 40 rfl (pc' := 31) rfl (fun q9 => absurd (g18.symm.trans q9) (by decide)) ?_
          refine S_iconst dX0_isOfKind_40 (v := 0) rfl (pc' := 41) rfl ?_
          exact S_zret rfl dX0_isOfKind_41
theorem dX0_holdOn_0 : decode cX0_holdOn 0 = .ok (.aload_n 0, 1) := by decide +kernel
theorem dX0_holdOn_1 : decode cX0_holdOn 1 = .ok (.getfield 25, 3) := by decide +kernel
theorem dX0_holdOn_4 : decode cX0_holdOn 4 = .ok (.iload_n 1, 1) := by decide +kernel
theorem dX0_holdOn_5 : decode cX0_holdOn 5 = .ok (.iaload, 1) := by decide +kernel
theorem dX0_holdOn_6 : decode cX0_holdOn 6 = .ok (.iload_n 2, 1) := by decide +kernel
theorem dX0_holdOn_7 : decode cX0_holdOn 7 = .ok (.iadd, 1) := by decide +kernel
theorem dX0_holdOn_8 : decode cX0_holdOn 8 = .ok (.aload_n 0, 1) := by decide +kernel
theorem dX0_holdOn_9 : decode cX0_holdOn 9 = .ok (.getfield 28, 3) := by decide +kernel
theorem dX0_holdOn_12 : decode cX0_holdOn 12 = .ok (.iload_n 1, 1) := by decide +kernel
theorem dX0_holdOn_13 : decode cX0_holdOn 13 = .ok (.iaload, 1) := by decide +kernel
theorem dX0_holdOn_14 : decode cX0_holdOn 14 = .ok (.isub, 1) := by decide +kernel
theorem dX0_holdOn_15 : decode cX0_holdOn 15 = .ok (.istore_n 3, 1) := by decide +kernel
theorem dX0_holdOn_16 : decode cX0_holdOn 16 = .ok (.aload_n 0, 1) := by decide +kernel
theorem dX0_holdOn_17 : decode cX0_holdOn 17 = .ok (.getfield 18, 3) := by decide +kernel
theorem dX0_holdOn_20 : decode cX0_holdOn 20 = .ok (.iload_n 1, 1) := by decide +kernel
theorem dX0_holdOn_21 : decode cX0_holdOn 21 = .ok (.iaload, 1) := by decide +kernel
theorem dX0_holdOn_22 : decode cX0_holdOn 22 = .ok (.istore 4, 2) := by decide +kernel
theorem dX0_holdOn_24 : decode cX0_holdOn 24 = .ok (.iload 4, 2) := by decide +kernel
theorem dX0_holdOn_26 : decode cX0_holdOn 26 = .ok (.iconst 1, 1) := by decide +kernel
theorem dX0_holdOn_27 : decode cX0_holdOn 27 = .ok (.if_icmp .eq 9, 3) := by decide +kernel
theorem dX0_holdOn_30 : decode cX0_holdOn 30 = .ok (.iload 4, 2) := by decide +kernel
theorem dX0_holdOn_32 : decode cX0_holdOn 32 = .ok (.iconst 3, 1) := by decide +kernel
theorem dX0_holdOn_33 : decode cX0_holdOn 33 = .ok (.if_icmp .ne 15, 3) := by decide +kernel
theorem dX0_holdOn_36 : decode cX0_holdOn 36 = .ok (.iload_n 3, 1) := by decide +kernel
theorem dX0_holdOn_37 : decode cX0_holdOn 37 = .ok (.aload_n 0, 1) := by decide +kernel
theorem dX0_holdOn_38 : decode cX0_holdOn 38 = .ok (.getfield 22, 3) := by decide +kernel
theorem dX0_holdOn_41 : decode cX0_holdOn 41 = .ok (.iload_n 1, 1) := by decide +kernel
theorem dX0_holdOn_42 : decode cX0_holdOn 42 = .ok (.iaload, 1) := by decide +kernel
theorem dX0_holdOn_43 : decode cX0_holdOn 43 = .ok (.isub, 1) := by decide +kernel
theorem dX0_holdOn_44 : decode cX0_holdOn 44 = .ok (.istore_n 3, 1) := by decide +kernel
theorem dX0_holdOn_45 : decode cX0_holdOn 45 = .ok (.goto 22, 3) := by decide +kernel
theorem dX0_holdOn_48 : decode cX0_holdOn 48 = .ok (.iload 4, 2) := by decide +kernel
theorem dX0_holdOn_50 : decode cX0_holdOn 50 = .ok (.iconst 2, 1) := by decide +kernel
theorem dX0_holdOn_51 : decode cX0_holdOn 51 = .ok (.if_icmp .eq 9, 3) := by decide +kernel
theorem dX0_holdOn_54 : decode cX0_holdOn 54 = .ok (.iload 4, 2) := by decide +kernel
theorem dX0_holdOn_56 : decode cX0_holdOn 56 = .ok (.iconst 4, 1) := by decide +kernel
theorem dX0_holdOn_57 : decode cX0_holdOn 57 = .ok (.if_icmp .ne 10, 3) := by decide +kernel
theorem dX0_holdOn_60 : decode cX0_holdOn 60 = .ok (.iload_n 3, 1) := by decide +kernel
theorem dX0_holdOn_61 : decode cX0_holdOn 61 = .ok (.aload_n 0, 1) := by decide +kernel
theorem dX0_holdOn_62 : decode cX0_holdOn 62 = .ok (.getfield 9, 3) := by decide +kernel
theorem dX0_holdOn_65 : decode cX0_holdOn 65 = .ok (.isub, 1) := by decide +kernel
theorem dX0_holdOn_66 : decode cX0_holdOn 66 = .ok (.istore_n 3, 1) := by decide +kernel
theorem dX0_holdOn_67 : decode cX0_holdOn 67 = .ok (.iload_n 3, 1) := by decide +kernel
theorem dX0_holdOn_68 : decode cX0_holdOn 68 = .ok (.ifCond .ge 7, 3) := by decide +kernel
theorem dX0_holdOn_71 : decode cX0_holdOn 71 = .ok (.iconst 0, 1) := by decide +kernel
theorem dX0_holdOn_72 : decode cX0_holdOn 72 = .ok (.goto 4, 3) := by decide +kernel
theorem dX0_holdOn_75 : decode cX0_holdOn 75 = .ok (.iload_n 3, 1) := by decide +kernel
theorem dX0_holdOn_76 : decode cX0_holdOn 76 = .ok (.istore 5, 2) := by decide +kernel
theorem dX0_holdOn_78 : decode cX0_holdOn 78 = .ok (.iload 4, 2) := by decide +kernel
theorem dX0_holdOn_80 : decode cX0_holdOn 80 = .ok (.tableswitch 45 3 5 #[28, 35, 40], 28) := by decide +kernel
theorem dX0_holdOn_108 : decode cX0_holdOn 108 = .ok (.iload 5, 2) := by decide +kernel
theorem dX0_holdOn_110 : decode cX0_holdOn 110 = .ok (.iconst 1, 1) := by decide +kernel
theorem dX0_holdOn_111 : decode cX0_holdOn 111 = .ok (.iadd, 1) := by decide +kernel
theorem dX0_holdOn_112 : decode cX0_holdOn 112 = .ok (.iconst 2, 1) := by decide +kernel
theorem dX0_holdOn_113 : decode cX0_holdOn 113 = .ok (.idiv, 1) := by decide +kernel
theorem dX0_holdOn_114 : decode cX0_holdOn 114 = .ok (.ireturn, 1) := by decide +kernel
theorem dX0_holdOn_115 : decode cX0_holdOn 115 = .ok (.iload 5, 2) := by decide +kernel
theorem dX0_holdOn_117 : decode cX0_holdOn 117 = .ok (.iconst 5, 1) := by decide +kernel
theorem dX0_holdOn_118 : decode cX0_holdOn 118 = .ok (.iadd, 1) := by decide +kernel
theorem dX0_holdOn_119 : decode cX0_holdOn 119 = .ok (.ireturn, 1) := by decide +kernel
theorem dX0_holdOn_120 : decode cX0_holdOn 120 = .ok (.iconst 2, 1) := by decide +kernel
theorem dX0_holdOn_121 : decode cX0_holdOn 121 = .ok (.iload 5, 2) := by decide +kernel
theorem dX0_holdOn_123 : decode cX0_holdOn 123 = .ok (.imul, 1) := by decide +kernel
theorem dX0_holdOn_124 : decode cX0_holdOn 124 = .ok (.ireturn, 1) := by decide +kernel
theorem dX0_holdOn_125 : decode cX0_holdOn 125 = .ok (.iload 5, 2) := by decide +kernel
theorem dX0_holdOn_127 : decode cX0_holdOn 127 = .ok (.ireturn, 1) := by decide +kernel
set_option maxRecDepth 100000 in
set_option maxHeartbeats 4000000 in
theorem c_X0_holdOn (Z : ZZ) (l : Launch) (t : Nat) (a1 : Int32) (a2 : Int32) (h : HP) {v : Int32} {h1 : HP} (ho : f_X0_holdOn t a1 a2 h = some (v, h1)) : MetP Z l yX0_holdOn cX0_holdOn 6 (some .int) 0 0 [.ref (zb Z + t), .int a1, .int a2] h (some (.int v)) h1 := by
  refine MetP_of ho (by decide +kernel) (Nat.le_of_ble_eq_true rfl) [(0, .ref (zb Z + t)), (1, .int a1), (2, .int a2)] rfl (own := RX0) rfl (nm := "holdOn") rfl ?_
  unfold f_X0_holdOn
  refine S_aload_n dX0_holdOn_0 rfl 0 rfl (pc' := 1) rfl ?_
  refine S_getR fl_X0_25 rfl dX0_holdOn_1 (pc' := 4) rfl (fun x1 => ?_)
  refine S_iload_n dX0_holdOn_4 rfl 1 rfl (pc' := 5) rfl ?_
  refine S_iaload dX0_holdOn_5 (pc' := 6) rfl (fun x5 => ?_)
  refine S_iload_n dX0_holdOn_6 rfl 2 rfl (pc' := 7) rfl ?_
  refine S_iadd dX0_holdOn_7 (pc' := 8) rfl ?_
  refine S_aload_n dX0_holdOn_8 rfl 0 rfl (pc' := 9) rfl ?_
  refine S_getR fl_X0_28 rfl dX0_holdOn_9 (pc' := 12) rfl (fun x9 => ?_)
  refine S_iload_n dX0_holdOn_12 rfl 1 rfl (pc' := 13) rfl ?_
  refine S_iaload dX0_holdOn_13 (pc' := 14) rfl (fun x13 => ?_)
  refine S_isub dX0_holdOn_14 (pc' := 15) rfl ?_
  refine S_istore_n dX0_holdOn_15 rfl (by decide) (lo' := [(3, .int ((x5 + a2) - x13)), (0, .ref (zb Z + t)), (1, .int a1), (2, .int a2)]) rfl (pc' := 16) rfl ?_
  refine S_aload_n dX0_holdOn_16 rfl 1 rfl (pc' := 17) rfl ?_
  refine S_getR fl_X0_18 rfl dX0_holdOn_17 (pc' := 20) rfl (fun x17 => ?_)
  refine S_iload_n dX0_holdOn_20 rfl 2 rfl (pc' := 21) rfl ?_
  refine S_iaload dX0_holdOn_21 (pc' := 22) rfl (fun x21 => ?_)
  refine S_istore dX0_holdOn_22 (by decide) (lo' := [(4, .int x21), (3, .int ((x5 + a2) - x13)), (0, .ref (zb Z + t)), (1, .int a1), (2, .int a2)]) rfl (pc' := 24) rfl ?_
  refine S_iload dX0_holdOn_24 0 rfl (pc' := 26) rfl ?_
  refine S_iconst dX0_holdOn_26 (v := 1) rfl (pc' := 27) rfl ?_
  refine S_icmp_eq dX0_holdOn_27 36 rfl (pc' := 30) rfl (fun g27 => ?_) (fun g27 => ?_)
  · refine S_iload_n dX0_holdOn_36 rfl 1 rfl (pc' := 37) rfl ?_
    refine S_aload_n dX0_holdOn_37 rfl 2 rfl (pc' := 38) rfl ?_
    refine S_getR fl_X0_22 rfl dX0_holdOn_38 (pc' := 41) rfl (fun x38 => ?_)
    refine S_iload_n dX0_holdOn_41 rfl 3 rfl (pc' := 42) rfl ?_
    refine S_iaload dX0_holdOn_42 (pc' := 43) rfl (fun x42 => ?_)
    refine S_isub dX0_holdOn_43 (pc' := 44) rfl ?_
    refine S_istore_n dX0_holdOn_44 rfl (by decide) (lo' := [(3, .int (((x5 + a2) - x13) - x42)), (4, .int x21), (0, .ref (zb Z + t)), (1, .int a1), (2, .int a2)]) rfl (pc' := 45) rfl ?_
    refine S_goto dX0_holdOn_45 67 rfl ?_
    refine S_iload_n dX0_holdOn_67 rfl 0 rfl (pc' := 68) rfl ?_
    refine S_if_ge dX0_holdOn_68 75 rfl (pc' := 71) rfl (fun g68 => ?_) (fun g68 => ?_)
    · refine S_iload_n dX0_holdOn_75 rfl 0 rfl (pc' := 76) rfl ?_
      refine S_istore dX0_holdOn_76 (by decide) (lo' := [(5, .int (((x5 + a2) - x13) - x42)), (3, .int (((x5 + a2) - x13) - x42)), (4, .int x21), (0, .ref (zb Z + t)), (1, .int a1), (2, .int a2)]) rfl (pc' := 78) rfl ?_
      refine S_iload dX0_holdOn_78 2 rfl (pc' := 80) rfl ?_
      refine Sim.ite (fun g80_0 => ?_) (fun g80_0 => ?_)
      · refine S_tabIn dX0_holdOn_80 g80_0 0 rfl (by decide) (off := 28) rfl 108 rfl ?_
        refine S_iload dX0_holdOn_108 0 rfl (pc' := 110) rfl ?_
        refine S_iconst dX0_holdOn_110 (v := 1) rfl (pc' := 111) rfl ?_
        refine S_iadd dX0_holdOn_111 (pc' := 112) rfl ?_
        refine S_iconst dX0_holdOn_112 (v := 2) rfl (pc' := 113) rfl ?_
        refine S_idiv dX0_holdOn_113 (pc' := 114) rfl ?_
        exact S_iret rfl dX0_holdOn_114
      refine Sim.ite (fun g80_1 => ?_) (fun g80_1 => ?_)
      · refine S_tabIn dX0_holdOn_80 g80_1 1 rfl (by decide) (off := 35) rfl 115 rfl ?_
        refine S_iload dX0_holdOn_115 0 rfl (pc' := 117) rfl ?_
        refine S_iconst dX0_holdOn_117 (v := 5) rfl (pc' := 118) rfl ?_
        refine S_iadd dX0_holdOn_118 (pc' := 119) rfl ?_
        exact S_iret rfl dX0_holdOn_119
      refine Sim.ite (fun g80_2 => ?_) (fun g80_2 => ?_)
      · refine S_tabIn dX0_holdOn_80 g80_2 2 rfl (by decide) (off := 40) rfl 120 rfl ?_
        refine S_iconst dX0_holdOn_120 (v := 2) rfl (pc' := 121) rfl ?_
        refine S_iload dX0_holdOn_121 0 rfl (pc' := 123) rfl ?_
        refine S_imul dX0_holdOn_123 (pc' := 124) rfl ?_
        exact S_iret rfl dX0_holdOn_124
      refine S_tabOut dX0_holdOn_80 (by
          have q0 := i32_ne g80_0
          have q1 := i32_ne g80_1
          have q2 := i32_ne g80_2
          simp only [show Int32.toInt 3 = 3 from rfl, show Int32.toInt 4 = 4 from rfl, show Int32.toInt 5 = 5 from rfl] at q0 q1 q2
          omega) 125 rfl ?_
      refine S_iload dX0_holdOn_125 0 rfl (pc' := 127) rfl ?_
      exact S_iret rfl dX0_holdOn_127
    · refine S_iconst dX0_holdOn_71 (v := 0) rfl (pc' := 72) rfl ?_
      refine S_goto dX0_holdOn_72 76 rfl ?_
      refine S_istore dX0_holdOn_76 (by decide) (lo' := [(5, .int 0), (3, .int (((x5 + a2) - x13) - x42)), (4, .int x21), (0, .ref (zb Z + t)), (1, .int a1), (2, .int a2)]) rfl (pc' := 78) rfl ?_
      refine S_iload dX0_holdOn_78 2 rfl (pc' := 80) rfl ?_
      refine Sim.ite (fun g80_0 => ?_) (fun g80_0 => ?_)
      · refine S_tabIn dX0_holdOn_80 g80_0 0 rfl (by decide) (off := 28) rfl 108 rfl ?_
        refine S_iload dX0_holdOn_108 0 rfl (pc' := 110) rfl ?_
        refine S_iconst dX0_holdOn_110 (v := 1) rfl (pc' := 111) rfl ?_
        refine S_iadd dX0_holdOn_111 (pc' := 112) rfl ?_
        refine S_iconst dX0_holdOn_112 (v := 2) rfl (pc' := 113) rfl ?_
        refine S_idiv dX0_holdOn_113 (pc' := 114) rfl ?_
        exact S_iret rfl dX0_holdOn_114
      refine Sim.ite (fun g80_1 => ?_) (fun g80_1 => ?_)
      · refine S_tabIn dX0_holdOn_80 g80_1 1 rfl (by decide) (off := 35) rfl 115 rfl ?_
        refine S_iload dX0_holdOn_115 0 rfl (pc' := 117) rfl ?_
        refine S_iconst dX0_holdOn_117 (v := 5) rfl (pc' := 118) rfl ?_
        refine S_iadd dX0_holdOn_118 (pc' := 119) rfl ?_
        exact S_iret rfl dX0_holdOn_119
      refine Sim.ite (fun g80_2 => ?_) (fun g80_2 => ?_)
      · refine S_tabIn dX0_holdOn_80 g80_2 2 rfl (by decide) (off := 40) rfl 120 rfl ?_
        refine S_iconst dX0_holdOn_120 (v := 2) rfl (pc' := 121) rfl ?_
        refine S_iload dX0_holdOn_121 0 rfl (pc' := 123) rfl ?_
        refine S_imul dX0_holdOn_123 (pc' := 124) rfl ?_
        exact S_iret rfl dX0_holdOn_124
      refine S_tabOut dX0_holdOn_80 (by
          have q0 := i32_ne g80_0
          have q1 := i32_ne g80_1
          have q2 := i32_ne g80_2
          simp only [show Int32.toInt 3 = 3 from rfl, show Int32.toInt 4 = 4 from rfl, show Int32.toInt 5 = 5 from rfl] at q0 q1 q2
          omega) 125 rfl ?_
      refine S_iload dX0_holdOn_125 0 rfl (pc' := 127) rfl ?_
      exact S_iret rfl dX0_holdOn_127
  · refine S_iload dX0_holdOn_30 0 rfl (pc' := 32) rfl ?_
    refine S_iconst dX0_holdOn_32 (v := 3) rfl (pc' := 33) rfl ?_
    refine S_icmp_ne dX0_holdOn_33 48 rfl (pc' := 36) rfl (fun g33 => ?_) (fun g33 => ?_)
    · refine S_iload dX0_holdOn_48 0 rfl (pc' := 50) rfl ?_
      refine S_iconst dX0_holdOn_50 (v := 2) rfl (pc' := 51) rfl ?_
      refine S_icmp_eq dX0_holdOn_51 60 rfl (pc' := 54) rfl (fun g51 => ?_) (fun g51 => ?_)
      · refine S_iload_n dX0_holdOn_60 rfl 1 rfl (pc' := 61) rfl ?_
        refine S_aload_n dX0_holdOn_61 rfl 2 rfl (pc' := 62) rfl ?_
        refine S_getI fl_X0_9 rfl dX0_holdOn_62 (pc' := 65) rfl (fun x62 => ?_)
        refine S_isub dX0_holdOn_65 (pc' := 66) rfl ?_
        refine S_istore_n dX0_holdOn_66 rfl (by decide) (lo' := [(3, .int (((x5 + a2) - x13) - x62)), (4, .int x21), (0, .ref (zb Z + t)), (1, .int a1), (2, .int a2)]) rfl (pc' := 67) rfl ?_
        refine S_iload_n dX0_holdOn_67 rfl 0 rfl (pc' := 68) rfl ?_
        refine S_if_ge dX0_holdOn_68 75 rfl (pc' := 71) rfl (fun g68 => ?_) (fun g68 => ?_)
        · refine S_iload_n dX0_holdOn_75 rfl 0 rfl (pc' := 76) rfl ?_
          refine S_istore dX0_holdOn_76 (by decide) (lo' := [(5, .int (((x5 + a2) - x13) - x62)), (3, .int (((x5 + a2) - x13) - x62)), (4, .int x21), (0, .ref (zb Z + t)), (1, .int a1), (2, .int a2)]) rfl (pc' := 78) rfl ?_
          refine S_iload dX0_holdOn_78 2 rfl (pc' := 80) rfl ?_
          refine Sim.ite (fun g80_0 => ?_) (fun g80_0 => ?_)
          · refine S_tabIn dX0_holdOn_80 g80_0 0 rfl (by decide) (off := 28) rfl 108 rfl ?_
            refine S_iload dX0_holdOn_108 0 rfl (pc' := 110) rfl ?_
            refine S_iconst dX0_holdOn_110 (v := 1) rfl (pc' := 111) rfl ?_
            refine S_iadd dX0_holdOn_111 (pc' := 112) rfl ?_
            refine S_iconst dX0_holdOn_112 (v := 2) rfl (pc' := 113) rfl ?_
            refine S_idiv dX0_holdOn_113 (pc' := 114) rfl ?_
            exact S_iret rfl dX0_holdOn_114
          refine Sim.ite (fun g80_1 => ?_) (fun g80_1 => ?_)
          · refine S_tabIn dX0_holdOn_80 g80_1 1 rfl (by decide) (off := 35) rfl 115 rfl ?_
            refine S_iload dX0_holdOn_115 0 rfl (pc' := 117) rfl ?_
            refine S_iconst dX0_holdOn_117 (v := 5) rfl (pc' := 118) rfl ?_
            refine S_iadd dX0_holdOn_118 (pc' := 119) rfl ?_
            exact S_iret rfl dX0_holdOn_119
          refine Sim.ite (fun g80_2 => ?_) (fun g80_2 => ?_)
          · refine S_tabIn dX0_holdOn_80 g80_2 2 rfl (by decide) (off := 40) rfl 120 rfl ?_
            refine S_iconst dX0_holdOn_120 (v := 2) rfl (pc' := 121) rfl ?_
            refine S_iload dX0_holdOn_121 0 rfl (pc' := 123) rfl ?_
            refine S_imul dX0_holdOn_123 (pc' := 124) rfl ?_
            exact S_iret rfl dX0_holdOn_124
          refine S_tabOut dX0_holdOn_80 (by
              have q0 := i32_ne g80_0
              have q1 := i32_ne g80_1
              have q2 := i32_ne g80_2
              simp only [show Int32.toInt 3 = 3 from rfl, show Int32.toInt 4 = 4 from rfl, show Int32.toInt 5 = 5 from rfl] at q0 q1 q2
              omega) 125 rfl ?_
          refine S_iload dX0_holdOn_125 0 rfl (pc' := 127) rfl ?_
          exact S_iret rfl dX0_holdOn_127
        · refine S_iconst dX0_holdOn_71 (v := 0) rfl (pc' := 72) rfl ?_
          refine S_goto dX0_holdOn_72 76 rfl ?_
          refine S_istore dX0_holdOn_76 (by decide) (lo' := [(5, .int 0), (3, .int (((x5 + a2) - x13) - x62)), (4, .int x21), (0, .ref (zb Z + t)), (1, .int a1), (2, .int a2)]) rfl (pc' := 78) rfl ?_
          refine S_iload dX0_holdOn_78 2 rfl (pc' := 80) rfl ?_
          refine Sim.ite (fun g80_0 => ?_) (fun g80_0 => ?_)
          · refine S_tabIn dX0_holdOn_80 g80_0 0 rfl (by decide) (off := 28) rfl 108 rfl ?_
            refine S_iload dX0_holdOn_108 0 rfl (pc' := 110) rfl ?_
            refine S_iconst dX0_holdOn_110 (v := 1) rfl (pc' := 111) rfl ?_
            refine S_iadd dX0_holdOn_111 (pc' := 112) rfl ?_
            refine S_iconst dX0_holdOn_112 (v := 2) rfl (pc' := 113) rfl ?_
            refine S_idiv dX0_holdOn_113 (pc' := 114) rfl ?_
            exact S_iret rfl dX0_holdOn_114
          refine Sim.ite (fun g80_1 => ?_) (fun g80_1 => ?_)
          · refine S_tabIn dX0_holdOn_80 g80_1 1 rfl (by decide) (off := 35) rfl 115 rfl ?_
            refine S_iload dX0_holdOn_115 0 rfl (pc' := 117) rfl ?_
            refine S_iconst dX0_holdOn_117 (v := 5) rfl (pc' := 118) rfl ?_
            refine S_iadd dX0_holdOn_118 (pc' := 119) rfl ?_
            exact S_iret rfl dX0_holdOn_119
          refine Sim.ite (fun g80_2 => ?_) (fun g80_2 => ?_)
          · refine S_tabIn dX0_holdOn_80 g80_2 2 rfl (by decide) (off := 40) rfl 120 rfl ?_
            refine S_iconst dX0_holdOn_120 (v := 2) rfl (pc' := 121) rfl ?_
            refine S_iload dX0_holdOn_121 0 rfl (pc' := 123) rfl ?_
            refine S_imul dX0_holdOn_123 (pc' := 124) rfl ?_
            exact S_iret rfl dX0_holdOn_124
          refine S_tabOut dX0_holdOn_80 (by
              have q0 := i32_ne g80_0
              have q1 := i32_ne g80_1
              have q2 := i32_ne g80_2
              simp only [show Int32.toInt 3 = 3 from rfl, show Int32.toInt 4 = 4 from rfl, show Int32.toInt 5 = 5 from rfl] at q0 q1 q2
              omega) 125 rfl ?_
          refine S_iload dX0_holdOn_125 0 rfl (pc' := 127) rfl ?_
          exact S_iret rfl dX0_holdOn_127
      · refine S_iload dX0_holdOn_54 0 rfl (pc' := 56) rfl ?_
        refine S_iconst dX0_holdOn_56 (v := 4) rfl (pc' := 57) rfl ?_
        refine S_icmp_ne dX0_holdOn_57 67 rfl (pc' := 60) rfl (fun g57 => ?_) (fun g57 => ?_)
        · refine S_iload_n dX0_holdOn_67 rfl 1 rfl (pc' := 68) rfl ?_
          refine S_if_ge dX0_holdOn_68 75 rfl (pc' := 71) rfl (fun g68 => ?_) (fun g68 => ?_)
          · refine S_iload_n dX0_holdOn_75 rfl 1 rfl (pc' := 76) rfl ?_
            refine S_istore dX0_holdOn_76 (by decide) (lo' := [(5, .int ((x5 + a2) - x13)), (4, .int x21), (3, .int ((x5 + a2) - x13)), (0, .ref (zb Z + t)), (1, .int a1), (2, .int a2)]) rfl (pc' := 78) rfl ?_
            refine S_iload dX0_holdOn_78 1 rfl (pc' := 80) rfl ?_
            refine Sim.ite (fun g80_0 => ?_) (fun g80_0 => ?_)
            · refine S_tabIn dX0_holdOn_80 g80_0 0 rfl (by decide) (off := 28) rfl 108 rfl ?_
              refine S_iload dX0_holdOn_108 0 rfl (pc' := 110) rfl ?_
              refine S_iconst dX0_holdOn_110 (v := 1) rfl (pc' := 111) rfl ?_
              refine S_iadd dX0_holdOn_111 (pc' := 112) rfl ?_
              refine S_iconst dX0_holdOn_112 (v := 2) rfl (pc' := 113) rfl ?_
              refine S_idiv dX0_holdOn_113 (pc' := 114) rfl ?_
              exact S_iret rfl dX0_holdOn_114
            refine Sim.ite (fun g80_1 => ?_) (fun g80_1 => ?_)
            · refine S_tabIn dX0_holdOn_80 g80_1 1 rfl (by decide) (off := 35) rfl 115 rfl ?_
              refine S_iload dX0_holdOn_115 0 rfl (pc' := 117) rfl ?_
              refine S_iconst dX0_holdOn_117 (v := 5) rfl (pc' := 118) rfl ?_
              refine S_iadd dX0_holdOn_118 (pc' := 119) rfl ?_
              exact S_iret rfl dX0_holdOn_119
            refine Sim.ite (fun g80_2 => ?_) (fun g80_2 => ?_)
            · refine S_tabIn dX0_holdOn_80 g80_2 2 rfl (by decide) (off := 40) rfl 120 rfl ?_
              refine S_iconst dX0_holdOn_120 (v := 2) rfl (pc' := 121) rfl ?_
              refine S_iload dX0_holdOn_121 0 rfl (pc' := 123) rfl ?_
              refine S_imul dX0_holdOn_123 (pc' := 124) rfl ?_
              exact S_iret rfl dX0_holdOn_124
            refine S_tabOut dX0_holdOn_80 (by
                have q0 := i32_ne g80_0
                have q1 := i32_ne g80_1
                have q2 := i32_ne g80_2
                simp only [show Int32.toInt 3 = 3 from rfl, show Int32.toInt 4 = 4 from rfl, show Int32.toInt 5 = 5 from rfl] at q0 q1 q2
                omega) 125 rfl ?_
            refine S_iload dX0_holdOn_125 0 rfl (pc' := 127) rfl ?_
            exact S_iret rfl dX0_holdOn_127
          · refine S_iconst dX0_holdOn_71 (v := 0) rfl (pc' := 72) rfl ?_
            refine S_goto dX0_holdOn_72 76 rfl ?_
            refine S_istore dX0_holdOn_76 (by decide) (lo' := [(5, .int 0), (4, .int x21), (3, .int ((x5 + a2) - x13)), (0, .ref (zb Z + t)), (1, .int a1), (2, .int a2)]) rfl (pc' := 78) rfl ?_
            refine S_iload dX0_holdOn_78 1 rfl (pc' := 80) rfl ?_
            refine Sim.ite (fun g80_0 => ?_) (fun g80_0 => ?_)
            · refine S_tabIn dX0_holdOn_80 g80_0 0 rfl (by decide) (off := 28) rfl 108 rfl ?_
              refine S_iload dX0_holdOn_108 0 rfl (pc' := 110) rfl ?_
              refine S_iconst dX0_holdOn_110 (v := 1) rfl (pc' := 111) rfl ?_
              refine S_iadd dX0_holdOn_111 (pc' := 112) rfl ?_
              refine S_iconst dX0_holdOn_112 (v := 2) rfl (pc' := 113) rfl ?_
              refine S_idiv dX0_holdOn_113 (pc' := 114) rfl ?_
              exact S_iret rfl dX0_holdOn_114
            refine Sim.ite (fun g80_1 => ?_) (fun g80_1 => ?_)
            · refine S_tabIn dX0_holdOn_80 g80_1 1 rfl (by decide) (off := 35) rfl 115 rfl ?_
              refine S_iload dX0_holdOn_115 0 rfl (pc' := 117) rfl ?_
              refine S_iconst dX0_holdOn_117 (v := 5) rfl (pc' := 118) rfl ?_
              refine S_iadd dX0_holdOn_118 (pc' := 119) rfl ?_
              exact S_iret rfl dX0_holdOn_119
            refine Sim.ite (fun g80_2 => ?_) (fun g80_2 => ?_)
            · refine S_tabIn dX0_holdOn_80 g80_2 2 rfl (by decide) (off := 40) rfl 120 rfl ?_
              refine S_iconst dX0_holdOn_120 (v := 2) rfl (pc' := 121) rfl ?_
              refine S_iload dX0_holdOn_121 0 rfl (pc' := 123) rfl ?_
              refine S_imul dX0_holdOn_123 (pc' := 124) rfl ?_
              exact S_iret rfl dX0_holdOn_124
            refine S_tabOut dX0_holdOn_80 (by
                have q0 := i32_ne g80_0
                have q1 := i32_ne g80_1
                have q2 := i32_ne g80_2
                simp only [show Int32.toInt 3 = 3 from rfl, show Int32.toInt 4 = 4 from rfl, show Int32.toInt 5 = 5 from rfl] at q0 q1 q2
                omega) 125 rfl ?_
            refine S_iload dX0_holdOn_125 0 rfl (pc' := 127) rfl ?_
            exact S_iret rfl dX0_holdOn_127
        · refine S_iload_n dX0_holdOn_60 rfl 1 rfl (pc' := 61) rfl ?_
          refine S_aload_n dX0_holdOn_61 rfl 2 rfl (pc' := 62) rfl ?_
          refine S_getI fl_X0_9 rfl dX0_holdOn_62 (pc' := 65) rfl (fun x62 => ?_)
          refine S_isub dX0_holdOn_65 (pc' := 66) rfl ?_
          refine S_istore_n dX0_holdOn_66 rfl (by decide) (lo' := [(3, .int (((x5 + a2) - x13) - x62)), (4, .int x21), (0, .ref (zb Z + t)), (1, .int a1), (2, .int a2)]) rfl (pc' := 67) rfl ?_
          refine S_iload_n dX0_holdOn_67 rfl 0 rfl (pc' := 68) rfl ?_
          refine S_if_ge dX0_holdOn_68 75 rfl (pc' := 71) rfl (fun g68 => ?_) (fun g68 => ?_)
          · refine S_iload_n dX0_holdOn_75 rfl 0 rfl (pc' := 76) rfl ?_
            refine S_istore dX0_holdOn_76 (by decide) (lo' := [(5, .int (((x5 + a2) - x13) - x62)), (3, .int (((x5 + a2) - x13) - x62)), (4, .int x21), (0, .ref (zb Z + t)), (1, .int a1), (2, .int a2)]) rfl (pc' := 78) rfl ?_
            refine S_iload dX0_holdOn_78 2 rfl (pc' := 80) rfl ?_
            refine Sim.ite (fun g80_0 => ?_) (fun g80_0 => ?_)
            · refine S_tabIn dX0_holdOn_80 g80_0 0 rfl (by decide) (off := 28) rfl 108 rfl ?_
              refine S_iload dX0_holdOn_108 0 rfl (pc' := 110) rfl ?_
              refine S_iconst dX0_holdOn_110 (v := 1) rfl (pc' := 111) rfl ?_
              refine S_iadd dX0_holdOn_111 (pc' := 112) rfl ?_
              refine S_iconst dX0_holdOn_112 (v := 2) rfl (pc' := 113) rfl ?_
              refine S_idiv dX0_holdOn_113 (pc' := 114) rfl ?_
              exact S_iret rfl dX0_holdOn_114
            refine Sim.ite (fun g80_1 => ?_) (fun g80_1 => ?_)
            · refine S_tabIn dX0_holdOn_80 g80_1 1 rfl (by decide) (off := 35) rfl 115 rfl ?_
              refine S_iload dX0_holdOn_115 0 rfl (pc' := 117) rfl ?_
              refine S_iconst dX0_holdOn_117 (v := 5) rfl (pc' := 118) rfl ?_
              refine S_iadd dX0_holdOn_118 (pc' := 119) rfl ?_
              exact S_iret rfl dX0_holdOn_119
            refine Sim.ite (fun g80_2 => ?_) (fun g80_2 => ?_)
            · refine S_tabIn dX0_holdOn_80 g80_2 2 rfl (by decide) (off := 40) rfl 120 rfl ?_
              refine S_iconst dX0_holdOn_120 (v := 2) rfl (pc' := 121) rfl ?_
              refine S_iload dX0_holdOn_121 0 rfl (pc' := 123) rfl ?_
              refine S_imul dX0_holdOn_123 (pc' := 124) rfl ?_
              exact S_iret rfl dX0_holdOn_124
            refine S_tabOut dX0_holdOn_80 (by
                have q0 := i32_ne g80_0
                have q1 := i32_ne g80_1
                have q2 := i32_ne g80_2
                simp only [show Int32.toInt 3 = 3 from rfl, show Int32.toInt 4 = 4 from rfl, show Int32.toInt 5 = 5 from rfl] at q0 q1 q2
                omega) 125 rfl ?_
            refine S_iload dX0_holdOn_125 0 rfl (pc' := 127) rfl ?_
            exact S_iret rfl dX0_holdOn_127
          · refine S_iconst dX0_holdOn_71 (v := 0) rfl (pc' := 72) rfl ?_
            refine S_goto dX0_holdOn_72 76 rfl ?_
            refine S_istore dX0_holdOn_76 (by decide) (lo' := [(5, .int 0), (3, .int (((x5 + a2) - x13) - x62)), (4, .int x21), (0, .ref (zb Z + t)), (1, .int a1), (2, .int a2)]) rfl (pc' := 78) rfl ?_
            refine S_iload dX0_holdOn_78 2 rfl (pc' := 80) rfl ?_
            refine Sim.ite (fun g80_0 => ?_) (fun g80_0 => ?_)
            · refine S_tabIn dX0_holdOn_80 g80_0 0 rfl (by decide) (off := 28) rfl 108 rfl ?_
              refine S_iload dX0_holdOn_108 0 rfl (pc' := 110) rfl ?_
              refine S_iconst dX0_holdOn_110 (v := 1) rfl (pc' := 111) rfl ?_
              refine S_iadd dX0_holdOn_111 (pc' := 112) rfl ?_
              refine S_iconst dX0_holdOn_112 (v := 2) rfl (pc' := 113) rfl ?_
              refine S_idiv dX0_holdOn_113 (pc' := 114) rfl ?_
              exact S_iret rfl dX0_holdOn_114
            refine Sim.ite (fun g80_1 => ?_) (fun g80_1 => ?_)
            · refine S_tabIn dX0_holdOn_80 g80_1 1 rfl (by decide) (off := 35) rfl 115 rfl ?_
              refine S_iload dX0_holdOn_115 0 rfl (pc' := 117) rfl ?_
              refine S_iconst dX0_holdOn_117 (v := 5) rfl (pc' := 118) rfl ?_
              refine S_iadd dX0_holdOn_118 (pc' := 119) rfl ?_
              exact S_iret rfl dX0_holdOn_119
            refine Sim.ite (fun g80_2 => ?_) (fun g80_2 => ?_)
            · refine S_tabIn dX0_holdOn_80 g80_2 2 rfl (by decide) (off := 40) rfl 120 rfl ?_
              refine S_iconst dX0_holdOn_120 (v := 2) rfl (pc' := 121) rfl ?_
              refine S_iload dX0_holdOn_121 0 rfl (pc' := 123) rfl ?_
              refine S_imul dX0_holdOn_123 (pc' := 124) rfl ?_
              exact S_iret rfl dX0_holdOn_124
            refine S_tabOut dX0_holdOn_80 (by
                have q0 := i32_ne g80_0
                have q1 := i32_ne g80_1
                have q2 := i32_ne g80_2
                simp only [show Int32.toInt 3 = 3 from rfl, show Int32.toInt 4 = 4 from rfl, show Int32.toInt 5 = 5 from rfl] at q0 q1 q2
                omega) 125 rfl ?_
            refine S_iload dX0_holdOn_125 0 rfl (pc' := 127) rfl ?_
            exact S_iret rfl dX0_holdOn_127
    · refine S_iload_n dX0_holdOn_36 rfl 1 rfl (pc' := 37) rfl ?_
      refine S_aload_n dX0_holdOn_37 rfl 2 rfl (pc' := 38) rfl ?_
      refine S_getR fl_X0_22 rfl dX0_holdOn_38 (pc' := 41) rfl (fun x38 => ?_)
      refine S_iload_n dX0_holdOn_41 rfl 3 rfl (pc' := 42) rfl ?_
      refine S_iaload dX0_holdOn_42 (pc' := 43) rfl (fun x42 => ?_)
      refine S_isub dX0_holdOn_43 (pc' := 44) rfl ?_
      refine S_istore_n dX0_holdOn_44 rfl (by decide) (lo' := [(3, .int (((x5 + a2) - x13) - x42)), (4, .int x21), (0, .ref (zb Z + t)), (1, .int a1), (2, .int a2)]) rfl (pc' := 45) rfl ?_
      refine S_goto dX0_holdOn_45 67 rfl ?_
      refine S_iload_n dX0_holdOn_67 rfl 0 rfl (pc' := 68) rfl ?_
      refine S_if_ge dX0_holdOn_68 75 rfl (pc' := 71) rfl (fun g68 => ?_) (fun g68 => ?_)
      · refine S_iload_n dX0_holdOn_75 rfl 0 rfl (pc' := 76) rfl ?_
        refine S_istore dX0_holdOn_76 (by decide) (lo' := [(5, .int (((x5 + a2) - x13) - x42)), (3, .int (((x5 + a2) - x13) - x42)), (4, .int x21), (0, .ref (zb Z + t)), (1, .int a1), (2, .int a2)]) rfl (pc' := 78) rfl ?_
        refine S_iload dX0_holdOn_78 2 rfl (pc' := 80) rfl ?_
        refine Sim.ite (fun g80_0 => ?_) (fun g80_0 => ?_)
        · refine S_tabIn dX0_holdOn_80 g80_0 0 rfl (by decide) (off := 28) rfl 108 rfl ?_
          refine S_iload dX0_holdOn_108 0 rfl (pc' := 110) rfl ?_
          refine S_iconst dX0_holdOn_110 (v := 1) rfl (pc' := 111) rfl ?_
          refine S_iadd dX0_holdOn_111 (pc' := 112) rfl ?_
          refine S_iconst dX0_holdOn_112 (v := 2) rfl (pc' := 113) rfl ?_
          refine S_idiv dX0_holdOn_113 (pc' := 114) rfl ?_
          exact S_iret rfl dX0_holdOn_114
        refine Sim.ite (fun g80_1 => ?_) (fun g80_1 => ?_)
        · refine S_tabIn dX0_holdOn_80 g80_1 1 rfl (by decide) (off := 35) rfl 115 rfl ?_
          refine S_iload dX0_holdOn_115 0 rfl (pc' := 117) rfl ?_
          refine S_iconst dX0_holdOn_117 (v := 5) rfl (pc' := 118) rfl ?_
          refine S_iadd dX0_holdOn_118 (pc' := 119) rfl ?_
          exact S_iret rfl dX0_holdOn_119
        refine Sim.ite (fun g80_2 => ?_) (fun g80_2 => ?_)
        · refine S_tabIn dX0_holdOn_80 g80_2 2 rfl (by decide) (off := 40) rfl 120 rfl ?_
          refine S_iconst dX0_holdOn_120 (v := 2) rfl (pc' := 121) rfl ?_
          refine S_iload dX0_holdOn_121 0 rfl (pc' := 123) rfl ?_
          refine S_imul dX0_holdOn_123 (pc' := 124) rfl ?_
          exact S_iret rfl dX0_holdOn_124
        refine S_tabOut dX0_holdOn_80 (by
            have q0 := i32_ne g80_0
            have q1 := i32_ne g80_1
            have q2 := i32_ne g80_2
            simp only [show Int32.toInt 3 = 3 from rfl, show Int32.toInt 4 = 4 from rfl, show Int32.toInt 5 = 5 from rfl] at q0 q1 q2
            omega) 125 rfl ?_
        refine S_iload dX0_holdOn_125 0 rfl (pc' := 127) rfl ?_
        exact S_iret rfl dX0_holdOn_127
      · refine S_iconst dX0_holdOn_71 (v := 0) rfl (pc' := 72) rfl ?_
        refine S_goto dX0_holdOn_72 76 rfl ?_
        refine S_istore dX0_holdOn_76 (by decide) (lo' := [(5, .int 0), (3, .int (((x5 + a2) - x13) - x42)), (4, .int x21), (0, .ref (zb Z + t)), (1, .int a1), (2, .int a2)]) rfl (pc' := 78) rfl ?_
        refine S_iload dX0_holdOn_78 2 rfl (pc' := 80) rfl ?_
        refine Sim.ite (fun g80_0 => ?_) (fun g80_0 => ?_)
        · refine S_tabIn dX0_holdOn_80 g80_0 0 rfl (by decide) (off := 28) rfl 108 rfl ?_
          refine S_iload dX0_holdOn_108 0 rfl (pc' := 110) rfl ?_
          refine S_iconst dX0_holdOn_110 (v := 1) rfl (pc' := 111) rfl ?_
          refine S_iadd dX0_holdOn_111 (pc' := 112) rfl ?_
          refine S_iconst dX0_holdOn_112 (v := 2) rfl (pc' := 113) rfl ?_
          refine S_idiv dX0_holdOn_113 (pc' := 114) rfl ?_
          exact S_iret rfl dX0_holdOn_114
        refine Sim.ite (fun g80_1 => ?_) (fun g80_1 => ?_)
        · refine S_tabIn dX0_holdOn_80 g80_1 1 rfl (by decide) (off := 35) rfl 115 rfl ?_
          refine S_iload dX0_holdOn_115 0 rfl (pc' := 117) rfl ?_
          refine S_iconst dX0_holdOn_117 (v := 5) rfl (pc' := 118) rfl ?_
          refine S_iadd dX0_holdOn_118 (pc' := 119) rfl ?_
          exact S_iret rfl dX0_holdOn_119
        refine Sim.ite (fun g80_2 => ?_) (fun g80_2 => ?_)
        · refine S_tabIn dX0_holdOn_80 g80_2 2 rfl (by decide) (off := 40) rfl 120 rfl ?_
          refine S_iconst dX0_holdOn_120 (v := 2) rfl (pc' := 121) rfl ?_
          refine S_iload dX0_holdOn_121 0 rfl (pc' := 123) rfl ?_
          refine S_imul dX0_holdOn_123 (pc' := 124) rfl ?_
          exact S_iret rfl dX0_holdOn_124
        refine S_tabOut dX0_holdOn_80 (by
            have q0 := i32_ne g80_0
            have q1 := i32_ne g80_1
            have q2 := i32_ne g80_2
            simp only [show Int32.toInt 3 = 3 from rfl, show Int32.toInt 4 = 4 from rfl, show Int32.toInt 5 = 5 from rfl] at q0 q1 q2
            omega) 125 rfl ?_
        refine S_iload dX0_holdOn_125 0 rfl (pc' := 127) rfl ?_
        exact S_iret rfl dX0_holdOn_127
theorem dX0_havers_0 : decode cX0_havers 0 = .ok (.iconst 0, 1) := by decide +kernel
theorem dX0_havers_1 : decode cX0_havers 1 = .ok (.istore_n 2, 1) := by decide +kernel
theorem dX0_havers_2 : decode cX0_havers 2 = .ok (.iconst 0, 1) := by decide +kernel
theorem dX0_havers_3 : decode cX0_havers 3 = .ok (.istore_n 3, 1) := by decide +kernel
theorem dX0_havers_4 : decode cX0_havers 4 = .ok (.iload_n 3, 1) := by decide +kernel
theorem dX0_havers_5 : decode cX0_havers 5 = .ok (.aload_n 0, 1) := by decide +kernel
theorem dX0_havers_6 : decode cX0_havers 6 = .ok (.getfield 49, 3) := by decide +kernel
theorem dX0_havers_9 : decode cX0_havers 9 = .ok (.if_icmp .ge 25, 3) := by decide +kernel
theorem dX0_havers_12 : decode cX0_havers 12 = .ok (.aload_n 0, 1) := by decide +kernel
theorem dX0_havers_13 : decode cX0_havers 13 = .ok (.iload_n 3, 1) := by decide +kernel
theorem dX0_havers_14 : decode cX0_havers 14 = .ok (.iload_n 1, 1) := by decide +kernel
theorem dX0_havers_15 : decode cX0_havers 15 = .ok (.invokevirtual 83, 3) := by decide +kernel
theorem dX0_havers_18 : decode cX0_havers 18 = .ok (.iconst (-1), 1) := by decide +kernel
theorem dX0_havers_19 : decode cX0_havers 19 = .ok (.if_icmp .eq 9, 3) := by decide +kernel
theorem dX0_havers_22 : decode cX0_havers 22 = .ok (.iload_n 2, 1) := by decide +kernel
theorem dX0_havers_23 : decode cX0_havers 23 = .ok (.iconst 1, 1) := by decide +kernel
theorem dX0_havers_24 : decode cX0_havers 24 = .ok (.iload_n 3, 1) := by decide +kernel
theorem dX0_havers_25 : decode cX0_havers 25 = .ok (.ishl, 1) := by decide +kernel
theorem dX0_havers_26 : decode cX0_havers 26 = .ok (.ior, 1) := by decide +kernel
theorem dX0_havers_27 : decode cX0_havers 27 = .ok (.istore_n 2, 1) := by decide +kernel
theorem dX0_havers_28 : decode cX0_havers 28 = .ok (.iinc 3 1, 3) := by decide +kernel
theorem dX0_havers_31 : decode cX0_havers 31 = .ok (.goto (-27), 3) := by decide +kernel
theorem dX0_havers_34 : decode cX0_havers 34 = .ok (.iload_n 2, 1) := by decide +kernel
theorem dX0_havers_35 : decode cX0_havers 35 = .ok (.ireturn, 1) := by decide +kernel
set_option maxRecDepth 100000 in
set_option maxHeartbeats 4000000 in
theorem lc_X0_havers_4 (Z : ZZ) (l : Launch) (a0 : Nat) (a1 : Int32) {args : Array Value} {h0 h1 : HP} {v0 : Int32} (K : Int32 → HP → Option (Int32 × HP)) (F : Int32 → Int32 → HP → Option (Int32 × HP))
    (hK : ∀ (b2 : Int32) (h : HP), Sim Z l cX0_havers RX0 4 1 22 (some .int) "havers" args (Mq Z args h0 h1 (some (.int v0))) h0 h1 v0 34 [(2, .int b2)] [] h (K b2 h))
    (hF : ∀ (b2 : Int32) (b3 : Int32) (h : HP), Sim Z l cX0_havers RX0 4 1 22 (some .int) "havers" args (Mq Z args h0 h1 (some (.int v0))) h0 h1 v0 4 [(0, .ref (zb Z + a0)), (1, .int a1), (2, .int b2), (3, .int b3)] [] h (F b2 b3 h)) :
    ∀ (b2 : Int32) (b3 : Int32) (h : HP), Sim Z l cX0_havers RX0 4 1 22 (some .int) "havers" args (Mq Z args h0 h1 (some (.int v0))) h0 h1 v0 4 [(0, .ref (zb Z + a0)), (1, .int a1), (2, .int b2), (3, .int b3)] [] h (lb_X0_havers_4 a0 a1 K F b2 b3 h) := by
  intro b2 b3 h
  unfold lb_X0_havers_4
  refine S_iload_n dX0_havers_4 rfl 3 rfl (pc' := 5) rfl ?_
  refine S_aload_n dX0_havers_5 rfl 0 rfl (pc' := 6) rfl ?_
  refine S_getI fl_X0_49 rfl dX0_havers_6 (pc' := 9) rfl (fun x6 => ?_)
  refine S_icmp_ge dX0_havers_9 34 rfl (pc' := 12) rfl (fun g9 => ?_) (fun g9 => ?_)
  · refine Sim.sub [2] rfl ?_
    exact hK _ _
  · refine S_aload_n dX0_havers_12 rfl 0 rfl (pc' := 13) rfl ?_
    refine S_iload_n dX0_havers_13 rfl 3 rfl (pc' := 14) rfl ?_
    refine S_iload_n dX0_havers_14 rfl 1 rfl (pc' := 15) rfl ?_
    refine S_invi ml_X0_83 mi_X0_heldFor (ci := 0) ⟨_, rfl, rfl⟩ (by decide) dX0_havers_15 [.int b3, .int a1] rfl (fun v h2 q => c_X0_heldFor Z l _ _ _ _ q) ⟨Nat.le_of_ble_eq_true rfl, Nat.le_of_ble_eq_true rfl⟩ (rest := []) (Nat.le_of_ble_eq_true rfl) rfl (pc' := 18) rfl (fun x15 h15 => ?_)
    refine S_iconst dX0_havers_18 (v := (-1)) rfl (pc' := 19) rfl ?_
    refine S_icmp_eq dX0_havers_19 28 rfl (pc' := 22) rfl (fun g19 => ?_) (fun g19 => ?_)
    · refine S_iinc dX0_havers_28 (q := 3) rfl (v := b3 + 1) rfl (by decide) (lo' := [(3, .int (b3 + 1)), (0, .ref (zb Z + a0)), (1, .int a1), (2, .int b2)]) rfl (pc' := 31) rfl ?_
      refine S_goto dX0_havers_31 4 rfl ?_
      refine Sim.sub [1, 2, 3, 0] rfl ?_
      exact hF _ _ _
    · refine S_iload_n dX0_havers_22 rfl 2 rfl (pc' := 23) rfl ?_
      refine S_iconst dX0_havers_23 (v := 1) rfl (pc' := 24) rfl ?_
      refine S_iload_n dX0_havers_24 rfl 3 rfl (pc' := 25) rfl ?_
      refine S_ishl dX0_havers_25 (pc' := 26) rfl ?_
      refine S_ior dX0_havers_26 (pc' := 27) rfl ?_
      refine S_istore_n dX0_havers_27 rfl (by decide) (lo' := [(2, .int (b2 ||| (1 <<< (b3 &&& 31)))), (0, .ref (zb Z + a0)), (1, .int a1), (3, .int b3)]) rfl (pc' := 28) rfl ?_
      refine S_iinc dX0_havers_28 (q := 3) rfl (v := b3 + 1) rfl (by decide) (lo' := [(3, .int (b3 + 1)), (2, .int (b2 ||| (1 <<< (b3 &&& 31)))), (0, .ref (zb Z + a0)), (1, .int a1)]) rfl (pc' := 31) rfl ?_
      refine S_goto dX0_havers_31 4 rfl ?_
      refine Sim.sub [2, 3, 1, 0] rfl ?_
      exact hF _ _ _
theorem lq_X0_havers_4 (Z : ZZ) (l : Launch) (a0 : Nat) (a1 : Int32) {args : Array Value} {h0 h1 : HP} {v0 : Int32} (K : Int32 → HP → Option (Int32 × HP))
    (hK : ∀ (b2 : Int32) (h : HP), Sim Z l cX0_havers RX0 4 1 22 (some .int) "havers" args (Mq Z args h0 h1 (some (.int v0))) h0 h1 v0 34 [(2, .int b2)] [] h (K b2 h)) :
    ∀ (k : Nat) (b2 : Int32) (b3 : Int32) (h : HP), Sim Z l cX0_havers RX0 4 1 22 (some .int) "havers" args (Mq Z args h0 h1 (some (.int v0))) h0 h1 v0 4 [(0, .ref (zb Z + a0)), (1, .int a1), (2, .int b2), (3, .int b3)] [] h (lp_X0_havers_4 a0 a1 K k b2 b3 h) := by
  intro k
  induction k with
  | zero => exact fun _ _ _ => Sim.none
  | succ k ih => exact lc_X0_havers_4 Z l a0 a1 K _ hK ih
set_option maxRecDepth 100000 in
set_option maxHeartbeats 4000000 in
theorem c_X0_havers (Z : ZZ) (l : Launch) (t : Nat) (a1 : Int32) (h : HP) {v : Int32} {h1 : HP} (ho : f_X0_havers t a1 h = some (v, h1)) : MetP Z l yX0_havers cX0_havers 4 (some .int) 1 22 [.ref (zb Z + t), .int a1] h (some (.int v)) h1 := by
  refine MetP_of ho (by decide +kernel) (Nat.le_of_ble_eq_true rfl) [(0, .ref (zb Z + t)), (1, .int a1)] rfl (own := RX0) rfl (nm := "havers") rfl ?_
  unfold f_X0_havers
  refine S_iconst dX0_havers_0 (v := 0) rfl (pc' := 1) rfl ?_
  refine S_istore_n dX0_havers_1 rfl (by decide) (lo' := [(2, .int 0), (0, .ref (zb Z + t)), (1, .int a1)]) rfl (pc' := 2) rfl ?_
  refine S_iconst dX0_havers_2 (v := 0) rfl (pc' := 3) rfl ?_
  refine S_istore_n dX0_havers_3 rfl (by decide) (lo' := [(3, .int 0), (2, .int 0), (0, .ref (zb Z + t)), (1, .int a1)]) rfl (pc' := 4) rfl ?_
  refine Sim.sub [2, 3, 1, 0] rfl ?_
  refine lq_X0_havers_4 Z l t a1 _ ?_ 1000 _ _ _
  intro b2_4 h4_
  refine S_iload_n dX0_havers_34 rfl 0 rfl (pc' := 35) rfl ?_
  exact S_iret rfl dX0_havers_35
theorem dX0_repertoire_0 : decode cX0_repertoire 0 = .ok (.iconst 0, 1) := by decide +kernel
theorem dX0_repertoire_1 : decode cX0_repertoire 1 = .ok (.istore_n 2, 1) := by decide +kernel
theorem dX0_repertoire_2 : decode cX0_repertoire 2 = .ok (.iconst 0, 1) := by decide +kernel
theorem dX0_repertoire_3 : decode cX0_repertoire 3 = .ok (.istore_n 3, 1) := by decide +kernel
theorem dX0_repertoire_4 : decode cX0_repertoire 4 = .ok (.iload_n 3, 1) := by decide +kernel
theorem dX0_repertoire_5 : decode cX0_repertoire 5 = .ok (.aload_n 0, 1) := by decide +kernel
theorem dX0_repertoire_6 : decode cX0_repertoire 6 = .ok (.getfield 52, 3) := by decide +kernel
theorem dX0_repertoire_9 : decode cX0_repertoire 9 = .ok (.if_icmp .ge 25, 3) := by decide +kernel
theorem dX0_repertoire_12 : decode cX0_repertoire 12 = .ok (.aload_n 0, 1) := by decide +kernel
theorem dX0_repertoire_13 : decode cX0_repertoire 13 = .ok (.iload_n 1, 1) := by decide +kernel
theorem dX0_repertoire_14 : decode cX0_repertoire 14 = .ok (.iload_n 3, 1) := by decide +kernel
theorem dX0_repertoire_15 : decode cX0_repertoire 15 = .ok (.invokevirtual 83, 3) := by decide +kernel
theorem dX0_repertoire_18 : decode cX0_repertoire 18 = .ok (.iconst (-1), 1) := by decide +kernel
theorem dX0_repertoire_19 : decode cX0_repertoire 19 = .ok (.if_icmp .eq 9, 3) := by decide +kernel
theorem dX0_repertoire_22 : decode cX0_repertoire 22 = .ok (.iload_n 2, 1) := by decide +kernel
theorem dX0_repertoire_23 : decode cX0_repertoire 23 = .ok (.iconst 1, 1) := by decide +kernel
theorem dX0_repertoire_24 : decode cX0_repertoire 24 = .ok (.iload_n 3, 1) := by decide +kernel
theorem dX0_repertoire_25 : decode cX0_repertoire 25 = .ok (.ishl, 1) := by decide +kernel
theorem dX0_repertoire_26 : decode cX0_repertoire 26 = .ok (.ior, 1) := by decide +kernel
theorem dX0_repertoire_27 : decode cX0_repertoire 27 = .ok (.istore_n 2, 1) := by decide +kernel
theorem dX0_repertoire_28 : decode cX0_repertoire 28 = .ok (.iinc 3 1, 3) := by decide +kernel
theorem dX0_repertoire_31 : decode cX0_repertoire 31 = .ok (.goto (-27), 3) := by decide +kernel
theorem dX0_repertoire_34 : decode cX0_repertoire 34 = .ok (.iload_n 2, 1) := by decide +kernel
theorem dX0_repertoire_35 : decode cX0_repertoire 35 = .ok (.ireturn, 1) := by decide +kernel
set_option maxRecDepth 100000 in
set_option maxHeartbeats 4000000 in
theorem lc_X0_repertoire_4 (Z : ZZ) (l : Launch) (a0 : Nat) (a1 : Int32) {args : Array Value} {h0 h1 : HP} {v0 : Int32} (K : Int32 → HP → Option (Int32 × HP)) (F : Int32 → Int32 → HP → Option (Int32 × HP))
    (hK : ∀ (b2 : Int32) (h : HP), Sim Z l cX0_repertoire RX0 4 1 22 (some .int) "repertoire" args (Mq Z args h0 h1 (some (.int v0))) h0 h1 v0 34 [(2, .int b2)] [] h (K b2 h))
    (hF : ∀ (b2 : Int32) (b3 : Int32) (h : HP), Sim Z l cX0_repertoire RX0 4 1 22 (some .int) "repertoire" args (Mq Z args h0 h1 (some (.int v0))) h0 h1 v0 4 [(0, .ref (zb Z + a0)), (1, .int a1), (2, .int b2), (3, .int b3)] [] h (F b2 b3 h)) :
    ∀ (b2 : Int32) (b3 : Int32) (h : HP), Sim Z l cX0_repertoire RX0 4 1 22 (some .int) "repertoire" args (Mq Z args h0 h1 (some (.int v0))) h0 h1 v0 4 [(0, .ref (zb Z + a0)), (1, .int a1), (2, .int b2), (3, .int b3)] [] h (lb_X0_repertoire_4 a0 a1 K F b2 b3 h) := by
  intro b2 b3 h
  unfold lb_X0_repertoire_4
  refine S_iload_n dX0_repertoire_4 rfl 3 rfl (pc' := 5) rfl ?_
  refine S_aload_n dX0_repertoire_5 rfl 0 rfl (pc' := 6) rfl ?_
  refine S_getI fl_X0_52 rfl dX0_repertoire_6 (pc' := 9) rfl (fun x6 => ?_)
  refine S_icmp_ge dX0_repertoire_9 34 rfl (pc' := 12) rfl (fun g9 => ?_) (fun g9 => ?_)
  · refine Sim.sub [2] rfl ?_
    exact hK _ _
  · refine S_aload_n dX0_repertoire_12 rfl 0 rfl (pc' := 13) rfl ?_
    refine S_iload_n dX0_repertoire_13 rfl 1 rfl (pc' := 14) rfl ?_
    refine S_iload_n dX0_repertoire_14 rfl 3 rfl (pc' := 15) rfl ?_
    refine S_invi ml_X0_83 mi_X0_heldFor (ci := 0) ⟨_, rfl, rfl⟩ (by decide) dX0_repertoire_15 [.int a1, .int b3] rfl (fun v h2 q => c_X0_heldFor Z l _ _ _ _ q) ⟨Nat.le_of_ble_eq_true rfl, Nat.le_of_ble_eq_true rfl⟩ (rest := []) (Nat.le_of_ble_eq_true rfl) rfl (pc' := 18) rfl (fun x15 h15 => ?_)
    refine S_iconst dX0_repertoire_18 (v := (-1)) rfl (pc' := 19) rfl ?_
    refine S_icmp_eq dX0_repertoire_19 28 rfl (pc' := 22) rfl (fun g19 => ?_) (fun g19 => ?_)
    · refine S_iinc dX0_repertoire_28 (q := 3) rfl (v := b3 + 1) rfl (by decide) (lo' := [(3, .int (b3 + 1)), (0, .ref (zb Z + a0)), (1, .int a1), (2, .int b2)]) rfl (pc' := 31) rfl ?_
      refine S_goto dX0_repertoire_31 4 rfl ?_
      refine Sim.sub [1, 2, 3, 0] rfl ?_
      exact hF _ _ _
    · refine S_iload_n dX0_repertoire_22 rfl 2 rfl (pc' := 23) rfl ?_
      refine S_iconst dX0_repertoire_23 (v := 1) rfl (pc' := 24) rfl ?_
      refine S_iload_n dX0_repertoire_24 rfl 3 rfl (pc' := 25) rfl ?_
      refine S_ishl dX0_repertoire_25 (pc' := 26) rfl ?_
      refine S_ior dX0_repertoire_26 (pc' := 27) rfl ?_
      refine S_istore_n dX0_repertoire_27 rfl (by decide) (lo' := [(2, .int (b2 ||| (1 <<< (b3 &&& 31)))), (0, .ref (zb Z + a0)), (1, .int a1), (3, .int b3)]) rfl (pc' := 28) rfl ?_
      refine S_iinc dX0_repertoire_28 (q := 3) rfl (v := b3 + 1) rfl (by decide) (lo' := [(3, .int (b3 + 1)), (2, .int (b2 ||| (1 <<< (b3 &&& 31)))), (0, .ref (zb Z + a0)), (1, .int a1)]) rfl (pc' := 31) rfl ?_
      refine S_goto dX0_repertoire_31 4 rfl ?_
      refine Sim.sub [2, 3, 1, 0] rfl ?_
      exact hF _ _ _
theorem lq_X0_repertoire_4 (Z : ZZ) (l : Launch) (a0 : Nat) (a1 : Int32) {args : Array Value} {h0 h1 : HP} {v0 : Int32} (K : Int32 → HP → Option (Int32 × HP))
    (hK : ∀ (b2 : Int32) (h : HP), Sim Z l cX0_repertoire RX0 4 1 22 (some .int) "repertoire" args (Mq Z args h0 h1 (some (.int v0))) h0 h1 v0 34 [(2, .int b2)] [] h (K b2 h)) :
    ∀ (k : Nat) (b2 : Int32) (b3 : Int32) (h : HP), Sim Z l cX0_repertoire RX0 4 1 22 (some .int) "repertoire" args (Mq Z args h0 h1 (some (.int v0))) h0 h1 v0 4 [(0, .ref (zb Z + a0)), (1, .int a1), (2, .int b2), (3, .int b3)] [] h (lp_X0_repertoire_4 a0 a1 K k b2 b3 h) := by
  intro k
  induction k with
  | zero => exact fun _ _ _ => Sim.none
  | succ k ih => exact lc_X0_repertoire_4 Z l a0 a1 K _ hK ih
set_option maxRecDepth 100000 in
set_option maxHeartbeats 4000000 in
theorem c_X0_repertoire (Z : ZZ) (l : Launch) (t : Nat) (a1 : Int32) (h : HP) {v : Int32} {h1 : HP} (ho : f_X0_repertoire t a1 h = some (v, h1)) : MetP Z l yX0_repertoire cX0_repertoire 4 (some .int) 1 22 [.ref (zb Z + t), .int a1] h (some (.int v)) h1 := by
  refine MetP_of ho (by decide +kernel) (Nat.le_of_ble_eq_true rfl) [(0, .ref (zb Z + t)), (1, .int a1)] rfl (own := RX0) rfl (nm := "repertoire") rfl ?_
  unfold f_X0_repertoire
  refine S_iconst dX0_repertoire_0 (v := 0) rfl (pc' := 1) rfl ?_
  refine S_istore_n dX0_repertoire_1 rfl (by decide) (lo' := [(2, .int 0), (0, .ref (zb Z + t)), (1, .int a1)]) rfl (pc' := 2) rfl ?_
  refine S_iconst dX0_repertoire_2 (v := 0) rfl (pc' := 3) rfl ?_
  refine S_istore_n dX0_repertoire_3 rfl (by decide) (lo' := [(3, .int 0), (2, .int 0), (0, .ref (zb Z + t)), (1, .int a1)]) rfl (pc' := 4) rfl ?_
  refine Sim.sub [2, 3, 1, 0] rfl ?_
  refine lq_X0_repertoire_4 Z l t a1 _ ?_ 1000 _ _ _
  intro b2_4 h4_
  refine S_iload_n dX0_repertoire_34 rfl 0 rfl (pc' := 35) rfl ?_
  exact S_iret rfl dX0_repertoire_35
theorem dX0_knownSongs_0 : decode cX0_knownSongs 0 = .ok (.iconst 0, 1) := by decide +kernel
theorem dX0_knownSongs_1 : decode cX0_knownSongs 1 = .ok (.istore_n 1, 1) := by decide +kernel
theorem dX0_knownSongs_2 : decode cX0_knownSongs 2 = .ok (.iconst 0, 1) := by decide +kernel
theorem dX0_knownSongs_3 : decode cX0_knownSongs 3 = .ok (.istore_n 2, 1) := by decide +kernel
theorem dX0_knownSongs_4 : decode cX0_knownSongs 4 = .ok (.iload_n 2, 1) := by decide +kernel
theorem dX0_knownSongs_5 : decode cX0_knownSongs 5 = .ok (.aload_n 0, 1) := by decide +kernel
theorem dX0_knownSongs_6 : decode cX0_knownSongs 6 = .ok (.getfield 49, 3) := by decide +kernel
theorem dX0_knownSongs_9 : decode cX0_knownSongs 9 = .ok (.if_icmp .ge 17, 3) := by decide +kernel
theorem dX0_knownSongs_12 : decode cX0_knownSongs 12 = .ok (.iload_n 1, 1) := by decide +kernel
theorem dX0_knownSongs_13 : decode cX0_knownSongs 13 = .ok (.aload_n 0, 1) := by decide +kernel
theorem dX0_knownSongs_14 : decode cX0_knownSongs 14 = .ok (.iload_n 2, 1) := by decide +kernel
theorem dX0_knownSongs_15 : decode cX0_knownSongs 15 = .ok (.invokevirtual 87, 3) := by decide +kernel
theorem dX0_knownSongs_18 : decode cX0_knownSongs 18 = .ok (.ior, 1) := by decide +kernel
theorem dX0_knownSongs_19 : decode cX0_knownSongs 19 = .ok (.istore_n 1, 1) := by decide +kernel
theorem dX0_knownSongs_20 : decode cX0_knownSongs 20 = .ok (.iinc 2 1, 3) := by decide +kernel
theorem dX0_knownSongs_23 : decode cX0_knownSongs 23 = .ok (.goto (-19), 3) := by decide +kernel
theorem dX0_knownSongs_26 : decode cX0_knownSongs 26 = .ok (.iload_n 1, 1) := by decide +kernel
theorem dX0_knownSongs_27 : decode cX0_knownSongs 27 = .ok (.ireturn, 1) := by decide +kernel
set_option maxRecDepth 100000 in
set_option maxHeartbeats 4000000 in
theorem lc_X0_knownSongs_4 (Z : ZZ) (l : Launch) (a0 : Nat) {args : Array Value} {h0 h1 : HP} {v0 : Int32} (K : Int32 → HP → Option (Int32 × HP)) (F : Int32 → Int32 → HP → Option (Int32 × HP))
    (hK : ∀ (b1 : Int32) (h : HP), Sim Z l cX0_knownSongs RX0 3 2 45 (some .int) "knownSongs" args (Mq Z args h0 h1 (some (.int v0))) h0 h1 v0 26 [(1, .int b1)] [] h (K b1 h))
    (hF : ∀ (b1 : Int32) (b2 : Int32) (h : HP), Sim Z l cX0_knownSongs RX0 3 2 45 (some .int) "knownSongs" args (Mq Z args h0 h1 (some (.int v0))) h0 h1 v0 4 [(0, .ref (zb Z + a0)), (1, .int b1), (2, .int b2)] [] h (F b1 b2 h)) :
    ∀ (b1 : Int32) (b2 : Int32) (h : HP), Sim Z l cX0_knownSongs RX0 3 2 45 (some .int) "knownSongs" args (Mq Z args h0 h1 (some (.int v0))) h0 h1 v0 4 [(0, .ref (zb Z + a0)), (1, .int b1), (2, .int b2)] [] h (lb_X0_knownSongs_4 a0 K F b1 b2 h) := by
  intro b1 b2 h
  unfold lb_X0_knownSongs_4
  refine S_iload_n dX0_knownSongs_4 rfl 2 rfl (pc' := 5) rfl ?_
  refine S_aload_n dX0_knownSongs_5 rfl 0 rfl (pc' := 6) rfl ?_
  refine S_getI fl_X0_49 rfl dX0_knownSongs_6 (pc' := 9) rfl (fun x6 => ?_)
  refine S_icmp_ge dX0_knownSongs_9 26 rfl (pc' := 12) rfl (fun g9 => ?_) (fun g9 => ?_)
  · refine Sim.sub [1] rfl ?_
    exact hK _ _
  · refine S_iload_n dX0_knownSongs_12 rfl 1 rfl (pc' := 13) rfl ?_
    refine S_aload_n dX0_knownSongs_13 rfl 0 rfl (pc' := 14) rfl ?_
    refine S_iload_n dX0_knownSongs_14 rfl 2 rfl (pc' := 15) rfl ?_
    refine S_invi ml_X0_87 mi_X0_repertoire (ci := 0) ⟨_, rfl, rfl⟩ (by decide) dX0_knownSongs_15 [.int b2] rfl (fun v h2 q => c_X0_repertoire Z l _ _ _ q) ⟨Nat.le_of_ble_eq_true rfl, Nat.le_of_ble_eq_true rfl⟩ (rest := [.int b1]) (Nat.le_of_ble_eq_true rfl) rfl (pc' := 18) rfl (fun x15 h15 => ?_)
    refine S_ior dX0_knownSongs_18 (pc' := 19) rfl ?_
    refine S_istore_n dX0_knownSongs_19 rfl (by decide) (lo' := [(1, .int (b1 ||| x15)), (0, .ref (zb Z + a0)), (2, .int b2)]) rfl (pc' := 20) rfl ?_
    refine S_iinc dX0_knownSongs_20 (q := 2) rfl (v := b2 + 1) rfl (by decide) (lo' := [(2, .int (b2 + 1)), (1, .int (b1 ||| x15)), (0, .ref (zb Z + a0))]) rfl (pc' := 23) rfl ?_
    refine S_goto dX0_knownSongs_23 4 rfl ?_
    refine Sim.sub [2, 1, 0] rfl ?_
    exact hF _ _ _
theorem lq_X0_knownSongs_4 (Z : ZZ) (l : Launch) (a0 : Nat) {args : Array Value} {h0 h1 : HP} {v0 : Int32} (K : Int32 → HP → Option (Int32 × HP))
    (hK : ∀ (b1 : Int32) (h : HP), Sim Z l cX0_knownSongs RX0 3 2 45 (some .int) "knownSongs" args (Mq Z args h0 h1 (some (.int v0))) h0 h1 v0 26 [(1, .int b1)] [] h (K b1 h)) :
    ∀ (k : Nat) (b1 : Int32) (b2 : Int32) (h : HP), Sim Z l cX0_knownSongs RX0 3 2 45 (some .int) "knownSongs" args (Mq Z args h0 h1 (some (.int v0))) h0 h1 v0 4 [(0, .ref (zb Z + a0)), (1, .int b1), (2, .int b2)] [] h (lp_X0_knownSongs_4 a0 K k b1 b2 h) := by
  intro k
  induction k with
  | zero => exact fun _ _ _ => Sim.none
  | succ k ih => exact lc_X0_knownSongs_4 Z l a0 K _ hK ih
set_option maxRecDepth 100000 in
set_option maxHeartbeats 4000000 in
theorem c_X0_knownSongs (Z : ZZ) (l : Launch) (t : Nat) (h : HP) {v : Int32} {h1 : HP} (ho : f_X0_knownSongs t h = some (v, h1)) : MetP Z l yX0_knownSongs cX0_knownSongs 3 (some .int) 2 45 [.ref (zb Z + t)] h (some (.int v)) h1 := by
  refine MetP_of ho (by decide +kernel) (Nat.le_of_ble_eq_true rfl) [(0, .ref (zb Z + t))] rfl (own := RX0) rfl (nm := "knownSongs") rfl ?_
  unfold f_X0_knownSongs
  refine S_iconst dX0_knownSongs_0 (v := 0) rfl (pc' := 1) rfl ?_
  refine S_istore_n dX0_knownSongs_1 rfl (by decide) (lo' := [(1, .int 0), (0, .ref (zb Z + t))]) rfl (pc' := 2) rfl ?_
  refine S_iconst dX0_knownSongs_2 (v := 0) rfl (pc' := 3) rfl ?_
  refine S_istore_n dX0_knownSongs_3 rfl (by decide) (lo' := [(2, .int 0), (1, .int 0), (0, .ref (zb Z + t))]) rfl (pc' := 4) rfl ?_
  refine Sim.sub [2, 1, 0] rfl ?_
  refine lq_X0_knownSongs_4 Z l t _ ?_ 1000 _ _ _
  intro b1_4 h4_
  refine S_iload_n dX0_knownSongs_26 rfl 0 rfl (pc' := 27) rfl ?_
  exact S_iret rfl dX0_knownSongs_27
theorem dX0_songsOfState_0 : decode cX0_songsOfState 0 = .ok (.iconst 0, 1) := by decide +kernel
theorem dX0_songsOfState_1 : decode cX0_songsOfState 1 = .ok (.istore_n 2, 1) := by decide +kernel
theorem dX0_songsOfState_2 : decode cX0_songsOfState 2 = .ok (.iconst 0, 1) := by decide +kernel
theorem dX0_songsOfState_3 : decode cX0_songsOfState 3 = .ok (.istore_n 3, 1) := by decide +kernel
theorem dX0_songsOfState_4 : decode cX0_songsOfState 4 = .ok (.iload_n 3, 1) := by decide +kernel
theorem dX0_songsOfState_5 : decode cX0_songsOfState 5 = .ok (.aload_n 0, 1) := by decide +kernel
theorem dX0_songsOfState_6 : decode cX0_songsOfState 6 = .ok (.getfield 52, 3) := by decide +kernel
theorem dX0_songsOfState_9 : decode cX0_songsOfState 9 = .ok (.if_icmp .ge 25, 3) := by decide +kernel
theorem dX0_songsOfState_12 : decode cX0_songsOfState 12 = .ok (.aload_n 0, 1) := by decide +kernel
theorem dX0_songsOfState_13 : decode cX0_songsOfState 13 = .ok (.getfield 40, 3) := by decide +kernel
theorem dX0_songsOfState_16 : decode cX0_songsOfState 16 = .ok (.iload_n 3, 1) := by decide +kernel
theorem dX0_songsOfState_17 : decode cX0_songsOfState 17 = .ok (.iaload, 1) := by decide +kernel
theorem dX0_songsOfState_18 : decode cX0_songsOfState 18 = .ok (.iload_n 1, 1) := by decide +kernel
theorem dX0_songsOfState_19 : decode cX0_songsOfState 19 = .ok (.if_icmp .ne 9, 3) := by decide +kernel
theorem dX0_songsOfState_22 : decode cX0_songsOfState 22 = .ok (.iload_n 2, 1) := by decide +kernel
theorem dX0_songsOfState_23 : decode cX0_songsOfState 23 = .ok (.iconst 1, 1) := by decide +kernel
theorem dX0_songsOfState_24 : decode cX0_songsOfState 24 = .ok (.iload_n 3, 1) := by decide +kernel
theorem dX0_songsOfState_25 : decode cX0_songsOfState 25 = .ok (.ishl, 1) := by decide +kernel
theorem dX0_songsOfState_26 : decode cX0_songsOfState 26 = .ok (.ior, 1) := by decide +kernel
theorem dX0_songsOfState_27 : decode cX0_songsOfState 27 = .ok (.istore_n 2, 1) := by decide +kernel
theorem dX0_songsOfState_28 : decode cX0_songsOfState 28 = .ok (.iinc 3 1, 3) := by decide +kernel
theorem dX0_songsOfState_31 : decode cX0_songsOfState 31 = .ok (.goto (-27), 3) := by decide +kernel
theorem dX0_songsOfState_34 : decode cX0_songsOfState 34 = .ok (.iload_n 2, 1) := by decide +kernel
theorem dX0_songsOfState_35 : decode cX0_songsOfState 35 = .ok (.ireturn, 1) := by decide +kernel
set_option maxRecDepth 100000 in
set_option maxHeartbeats 4000000 in
theorem lc_X0_songsOfState_4 (Z : ZZ) (l : Launch) (a0 : Nat) (a1 : Int32) {args : Array Value} {h0 h1 : HP} {v0 : Int32} (K : Int32 → HP → Option (Int32 × HP)) (F : Int32 → Int32 → HP → Option (Int32 × HP))
    (hK : ∀ (b2 : Int32) (h : HP), Sim Z l cX0_songsOfState RX0 4 0 0 (some .int) "songsOfState" args (Mq Z args h0 h1 (some (.int v0))) h0 h1 v0 34 [(2, .int b2)] [] h (K b2 h))
    (hF : ∀ (b2 : Int32) (b3 : Int32) (h : HP), Sim Z l cX0_songsOfState RX0 4 0 0 (some .int) "songsOfState" args (Mq Z args h0 h1 (some (.int v0))) h0 h1 v0 4 [(0, .ref (zb Z + a0)), (1, .int a1), (2, .int b2), (3, .int b3)] [] h (F b2 b3 h)) :
    ∀ (b2 : Int32) (b3 : Int32) (h : HP), Sim Z l cX0_songsOfState RX0 4 0 0 (some .int) "songsOfState" args (Mq Z args h0 h1 (some (.int v0))) h0 h1 v0 4 [(0, .ref (zb Z + a0)), (1, .int a1), (2, .int b2), (3, .int b3)] [] h (lb_X0_songsOfState_4 a0 a1 K F b2 b3 h) := by
  intro b2 b3 h
  unfold lb_X0_songsOfState_4
  refine S_iload_n dX0_songsOfState_4 rfl 3 rfl (pc' := 5) rfl ?_
  refine S_aload_n dX0_songsOfState_5 rfl 0 rfl (pc' := 6) rfl ?_
  refine S_getI fl_X0_52 rfl dX0_songsOfState_6 (pc' := 9) rfl (fun x6 => ?_)
  refine S_icmp_ge dX0_songsOfState_9 34 rfl (pc' := 12) rfl (fun g9 => ?_) (fun g9 => ?_)
  · refine Sim.sub [2] rfl ?_
    exact hK _ _
  · refine S_aload_n dX0_songsOfState_12 rfl 0 rfl (pc' := 13) rfl ?_
    refine S_getR fl_X0_40 rfl dX0_songsOfState_13 (pc' := 16) rfl (fun x13 => ?_)
    refine S_iload_n dX0_songsOfState_16 rfl 3 rfl (pc' := 17) rfl ?_
    refine S_iaload dX0_songsOfState_17 (pc' := 18) rfl (fun x17 => ?_)
    refine S_iload_n dX0_songsOfState_18 rfl 1 rfl (pc' := 19) rfl ?_
    refine S_icmp_ne dX0_songsOfState_19 28 rfl (pc' := 22) rfl (fun g19 => ?_) (fun g19 => ?_)
    · refine S_iinc dX0_songsOfState_28 (q := 3) rfl (v := b3 + 1) rfl (by decide) (lo' := [(3, .int (b3 + 1)), (0, .ref (zb Z + a0)), (1, .int a1), (2, .int b2)]) rfl (pc' := 31) rfl ?_
      refine S_goto dX0_songsOfState_31 4 rfl ?_
      refine Sim.sub [1, 2, 3, 0] rfl ?_
      exact hF _ _ _
    · refine S_iload_n dX0_songsOfState_22 rfl 2 rfl (pc' := 23) rfl ?_
      refine S_iconst dX0_songsOfState_23 (v := 1) rfl (pc' := 24) rfl ?_
      refine S_iload_n dX0_songsOfState_24 rfl 3 rfl (pc' := 25) rfl ?_
      refine S_ishl dX0_songsOfState_25 (pc' := 26) rfl ?_
      refine S_ior dX0_songsOfState_26 (pc' := 27) rfl ?_
      refine S_istore_n dX0_songsOfState_27 rfl (by decide) (lo' := [(2, .int (b2 ||| (1 <<< (b3 &&& 31)))), (0, .ref (zb Z + a0)), (1, .int a1), (3, .int b3)]) rfl (pc' := 28) rfl ?_
      refine S_iinc dX0_songsOfState_28 (q := 3) rfl (v := b3 + 1) rfl (by decide) (lo' := [(3, .int (b3 + 1)), (2, .int (b2 ||| (1 <<< (b3 &&& 31)))), (0, .ref (zb Z + a0)), (1, .int a1)]) rfl (pc' := 31) rfl ?_
      refine S_goto dX0_songsOfState_31 4 rfl ?_
      refine Sim.sub [2, 3, 1, 0] rfl ?_
      exact hF _ _ _
theorem lq_X0_songsOfState_4 (Z : ZZ) (l : Launch) (a0 : Nat) (a1 : Int32) {args : Array Value} {h0 h1 : HP} {v0 : Int32} (K : Int32 → HP → Option (Int32 × HP))
    (hK : ∀ (b2 : Int32) (h : HP), Sim Z l cX0_songsOfState RX0 4 0 0 (some .int) "songsOfState" args (Mq Z args h0 h1 (some (.int v0))) h0 h1 v0 34 [(2, .int b2)] [] h (K b2 h)) :
    ∀ (k : Nat) (b2 : Int32) (b3 : Int32) (h : HP), Sim Z l cX0_songsOfState RX0 4 0 0 (some .int) "songsOfState" args (Mq Z args h0 h1 (some (.int v0))) h0 h1 v0 4 [(0, .ref (zb Z + a0)), (1, .int a1), (2, .int b2), (3, .int b3)] [] h (lp_X0_songsOfState_4 a0 a1 K k b2 b3 h) := by
  intro k
  induction k with
  | zero => exact fun _ _ _ => Sim.none
  | succ k ih => exact lc_X0_songsOfState_4 Z l a0 a1 K _ hK ih
set_option maxRecDepth 100000 in
set_option maxHeartbeats 4000000 in
theorem c_X0_songsOfState (Z : ZZ) (l : Launch) (t : Nat) (a1 : Int32) (h : HP) {v : Int32} {h1 : HP} (ho : f_X0_songsOfState t a1 h = some (v, h1)) : MetP Z l yX0_songsOfState cX0_songsOfState 4 (some .int) 0 0 [.ref (zb Z + t), .int a1] h (some (.int v)) h1 := by
  refine MetP_of ho (by decide +kernel) (Nat.le_of_ble_eq_true rfl) [(0, .ref (zb Z + t)), (1, .int a1)] rfl (own := RX0) rfl (nm := "songsOfState") rfl ?_
  unfold f_X0_songsOfState
  refine S_iconst dX0_songsOfState_0 (v := 0) rfl (pc' := 1) rfl ?_
  refine S_istore_n dX0_songsOfState_1 rfl (by decide) (lo' := [(2, .int 0), (0, .ref (zb Z + t)), (1, .int a1)]) rfl (pc' := 2) rfl ?_
  refine S_iconst dX0_songsOfState_2 (v := 0) rfl (pc' := 3) rfl ?_
  refine S_istore_n dX0_songsOfState_3 rfl (by decide) (lo' := [(3, .int 0), (2, .int 0), (0, .ref (zb Z + t)), (1, .int a1)]) rfl (pc' := 4) rfl ?_
  refine Sim.sub [2, 3, 1, 0] rfl ?_
  refine lq_X0_songsOfState_4 Z l t a1 _ ?_ 1000 _ _ _
  intro b2_4 h4_
  refine S_iload_n dX0_songsOfState_34 rfl 0 rfl (pc' := 35) rfl ?_
  exact S_iret rfl dX0_songsOfState_35
theorem dX0_peopleWithNone_0 : decode cX0_peopleWithNone 0 = .ok (.iconst 0, 1) := by decide +kernel
theorem dX0_peopleWithNone_1 : decode cX0_peopleWithNone 1 = .ok (.istore_n 1, 1) := by decide +kernel
theorem dX0_peopleWithNone_2 : decode cX0_peopleWithNone 2 = .ok (.iconst 0, 1) := by decide +kernel
theorem dX0_peopleWithNone_3 : decode cX0_peopleWithNone 3 = .ok (.istore_n 2, 1) := by decide +kernel
theorem dX0_peopleWithNone_4 : decode cX0_peopleWithNone 4 = .ok (.iload_n 2, 1) := by decide +kernel
theorem dX0_peopleWithNone_5 : decode cX0_peopleWithNone 5 = .ok (.aload_n 0, 1) := by decide +kernel
theorem dX0_peopleWithNone_6 : decode cX0_peopleWithNone 6 = .ok (.getfield 49, 3) := by decide +kernel
theorem dX0_peopleWithNone_9 : decode cX0_peopleWithNone 9 = .ok (.if_icmp .ge 23, 3) := by decide +kernel
theorem dX0_peopleWithNone_12 : decode cX0_peopleWithNone 12 = .ok (.aload_n 0, 1) := by decide +kernel
theorem dX0_peopleWithNone_13 : decode cX0_peopleWithNone 13 = .ok (.iload_n 2, 1) := by decide +kernel
theorem dX0_peopleWithNone_14 : decode cX0_peopleWithNone 14 = .ok (.invokevirtual 87, 3) := by decide +kernel
theorem dX0_peopleWithNone_17 : decode cX0_peopleWithNone 17 = .ok (.ifCond .ne 9, 3) := by decide +kernel
theorem dX0_peopleWithNone_20 : decode cX0_peopleWithNone 20 = .ok (.iload_n 1, 1) := by decide +kernel
theorem dX0_peopleWithNone_21 : decode cX0_peopleWithNone 21 = .ok (.iconst 1, 1) := by decide +kernel
theorem dX0_peopleWithNone_22 : decode cX0_peopleWithNone 22 = .ok (.iload_n 2, 1) := by decide +kernel
theorem dX0_peopleWithNone_23 : decode cX0_peopleWithNone 23 = .ok (.ishl, 1) := by decide +kernel
theorem dX0_peopleWithNone_24 : decode cX0_peopleWithNone 24 = .ok (.ior, 1) := by decide +kernel
theorem dX0_peopleWithNone_25 : decode cX0_peopleWithNone 25 = .ok (.istore_n 1, 1) := by decide +kernel
theorem dX0_peopleWithNone_26 : decode cX0_peopleWithNone 26 = .ok (.iinc 2 1, 3) := by decide +kernel
theorem dX0_peopleWithNone_29 : decode cX0_peopleWithNone 29 = .ok (.goto (-25), 3) := by decide +kernel
theorem dX0_peopleWithNone_32 : decode cX0_peopleWithNone 32 = .ok (.iload_n 1, 1) := by decide +kernel
theorem dX0_peopleWithNone_33 : decode cX0_peopleWithNone 33 = .ok (.ireturn, 1) := by decide +kernel
set_option maxRecDepth 100000 in
set_option maxHeartbeats 4000000 in
theorem lc_X0_peopleWithNone_4 (Z : ZZ) (l : Launch) (a0 : Nat) {args : Array Value} {h0 h1 : HP} {v0 : Int32} (K : Int32 → HP → Option (Int32 × HP)) (F : Int32 → Int32 → HP → Option (Int32 × HP))
    (hK : ∀ (b1 : Int32) (h : HP), Sim Z l cX0_peopleWithNone RX0 3 2 45 (some .int) "peopleWithNone" args (Mq Z args h0 h1 (some (.int v0))) h0 h1 v0 32 [(1, .int b1)] [] h (K b1 h))
    (hF : ∀ (b1 : Int32) (b2 : Int32) (h : HP), Sim Z l cX0_peopleWithNone RX0 3 2 45 (some .int) "peopleWithNone" args (Mq Z args h0 h1 (some (.int v0))) h0 h1 v0 4 [(0, .ref (zb Z + a0)), (1, .int b1), (2, .int b2)] [] h (F b1 b2 h)) :
    ∀ (b1 : Int32) (b2 : Int32) (h : HP), Sim Z l cX0_peopleWithNone RX0 3 2 45 (some .int) "peopleWithNone" args (Mq Z args h0 h1 (some (.int v0))) h0 h1 v0 4 [(0, .ref (zb Z + a0)), (1, .int b1), (2, .int b2)] [] h (lb_X0_peopleWithNone_4 a0 K F b1 b2 h) := by
  intro b1 b2 h
  unfold lb_X0_peopleWithNone_4
  refine S_iload_n dX0_peopleWithNone_4 rfl 2 rfl (pc' := 5) rfl ?_
  refine S_aload_n dX0_peopleWithNone_5 rfl 0 rfl (pc' := 6) rfl ?_
  refine S_getI fl_X0_49 rfl dX0_peopleWithNone_6 (pc' := 9) rfl (fun x6 => ?_)
  refine S_icmp_ge dX0_peopleWithNone_9 32 rfl (pc' := 12) rfl (fun g9 => ?_) (fun g9 => ?_)
  · refine Sim.sub [1] rfl ?_
    exact hK _ _
  · refine S_aload_n dX0_peopleWithNone_12 rfl 0 rfl (pc' := 13) rfl ?_
    refine S_iload_n dX0_peopleWithNone_13 rfl 2 rfl (pc' := 14) rfl ?_
    refine S_invi ml_X0_87 mi_X0_repertoire (ci := 0) ⟨_, rfl, rfl⟩ (by decide) dX0_peopleWithNone_14 [.int b2] rfl (fun v h2 q => c_X0_repertoire Z l _ _ _ q) ⟨Nat.le_of_ble_eq_true rfl, Nat.le_of_ble_eq_true rfl⟩ (rest := []) (Nat.le_of_ble_eq_true rfl) rfl (pc' := 17) rfl (fun x14 h14 => ?_)
    refine S_if_ne dX0_peopleWithNone_17 26 rfl (pc' := 20) rfl (fun g17 => ?_) (fun g17 => ?_)
    · refine S_iinc dX0_peopleWithNone_26 (q := 2) rfl (v := b2 + 1) rfl (by decide) (lo' := [(2, .int (b2 + 1)), (0, .ref (zb Z + a0)), (1, .int b1)]) rfl (pc' := 29) rfl ?_
      refine S_goto dX0_peopleWithNone_29 4 rfl ?_
      refine Sim.sub [1, 2, 0] rfl ?_
      exact hF _ _ _
    · refine S_iload_n dX0_peopleWithNone_20 rfl 1 rfl (pc' := 21) rfl ?_
      refine S_iconst dX0_peopleWithNone_21 (v := 1) rfl (pc' := 22) rfl ?_
      refine S_iload_n dX0_peopleWithNone_22 rfl 2 rfl (pc' := 23) rfl ?_
      refine S_ishl dX0_peopleWithNone_23 (pc' := 24) rfl ?_
      refine S_ior dX0_peopleWithNone_24 (pc' := 25) rfl ?_
      refine S_istore_n dX0_peopleWithNone_25 rfl (by decide) (lo' := [(1, .int (b1 ||| (1 <<< (b2 &&& 31)))), (0, .ref (zb Z + a0)), (2, .int b2)]) rfl (pc' := 26) rfl ?_
      refine S_iinc dX0_peopleWithNone_26 (q := 2) rfl (v := b2 + 1) rfl (by decide) (lo' := [(2, .int (b2 + 1)), (1, .int (b1 ||| (1 <<< (b2 &&& 31)))), (0, .ref (zb Z + a0))]) rfl (pc' := 29) rfl ?_
      refine S_goto dX0_peopleWithNone_29 4 rfl ?_
      refine Sim.sub [2, 1, 0] rfl ?_
      exact hF _ _ _
theorem lq_X0_peopleWithNone_4 (Z : ZZ) (l : Launch) (a0 : Nat) {args : Array Value} {h0 h1 : HP} {v0 : Int32} (K : Int32 → HP → Option (Int32 × HP))
    (hK : ∀ (b1 : Int32) (h : HP), Sim Z l cX0_peopleWithNone RX0 3 2 45 (some .int) "peopleWithNone" args (Mq Z args h0 h1 (some (.int v0))) h0 h1 v0 32 [(1, .int b1)] [] h (K b1 h)) :
    ∀ (k : Nat) (b1 : Int32) (b2 : Int32) (h : HP), Sim Z l cX0_peopleWithNone RX0 3 2 45 (some .int) "peopleWithNone" args (Mq Z args h0 h1 (some (.int v0))) h0 h1 v0 4 [(0, .ref (zb Z + a0)), (1, .int b1), (2, .int b2)] [] h (lp_X0_peopleWithNone_4 a0 K k b1 b2 h) := by
  intro k
  induction k with
  | zero => exact fun _ _ _ => Sim.none
  | succ k ih => exact lc_X0_peopleWithNone_4 Z l a0 K _ hK ih
set_option maxRecDepth 100000 in
set_option maxHeartbeats 4000000 in
theorem c_X0_peopleWithNone (Z : ZZ) (l : Launch) (t : Nat) (h : HP) {v : Int32} {h1 : HP} (ho : f_X0_peopleWithNone t h = some (v, h1)) : MetP Z l yX0_peopleWithNone cX0_peopleWithNone 3 (some .int) 2 45 [.ref (zb Z + t)] h (some (.int v)) h1 := by
  refine MetP_of ho (by decide +kernel) (Nat.le_of_ble_eq_true rfl) [(0, .ref (zb Z + t))] rfl (own := RX0) rfl (nm := "peopleWithNone") rfl ?_
  unfold f_X0_peopleWithNone
  refine S_iconst dX0_peopleWithNone_0 (v := 0) rfl (pc' := 1) rfl ?_
  refine S_istore_n dX0_peopleWithNone_1 rfl (by decide) (lo' := [(1, .int 0), (0, .ref (zb Z + t))]) rfl (pc' := 2) rfl ?_
  refine S_iconst dX0_peopleWithNone_2 (v := 0) rfl (pc' := 3) rfl ?_
  refine S_istore_n dX0_peopleWithNone_3 rfl (by decide) (lo' := [(2, .int 0), (1, .int 0), (0, .ref (zb Z + t))]) rfl (pc' := 4) rfl ?_
  refine Sim.sub [2, 1, 0] rfl ?_
  refine lq_X0_peopleWithNone_4 Z l t _ ?_ 1000 _ _ _
  intro b1_4 h4_
  refine S_iload_n dX0_peopleWithNone_32 rfl 0 rfl (pc' := 33) rfl ?_
  exact S_iret rfl dX0_peopleWithNone_33
theorem dX0_peopleWithAll_0 : decode cX0_peopleWithAll 0 = .ok (.iconst 0, 1) := by decide +kernel
theorem dX0_peopleWithAll_1 : decode cX0_peopleWithAll 1 = .ok (.istore_n 2, 1) := by decide +kernel
theorem dX0_peopleWithAll_2 : decode cX0_peopleWithAll 2 = .ok (.iconst 0, 1) := by decide +kernel
theorem dX0_peopleWithAll_3 : decode cX0_peopleWithAll 3 = .ok (.istore_n 3, 1) := by decide +kernel
theorem dX0_peopleWithAll_4 : decode cX0_peopleWithAll 4 = .ok (.iload_n 3, 1) := by decide +kernel
theorem dX0_peopleWithAll_5 : decode cX0_peopleWithAll 5 = .ok (.aload_n 0, 1) := by decide +kernel
theorem dX0_peopleWithAll_6 : decode cX0_peopleWithAll 6 = .ok (.getfield 49, 3) := by decide +kernel
theorem dX0_peopleWithAll_9 : decode cX0_peopleWithAll 9 = .ok (.if_icmp .ge 26, 3) := by decide +kernel
theorem dX0_peopleWithAll_12 : decode cX0_peopleWithAll 12 = .ok (.aload_n 0, 1) := by decide +kernel
theorem dX0_peopleWithAll_13 : decode cX0_peopleWithAll 13 = .ok (.iload_n 3, 1) := by decide +kernel
theorem dX0_peopleWithAll_14 : decode cX0_peopleWithAll 14 = .ok (.invokevirtual 87, 3) := by decide +kernel
theorem dX0_peopleWithAll_17 : decode cX0_peopleWithAll 17 = .ok (.iload_n 1, 1) := by decide +kernel
theorem dX0_peopleWithAll_18 : decode cX0_peopleWithAll 18 = .ok (.iand, 1) := by decide +kernel
theorem dX0_peopleWithAll_19 : decode cX0_peopleWithAll 19 = .ok (.iload_n 1, 1) := by decide +kernel
theorem dX0_peopleWithAll_20 : decode cX0_peopleWithAll 20 = .ok (.if_icmp .ne 9, 3) := by decide +kernel
theorem dX0_peopleWithAll_23 : decode cX0_peopleWithAll 23 = .ok (.iload_n 2, 1) := by decide +kernel
theorem dX0_peopleWithAll_24 : decode cX0_peopleWithAll 24 = .ok (.iconst 1, 1) := by decide +kernel
theorem dX0_peopleWithAll_25 : decode cX0_peopleWithAll 25 = .ok (.iload_n 3, 1) := by decide +kernel
theorem dX0_peopleWithAll_26 : decode cX0_peopleWithAll 26 = .ok (.ishl, 1) := by decide +kernel
theorem dX0_peopleWithAll_27 : decode cX0_peopleWithAll 27 = .ok (.ior, 1) := by decide +kernel
theorem dX0_peopleWithAll_28 : decode cX0_peopleWithAll 28 = .ok (.istore_n 2, 1) := by decide +kernel
theorem dX0_peopleWithAll_29 : decode cX0_peopleWithAll 29 = .ok (.iinc 3 1, 3) := by decide +kernel
theorem dX0_peopleWithAll_32 : decode cX0_peopleWithAll 32 = .ok (.goto (-28), 3) := by decide +kernel
theorem dX0_peopleWithAll_35 : decode cX0_peopleWithAll 35 = .ok (.iload_n 2, 1) := by decide +kernel
theorem dX0_peopleWithAll_36 : decode cX0_peopleWithAll 36 = .ok (.ireturn, 1) := by decide +kernel
set_option maxRecDepth 100000 in
set_option maxHeartbeats 4000000 in
theorem lc_X0_peopleWithAll_4 (Z : ZZ) (l : Launch) (a0 : Nat) (a1 : Int32) {args : Array Value} {h0 h1 : HP} {v0 : Int32} (K : Int32 → HP → Option (Int32 × HP)) (F : Int32 → Int32 → HP → Option (Int32 × HP))
    (hK : ∀ (b2 : Int32) (h : HP), Sim Z l cX0_peopleWithAll RX0 4 2 45 (some .int) "peopleWithAll" args (Mq Z args h0 h1 (some (.int v0))) h0 h1 v0 35 [(2, .int b2)] [] h (K b2 h))
    (hF : ∀ (b2 : Int32) (b3 : Int32) (h : HP), Sim Z l cX0_peopleWithAll RX0 4 2 45 (some .int) "peopleWithAll" args (Mq Z args h0 h1 (some (.int v0))) h0 h1 v0 4 [(0, .ref (zb Z + a0)), (1, .int a1), (2, .int b2), (3, .int b3)] [] h (F b2 b3 h)) :
    ∀ (b2 : Int32) (b3 : Int32) (h : HP), Sim Z l cX0_peopleWithAll RX0 4 2 45 (some .int) "peopleWithAll" args (Mq Z args h0 h1 (some (.int v0))) h0 h1 v0 4 [(0, .ref (zb Z + a0)), (1, .int a1), (2, .int b2), (3, .int b3)] [] h (lb_X0_peopleWithAll_4 a0 a1 K F b2 b3 h) := by
  intro b2 b3 h
  unfold lb_X0_peopleWithAll_4
  refine S_iload_n dX0_peopleWithAll_4 rfl 3 rfl (pc' := 5) rfl ?_
  refine S_aload_n dX0_peopleWithAll_5 rfl 0 rfl (pc' := 6) rfl ?_
  refine S_getI fl_X0_49 rfl dX0_peopleWithAll_6 (pc' := 9) rfl (fun x6 => ?_)
  refine S_icmp_ge dX0_peopleWithAll_9 35 rfl (pc' := 12) rfl (fun g9 => ?_) (fun g9 => ?_)
  · refine Sim.sub [2] rfl ?_
    exact hK _ _
  · refine S_aload_n dX0_peopleWithAll_12 rfl 0 rfl (pc' := 13) rfl ?_
    refine S_iload_n dX0_peopleWithAll_13 rfl 3 rfl (pc' := 14) rfl ?_
    refine S_invi ml_X0_87 mi_X0_repertoire (ci := 0) ⟨_, rfl, rfl⟩ (by decide) dX0_peopleWithAll_14 [.int b3] rfl (fun v h2 q => c_X0_repertoire Z l _ _ _ q) ⟨Nat.le_of_ble_eq_true rfl, Nat.le_of_ble_eq_true rfl⟩ (rest := []) (Nat.le_of_ble_eq_true rfl) rfl (pc' := 17) rfl (fun x14 h14 => ?_)
    refine S_iload_n dX0_peopleWithAll_17 rfl 1 rfl (pc' := 18) rfl ?_
    refine S_iand dX0_peopleWithAll_18 (pc' := 19) rfl ?_
    refine S_iload_n dX0_peopleWithAll_19 rfl 1 rfl (pc' := 20) rfl ?_
    refine S_icmp_ne dX0_peopleWithAll_20 29 rfl (pc' := 23) rfl (fun g20 => ?_) (fun g20 => ?_)
    · refine S_iinc dX0_peopleWithAll_29 (q := 3) rfl (v := b3 + 1) rfl (by decide) (lo' := [(3, .int (b3 + 1)), (0, .ref (zb Z + a0)), (1, .int a1), (2, .int b2)]) rfl (pc' := 32) rfl ?_
      refine S_goto dX0_peopleWithAll_32 4 rfl ?_
      refine Sim.sub [1, 2, 3, 0] rfl ?_
      exact hF _ _ _
    · refine S_iload_n dX0_peopleWithAll_23 rfl 2 rfl (pc' := 24) rfl ?_
      refine S_iconst dX0_peopleWithAll_24 (v := 1) rfl (pc' := 25) rfl ?_
      refine S_iload_n dX0_peopleWithAll_25 rfl 3 rfl (pc' := 26) rfl ?_
      refine S_ishl dX0_peopleWithAll_26 (pc' := 27) rfl ?_
      refine S_ior dX0_peopleWithAll_27 (pc' := 28) rfl ?_
      refine S_istore_n dX0_peopleWithAll_28 rfl (by decide) (lo' := [(2, .int (b2 ||| (1 <<< (b3 &&& 31)))), (0, .ref (zb Z + a0)), (1, .int a1), (3, .int b3)]) rfl (pc' := 29) rfl ?_
      refine S_iinc dX0_peopleWithAll_29 (q := 3) rfl (v := b3 + 1) rfl (by decide) (lo' := [(3, .int (b3 + 1)), (2, .int (b2 ||| (1 <<< (b3 &&& 31)))), (0, .ref (zb Z + a0)), (1, .int a1)]) rfl (pc' := 32) rfl ?_
      refine S_goto dX0_peopleWithAll_32 4 rfl ?_
      refine Sim.sub [2, 3, 1, 0] rfl ?_
      exact hF _ _ _
theorem lq_X0_peopleWithAll_4 (Z : ZZ) (l : Launch) (a0 : Nat) (a1 : Int32) {args : Array Value} {h0 h1 : HP} {v0 : Int32} (K : Int32 → HP → Option (Int32 × HP))
    (hK : ∀ (b2 : Int32) (h : HP), Sim Z l cX0_peopleWithAll RX0 4 2 45 (some .int) "peopleWithAll" args (Mq Z args h0 h1 (some (.int v0))) h0 h1 v0 35 [(2, .int b2)] [] h (K b2 h)) :
    ∀ (k : Nat) (b2 : Int32) (b3 : Int32) (h : HP), Sim Z l cX0_peopleWithAll RX0 4 2 45 (some .int) "peopleWithAll" args (Mq Z args h0 h1 (some (.int v0))) h0 h1 v0 4 [(0, .ref (zb Z + a0)), (1, .int a1), (2, .int b2), (3, .int b3)] [] h (lp_X0_peopleWithAll_4 a0 a1 K k b2 b3 h) := by
  intro k
  induction k with
  | zero => exact fun _ _ _ => Sim.none
  | succ k ih => exact lc_X0_peopleWithAll_4 Z l a0 a1 K _ hK ih
set_option maxRecDepth 100000 in
set_option maxHeartbeats 4000000 in
theorem c_X0_peopleWithAll (Z : ZZ) (l : Launch) (t : Nat) (a1 : Int32) (h : HP) {v : Int32} {h1 : HP} (ho : f_X0_peopleWithAll t a1 h = some (v, h1)) : MetP Z l yX0_peopleWithAll cX0_peopleWithAll 4 (some .int) 2 45 [.ref (zb Z + t), .int a1] h (some (.int v)) h1 := by
  refine MetP_of ho (by decide +kernel) (Nat.le_of_ble_eq_true rfl) [(0, .ref (zb Z + t)), (1, .int a1)] rfl (own := RX0) rfl (nm := "peopleWithAll") rfl ?_
  unfold f_X0_peopleWithAll
  refine S_iconst dX0_peopleWithAll_0 (v := 0) rfl (pc' := 1) rfl ?_
  refine S_istore_n dX0_peopleWithAll_1 rfl (by decide) (lo' := [(2, .int 0), (0, .ref (zb Z + t)), (1, .int a1)]) rfl (pc' := 2) rfl ?_
  refine S_iconst dX0_peopleWithAll_2 (v := 0) rfl (pc' := 3) rfl ?_
  refine S_istore_n dX0_peopleWithAll_3 rfl (by decide) (lo' := [(3, .int 0), (2, .int 0), (0, .ref (zb Z + t)), (1, .int a1)]) rfl (pc' := 4) rfl ?_
  refine Sim.sub [2, 3, 1, 0] rfl ?_
  refine lq_X0_peopleWithAll_4 Z l t a1 _ ?_ 1000 _ _ _
  intro b2_4 h4_
  refine S_iload_n dX0_peopleWithAll_35 rfl 0 rfl (pc' := 36) rfl ?_
  exact S_iret rfl dX0_peopleWithAll_36
theorem dJ6_bitCount_0f7a4_0 : decode cJ6_bitCount_0f7a4 0 = .ok (.iload_n 0, 1) := by decide +kernel
theorem dJ6_bitCount_0f7a4_1 : decode cJ6_bitCount_0f7a4 1 = .ok (.iload_n 0, 1) := by decide +kernel
theorem dJ6_bitCount_0f7a4_2 : decode cJ6_bitCount_0f7a4 2 = .ok (.iconst 1, 1) := by decide +kernel
theorem dJ6_bitCount_0f7a4_3 : decode cJ6_bitCount_0f7a4 3 = .ok (.iushr, 1) := by decide +kernel
theorem dJ6_bitCount_0f7a4_4 : decode cJ6_bitCount_0f7a4 4 = .ok (.ldc_w 265, 3) := by decide +kernel
theorem dJ6_bitCount_0f7a4_7 : decode cJ6_bitCount_0f7a4 7 = .ok (.iand, 1) := by decide +kernel
theorem dJ6_bitCount_0f7a4_8 : decode cJ6_bitCount_0f7a4 8 = .ok (.isub, 1) := by decide +kernel
theorem dJ6_bitCount_0f7a4_9 : decode cJ6_bitCount_0f7a4 9 = .ok (.istore_n 0, 1) := by decide +kernel
theorem dJ6_bitCount_0f7a4_10 : decode cJ6_bitCount_0f7a4 10 = .ok (.iload_n 0, 1) := by decide +kernel
theorem dJ6_bitCount_0f7a4_11 : decode cJ6_bitCount_0f7a4 11 = .ok (.ldc_w 266, 3) := by decide +kernel
theorem dJ6_bitCount_0f7a4_14 : decode cJ6_bitCount_0f7a4 14 = .ok (.iand, 1) := by decide +kernel
theorem dJ6_bitCount_0f7a4_15 : decode cJ6_bitCount_0f7a4 15 = .ok (.iload_n 0, 1) := by decide +kernel
theorem dJ6_bitCount_0f7a4_16 : decode cJ6_bitCount_0f7a4 16 = .ok (.iconst 2, 1) := by decide +kernel
theorem dJ6_bitCount_0f7a4_17 : decode cJ6_bitCount_0f7a4 17 = .ok (.iushr, 1) := by decide +kernel
theorem dJ6_bitCount_0f7a4_18 : decode cJ6_bitCount_0f7a4 18 = .ok (.ldc_w 266, 3) := by decide +kernel
theorem dJ6_bitCount_0f7a4_21 : decode cJ6_bitCount_0f7a4 21 = .ok (.iand, 1) := by decide +kernel
theorem dJ6_bitCount_0f7a4_22 : decode cJ6_bitCount_0f7a4 22 = .ok (.iadd, 1) := by decide +kernel
theorem dJ6_bitCount_0f7a4_23 : decode cJ6_bitCount_0f7a4 23 = .ok (.istore_n 0, 1) := by decide +kernel
theorem dJ6_bitCount_0f7a4_24 : decode cJ6_bitCount_0f7a4 24 = .ok (.iload_n 0, 1) := by decide +kernel
theorem dJ6_bitCount_0f7a4_25 : decode cJ6_bitCount_0f7a4 25 = .ok (.iload_n 0, 1) := by decide +kernel
theorem dJ6_bitCount_0f7a4_26 : decode cJ6_bitCount_0f7a4 26 = .ok (.iconst 4, 1) := by decide +kernel
theorem dJ6_bitCount_0f7a4_27 : decode cJ6_bitCount_0f7a4 27 = .ok (.iushr, 1) := by decide +kernel
theorem dJ6_bitCount_0f7a4_28 : decode cJ6_bitCount_0f7a4 28 = .ok (.iadd, 1) := by decide +kernel
theorem dJ6_bitCount_0f7a4_29 : decode cJ6_bitCount_0f7a4 29 = .ok (.ldc_w 267, 3) := by decide +kernel
theorem dJ6_bitCount_0f7a4_32 : decode cJ6_bitCount_0f7a4 32 = .ok (.iand, 1) := by decide +kernel
theorem dJ6_bitCount_0f7a4_33 : decode cJ6_bitCount_0f7a4 33 = .ok (.istore_n 0, 1) := by decide +kernel
theorem dJ6_bitCount_0f7a4_34 : decode cJ6_bitCount_0f7a4 34 = .ok (.iload_n 0, 1) := by decide +kernel
theorem dJ6_bitCount_0f7a4_35 : decode cJ6_bitCount_0f7a4 35 = .ok (.iload_n 0, 1) := by decide +kernel
theorem dJ6_bitCount_0f7a4_36 : decode cJ6_bitCount_0f7a4 36 = .ok (.bipush 8, 2) := by decide +kernel
theorem dJ6_bitCount_0f7a4_38 : decode cJ6_bitCount_0f7a4 38 = .ok (.iushr, 1) := by decide +kernel
theorem dJ6_bitCount_0f7a4_39 : decode cJ6_bitCount_0f7a4 39 = .ok (.iadd, 1) := by decide +kernel
theorem dJ6_bitCount_0f7a4_40 : decode cJ6_bitCount_0f7a4 40 = .ok (.istore_n 0, 1) := by decide +kernel
theorem dJ6_bitCount_0f7a4_41 : decode cJ6_bitCount_0f7a4 41 = .ok (.iload_n 0, 1) := by decide +kernel
theorem dJ6_bitCount_0f7a4_42 : decode cJ6_bitCount_0f7a4 42 = .ok (.iload_n 0, 1) := by decide +kernel
theorem dJ6_bitCount_0f7a4_43 : decode cJ6_bitCount_0f7a4 43 = .ok (.bipush 16, 2) := by decide +kernel
theorem dJ6_bitCount_0f7a4_45 : decode cJ6_bitCount_0f7a4 45 = .ok (.iushr, 1) := by decide +kernel
theorem dJ6_bitCount_0f7a4_46 : decode cJ6_bitCount_0f7a4 46 = .ok (.iadd, 1) := by decide +kernel
theorem dJ6_bitCount_0f7a4_47 : decode cJ6_bitCount_0f7a4 47 = .ok (.istore_n 0, 1) := by decide +kernel
theorem dJ6_bitCount_0f7a4_48 : decode cJ6_bitCount_0f7a4 48 = .ok (.iload_n 0, 1) := by decide +kernel
theorem dJ6_bitCount_0f7a4_49 : decode cJ6_bitCount_0f7a4 49 = .ok (.bipush 63, 2) := by decide +kernel
theorem dJ6_bitCount_0f7a4_51 : decode cJ6_bitCount_0f7a4 51 = .ok (.iand, 1) := by decide +kernel
theorem dJ6_bitCount_0f7a4_52 : decode cJ6_bitCount_0f7a4 52 = .ok (.ireturn, 1) := by decide +kernel
set_option maxRecDepth 100000 in
set_option maxHeartbeats 4000000 in
theorem c_J6_bitCount_0f7a4 (Z : ZZ) (l : Launch) (a0 : Int32) (h : HP) {v : Int32} {h1 : HP} (ho : f_J6_bitCount_0f7a4 a0 h = some (v, h1)) : MetP Z l yJ6_bitCount_0f7a4 cJ6_bitCount_0f7a4 1 (some .int) 0 0 [.int a0] h (some (.int v)) h1 := by
  refine MetP_of ho (by decide +kernel) (Nat.le_of_ble_eq_true rfl) [(0, .int a0)] rfl (own := RJ6) rfl (nm := "bitCount") rfl ?_
  unfold f_J6_bitCount_0f7a4
  refine S_iload_n dJ6_bitCount_0f7a4_0 rfl 0 rfl (pc' := 1) rfl ?_
  refine S_iload_n dJ6_bitCount_0f7a4_1 rfl 0 rfl (pc' := 2) rfl ?_
  refine S_iconst dJ6_bitCount_0f7a4_2 (v := 1) rfl (pc' := 3) rfl ?_
  refine S_iushr dJ6_bitCount_0f7a4_3 (pc' := 4) rfl ?_
  refine S_ldcw dJ6_bitCount_0f7a4_4 kc_J6_265 (pc' := 7) rfl ?_
  refine S_iand dJ6_bitCount_0f7a4_7 (pc' := 8) rfl ?_
  refine S_isub dJ6_bitCount_0f7a4_8 (pc' := 9) rfl ?_
  refine S_istore_n dJ6_bitCount_0f7a4_9 rfl (by decide) (lo' := [(0, .int (a0 - (((a0.toUInt32 >>> ((1 : Int32).toUInt32 &&& Int32.toUInt32 31)).toInt32) &&& 1431655765)))]) rfl (pc' := 10) rfl ?_
  refine S_iload_n dJ6_bitCount_0f7a4_10 rfl 0 rfl (pc' := 11) rfl ?_
  refine S_ldcw dJ6_bitCount_0f7a4_11 kc_J6_266 (pc' := 14) rfl ?_
  refine S_iand dJ6_bitCount_0f7a4_14 (pc' := 15) rfl ?_
  refine S_iload_n dJ6_bitCount_0f7a4_15 rfl 0 rfl (pc' := 16) rfl ?_
  refine S_iconst dJ6_bitCount_0f7a4_16 (v := 2) rfl (pc' := 17) rfl ?_
  refine S_iushr dJ6_bitCount_0f7a4_17 (pc' := 18) rfl ?_
  refine S_ldcw dJ6_bitCount_0f7a4_18 kc_J6_266 (pc' := 21) rfl ?_
  refine S_iand dJ6_bitCount_0f7a4_21 (pc' := 22) rfl ?_
  refine S_iadd dJ6_bitCount_0f7a4_22 (pc' := 23) rfl ?_
  refine S_istore_n dJ6_bitCount_0f7a4_23 rfl (by decide) (lo' := [(0, .int (((a0 - (((a0.toUInt32 >>> ((1 : Int32).toUInt32 &&& Int32.toUInt32 31)).toInt32) &&& 1431655765)) &&& 858993459) + ((((a0 - (((a0.toUInt32 >>> ((1 : Int32).toUInt32 &&& Int32.toUInt32 31)).toInt32) &&& 1431655765)).toUInt32 >>> ((2 : Int32).toUInt32 &&& Int32.toUInt32 31)).toInt32) &&& 858993459)))]) rfl (pc' := 24) rfl ?_
  refine S_iload_n dJ6_bitCount_0f7a4_24 rfl 0 rfl (pc' := 25) rfl ?_
  refine S_iload_n dJ6_bitCount_0f7a4_25 rfl 0 rfl (pc' := 26) rfl ?_
  refine S_iconst dJ6_bitCount_0f7a4_26 (v := 4) rfl (pc' := 27) rfl ?_
  refine S_iushr dJ6_bitCount_0f7a4_27 (pc' := 28) rfl ?_
  refine S_iadd dJ6_bitCount_0f7a4_28 (pc' := 29) rfl ?_
  refine S_ldcw dJ6_bitCount_0f7a4_29 kc_J6_267 (pc' := 32) rfl ?_
  refine S_iand dJ6_bitCount_0f7a4_32 (pc' := 33) rfl ?_
  refine S_istore_n dJ6_bitCount_0f7a4_33 rfl (by decide) (lo' := [(0, .int (((((a0 - (((a0.toUInt32 >>> ((1 : Int32).toUInt32 &&& Int32.toUInt32 31)).toInt32) &&& 1431655765)) &&& 858993459) + ((((a0 - (((a0.toUInt32 >>> ((1 : Int32).toUInt32 &&& Int32.toUInt32 31)).toInt32) &&& 1431655765)).toUInt32 >>> ((2 : Int32).toUInt32 &&& Int32.toUInt32 31)).toInt32) &&& 858993459)) + (((((a0 - (((a0.toUInt32 >>> ((1 : Int32).toUInt32 &&& Int32.toUInt32 31)).toInt32) &&& 1431655765)) &&& 858993459) + ((((a0 - (((a0.toUInt32 >>> ((1 : Int32).toUInt32 &&& Int32.toUInt32 31)).toInt32) &&& 1431655765)).toUInt32 >>> ((2 : Int32).toUInt32 &&& Int32.toUInt32 31)).toInt32) &&& 858993459)).toUInt32 >>> ((4 : Int32).toUInt32 &&& Int32.toUInt32 31)).toInt32)) &&& 252645135))]) rfl (pc' := 34) rfl ?_
  refine S_iload_n dJ6_bitCount_0f7a4_34 rfl 0 rfl (pc' := 35) rfl ?_
  refine S_iload_n dJ6_bitCount_0f7a4_35 rfl 0 rfl (pc' := 36) rfl ?_
  refine S_bipush dJ6_bitCount_0f7a4_36 (v := 8) rfl (pc' := 38) rfl ?_
  refine S_iushr dJ6_bitCount_0f7a4_38 (pc' := 39) rfl ?_
  refine S_iadd dJ6_bitCount_0f7a4_39 (pc' := 40) rfl ?_
  refine S_istore_n dJ6_bitCount_0f7a4_40 rfl (by decide) (lo' := [(0, .int ((((((a0 - (((a0.toUInt32 >>> ((1 : Int32).toUInt32 &&& Int32.toUInt32 31)).toInt32) &&& 1431655765)) &&& 858993459) + ((((a0 - (((a0.toUInt32 >>> ((1 : Int32).toUInt32 &&& Int32.toUInt32 31)).toInt32) &&& 1431655765)).toUInt32 >>> ((2 : Int32).toUInt32 &&& Int32.toUInt32 31)).toInt32) &&& 858993459)) + (((((a0 - (((a0.toUInt32 >>> ((1 : Int32).toUInt32 &&& Int32.toUInt32 31)).toInt32) &&& 1431655765)) &&& 858993459) + ((((a0 - (((a0.toUInt32 >>> ((1 : Int32).toUInt32 &&& Int32.toUInt32 31)).toInt32) &&& 1431655765)).toUInt32 >>> ((2 : Int32).toUInt32 &&& Int32.toUInt32 31)).toInt32) &&& 858993459)).toUInt32 >>> ((4 : Int32).toUInt32 &&& Int32.toUInt32 31)).toInt32)) &&& 252645135) + (((((((a0 - (((a0.toUInt32 >>> ((1 : Int32).toUInt32 &&& Int32.toUInt32 31)).toInt32) &&& 1431655765)) &&& 858993459) + ((((a0 - (((a0.toUInt32 >>> ((1 : Int32).toUInt32 &&& Int32.toUInt32 31)).toInt32) &&& 1431655765)).toUInt32 >>> ((2 : Int32).toUInt32 &&& Int32.toUInt32 31)).toInt32) &&& 858993459)) + (((((a0 - (((a0.toUInt32 >>> ((1 : Int32).toUInt32 &&& Int32.toUInt32 31)).toInt32) &&& 1431655765)) &&& 858993459) + ((((a0 - (((a0.toUInt32 >>> ((1 : Int32).toUInt32 &&& Int32.toUInt32 31)).toInt32) &&& 1431655765)).toUInt32 >>> ((2 : Int32).toUInt32 &&& Int32.toUInt32 31)).toInt32) &&& 858993459)).toUInt32 >>> ((4 : Int32).toUInt32 &&& Int32.toUInt32 31)).toInt32)) &&& 252645135).toUInt32 >>> ((8 : Int32).toUInt32 &&& Int32.toUInt32 31)).toInt32)))]) rfl (pc' := 41) rfl ?_
  refine S_iload_n dJ6_bitCount_0f7a4_41 rfl 0 rfl (pc' := 42) rfl ?_
  refine S_iload_n dJ6_bitCount_0f7a4_42 rfl 0 rfl (pc' := 43) rfl ?_
  refine S_bipush dJ6_bitCount_0f7a4_43 (v := 16) rfl (pc' := 45) rfl ?_
  refine S_iushr dJ6_bitCount_0f7a4_45 (pc' := 46) rfl ?_
  refine S_iadd dJ6_bitCount_0f7a4_46 (pc' := 47) rfl ?_
  refine S_istore_n dJ6_bitCount_0f7a4_47 rfl (by decide) (lo' := [(0, .int (((((((a0 - (((a0.toUInt32 >>> ((1 : Int32).toUInt32 &&& Int32.toUInt32 31)).toInt32) &&& 1431655765)) &&& 858993459) + ((((a0 - (((a0.toUInt32 >>> ((1 : Int32).toUInt32 &&& Int32.toUInt32 31)).toInt32) &&& 1431655765)).toUInt32 >>> ((2 : Int32).toUInt32 &&& Int32.toUInt32 31)).toInt32) &&& 858993459)) + (((((a0 - (((a0.toUInt32 >>> ((1 : Int32).toUInt32 &&& Int32.toUInt32 31)).toInt32) &&& 1431655765)) &&& 858993459) + ((((a0 - (((a0.toUInt32 >>> ((1 : Int32).toUInt32 &&& Int32.toUInt32 31)).toInt32) &&& 1431655765)).toUInt32 >>> ((2 : Int32).toUInt32 &&& Int32.toUInt32 31)).toInt32) &&& 858993459)).toUInt32 >>> ((4 : Int32).toUInt32 &&& Int32.toUInt32 31)).toInt32)) &&& 252645135) + (((((((a0 - (((a0.toUInt32 >>> ((1 : Int32).toUInt32 &&& Int32.toUInt32 31)).toInt32) &&& 1431655765)) &&& 858993459) + ((((a0 - (((a0.toUInt32 >>> ((1 : Int32).toUInt32 &&& Int32.toUInt32 31)).toInt32) &&& 1431655765)).toUInt32 >>> ((2 : Int32).toUInt32 &&& Int32.toUInt32 31)).toInt32) &&& 858993459)) + (((((a0 - (((a0.toUInt32 >>> ((1 : Int32).toUInt32 &&& Int32.toUInt32 31)).toInt32) &&& 1431655765)) &&& 858993459) + ((((a0 - (((a0.toUInt32 >>> ((1 : Int32).toUInt32 &&& Int32.toUInt32 31)).toInt32) &&& 1431655765)).toUInt32 >>> ((2 : Int32).toUInt32 &&& Int32.toUInt32 31)).toInt32) &&& 858993459)).toUInt32 >>> ((4 : Int32).toUInt32 &&& Int32.toUInt32 31)).toInt32)) &&& 252645135).toUInt32 >>> ((8 : Int32).toUInt32 &&& Int32.toUInt32 31)).toInt32)) + ((((((((a0 - (((a0.toUInt32 >>> ((1 : Int32).toUInt32 &&& Int32.toUInt32 31)).toInt32) &&& 1431655765)) &&& 858993459) + ((((a0 - (((a0.toUInt32 >>> ((1 : Int32).toUInt32 &&& Int32.toUInt32 31)).toInt32) &&& 1431655765)).toUInt32 >>> ((2 : Int32).toUInt32 &&& Int32.toUInt32 31)).toInt32) &&& 858993459)) + (((((a0 - (((a0.toUInt32 >>> ((1 : Int32).toUInt32 &&& Int32.toUInt32 31)).toInt32) &&& 1431655765)) &&& 858993459) + ((((a0 - (((a0.toUInt32 >>> ((1 : Int32).toUInt32 &&& Int32.toUInt32 31)).toInt32) &&& 1431655765)).toUInt32 >>> ((2 : Int32).toUInt32 &&& Int32.toUInt32 31)).toInt32) &&& 858993459)).toUInt32 >>> ((4 : Int32).toUInt32 &&& Int32.toUInt32 31)).toInt32)) &&& 252645135) + (((((((a0 - (((a0.toUInt32 >>> ((1 : Int32).toUInt32 &&& Int32.toUInt32 31)).toInt32) &&& 1431655765)) &&& 858993459) + ((((a0 - (((a0.toUInt32 >>> ((1 : Int32).toUInt32 &&& Int32.toUInt32 31)).toInt32) &&& 1431655765)).toUInt32 >>> ((2 : Int32).toUInt32 &&& Int32.toUInt32 31)).toInt32) &&& 858993459)) + (((((a0 - (((a0.toUInt32 >>> ((1 : Int32).toUInt32 &&& Int32.toUInt32 31)).toInt32) &&& 1431655765)) &&& 858993459) + ((((a0 - (((a0.toUInt32 >>> ((1 : Int32).toUInt32 &&& Int32.toUInt32 31)).toInt32) &&& 1431655765)).toUInt32 >>> ((2 : Int32).toUInt32 &&& Int32.toUInt32 31)).toInt32) &&& 858993459)).toUInt32 >>> ((4 : Int32).toUInt32 &&& Int32.toUInt32 31)).toInt32)) &&& 252645135).toUInt32 >>> ((8 : Int32).toUInt32 &&& Int32.toUInt32 31)).toInt32)).toUInt32 >>> ((16 : Int32).toUInt32 &&& Int32.toUInt32 31)).toInt32)))]) rfl (pc' := 48) rfl ?_
  refine S_iload_n dJ6_bitCount_0f7a4_48 rfl 0 rfl (pc' := 49) rfl ?_
  refine S_bipush dJ6_bitCount_0f7a4_49 (v := 63) rfl (pc' := 51) rfl ?_
  refine S_iand dJ6_bitCount_0f7a4_51 (pc' := 52) rfl ?_
  exact S_iret rfl dJ6_bitCount_0f7a4_52
theorem dX0_mostHeld_0 : decode cX0_mostHeld 0 = .ok (.iconst (-1), 1) := by decide +kernel
theorem dX0_mostHeld_1 : decode cX0_mostHeld 1 = .ok (.istore_n 1, 1) := by decide +kernel
theorem dX0_mostHeld_2 : decode cX0_mostHeld 2 = .ok (.iconst (-1), 1) := by decide +kernel
theorem dX0_mostHeld_3 : decode cX0_mostHeld 3 = .ok (.istore_n 2, 1) := by decide +kernel
theorem dX0_mostHeld_4 : decode cX0_mostHeld 4 = .ok (.iconst 0, 1) := by decide +kernel
theorem dX0_mostHeld_5 : decode cX0_mostHeld 5 = .ok (.istore_n 3, 1) := by decide +kernel
theorem dX0_mostHeld_6 : decode cX0_mostHeld 6 = .ok (.iload_n 3, 1) := by decide +kernel
theorem dX0_mostHeld_7 : decode cX0_mostHeld 7 = .ok (.aload_n 0, 1) := by decide +kernel
theorem dX0_mostHeld_8 : decode cX0_mostHeld 8 = .ok (.getfield 52, 3) := by decide +kernel
theorem dX0_mostHeld_11 : decode cX0_mostHeld 11 = .ok (.if_icmp .ge 30, 3) := by decide +kernel
theorem dX0_mostHeld_14 : decode cX0_mostHeld 14 = .ok (.aload_n 0, 1) := by decide +kernel
theorem dX0_mostHeld_15 : decode cX0_mostHeld 15 = .ok (.iload_n 3, 1) := by decide +kernel
theorem dX0_mostHeld_16 : decode cX0_mostHeld 16 = .ok (.invokevirtual 91, 3) := by decide +kernel
theorem dX0_mostHeld_19 : decode cX0_mostHeld 19 = .ok (.invokestatic 94, 3) := by decide +kernel
theorem dX0_mostHeld_22 : decode cX0_mostHeld 22 = .ok (.istore 4, 2) := by decide +kernel
theorem dX0_mostHeld_24 : decode cX0_mostHeld 24 = .ok (.iload 4, 2) := by decide +kernel
theorem dX0_mostHeld_26 : decode cX0_mostHeld 26 = .ok (.iload_n 2, 1) := by decide +kernel
theorem dX0_mostHeld_27 : decode cX0_mostHeld 27 = .ok (.if_icmp .le 8, 3) := by decide +kernel
theorem dX0_mostHeld_30 : decode cX0_mostHeld 30 = .ok (.iload_n 3, 1) := by decide +kernel
theorem dX0_mostHeld_31 : decode cX0_mostHeld 31 = .ok (.istore_n 1, 1) := by decide +kernel
theorem dX0_mostHeld_32 : decode cX0_mostHeld 32 = .ok (.iload 4, 2) := by decide +kernel
theorem dX0_mostHeld_34 : decode cX0_mostHeld 34 = .ok (.istore_n 2, 1) := by decide +kernel
theorem dX0_mostHeld_35 : decode cX0_mostHeld 35 = .ok (.iinc 3 1, 3) := by decide +kernel
theorem dX0_mostHeld_38 : decode cX0_mostHeld 38 = .ok (.goto (-32), 3) := by decide +kernel
theorem dX0_mostHeld_41 : decode cX0_mostHeld 41 = .ok (.iload_n 1, 1) := by decide +kernel
theorem dX0_mostHeld_42 : decode cX0_mostHeld 42 = .ok (.ireturn, 1) := by decide +kernel
set_option maxRecDepth 100000 in
set_option maxHeartbeats 4000000 in
theorem lc_X0_mostHeld_6 (Z : ZZ) (l : Launch) (a0 : Nat) {args : Array Value} {h0 h1 : HP} {v0 : Int32} (K : Int32 → HP → Option (Int32 × HP)) (F : Int32 → Int32 → Int32 → HP → Option (Int32 × HP))
    (hK : ∀ (b1 : Int32) (h : HP), Sim Z l cX0_mostHeld RX0 5 2 45 (some .int) "mostHeld" args (Mq Z args h0 h1 (some (.int v0))) h0 h1 v0 41 [(1, .int b1)] [] h (K b1 h))
    (hF : ∀ (b1 : Int32) (b2 : Int32) (b3 : Int32) (h : HP), Sim Z l cX0_mostHeld RX0 5 2 45 (some .int) "mostHeld" args (Mq Z args h0 h1 (some (.int v0))) h0 h1 v0 6 [(0, .ref (zb Z + a0)), (1, .int b1), (2, .int b2), (3, .int b3)] [] h (F b1 b2 b3 h)) :
    ∀ (b1 : Int32) (b2 : Int32) (b3 : Int32) (h : HP), Sim Z l cX0_mostHeld RX0 5 2 45 (some .int) "mostHeld" args (Mq Z args h0 h1 (some (.int v0))) h0 h1 v0 6 [(0, .ref (zb Z + a0)), (1, .int b1), (2, .int b2), (3, .int b3)] [] h (lb_X0_mostHeld_6 a0 K F b1 b2 b3 h) := by
  intro b1 b2 b3 h
  unfold lb_X0_mostHeld_6
  refine S_iload_n dX0_mostHeld_6 rfl 3 rfl (pc' := 7) rfl ?_
  refine S_aload_n dX0_mostHeld_7 rfl 0 rfl (pc' := 8) rfl ?_
  refine S_getI fl_X0_52 rfl dX0_mostHeld_8 (pc' := 11) rfl (fun x8 => ?_)
  refine S_icmp_ge dX0_mostHeld_11 41 rfl (pc' := 14) rfl (fun g11 => ?_) (fun g11 => ?_)
  · refine Sim.sub [1] rfl ?_
    exact hK _ _
  · refine S_aload_n dX0_mostHeld_14 rfl 0 rfl (pc' := 15) rfl ?_
    refine S_iload_n dX0_mostHeld_15 rfl 3 rfl (pc' := 16) rfl ?_
    refine S_invi ml_X0_91 mi_X0_havers (ci := 0) ⟨_, rfl, rfl⟩ (by decide) dX0_mostHeld_16 [.int b3] rfl (fun v h2 q => c_X0_havers Z l _ _ _ q) ⟨Nat.le_of_ble_eq_true rfl, Nat.le_of_ble_eq_true rfl⟩ (rest := []) (Nat.le_of_ble_eq_true rfl) rfl (pc' := 19) rfl (fun x16 h16 => ?_)
    refine S_stai ml_X0_94 ms_J6_bitCount_0f7a4 dX0_mostHeld_19 [.int x16] rfl (fun v h2 q => c_J6_bitCount_0f7a4 Z l _ _ q) ⟨Nat.le_of_ble_eq_true rfl, Nat.le_of_ble_eq_true rfl⟩ (rest := []) (Nat.le_of_ble_eq_true rfl) rfl (pc' := 22) rfl (fun x19 h19 => ?_)
    refine S_istore dX0_mostHeld_22 (by decide) (lo' := [(4, .int x19), (0, .ref (zb Z + a0)), (1, .int b1), (2, .int b2), (3, .int b3)]) rfl (pc' := 24) rfl ?_
    refine S_iload dX0_mostHeld_24 0 rfl (pc' := 26) rfl ?_
    refine S_iload_n dX0_mostHeld_26 rfl 3 rfl (pc' := 27) rfl ?_
    refine S_icmp_le dX0_mostHeld_27 35 rfl (pc' := 30) rfl (fun g27 => ?_) (fun g27 => ?_)
    · refine S_iinc dX0_mostHeld_35 (q := 4) rfl (v := b3 + 1) rfl (by decide) (lo' := [(3, .int (b3 + 1)), (4, .int x19), (0, .ref (zb Z + a0)), (1, .int b1), (2, .int b2)]) rfl (pc' := 38) rfl ?_
      refine S_goto dX0_mostHeld_38 6 rfl ?_
      refine Sim.sub [2, 3, 4, 0] rfl ?_
      exact hF _ _ _ _
    · refine S_iload_n dX0_mostHeld_30 rfl 4 rfl (pc' := 31) rfl ?_
      refine S_istore_n dX0_mostHeld_31 rfl (by decide) (lo' := [(1, .int b3), (4, .int x19), (0, .ref (zb Z + a0)), (2, .int b2), (3, .int b3)]) rfl (pc' := 32) rfl ?_
      refine S_iload dX0_mostHeld_32 1 rfl (pc' := 34) rfl ?_
      refine S_istore_n dX0_mostHeld_34 rfl (by decide) (lo' := [(2, .int x19), (1, .int b3), (4, .int x19), (0, .ref (zb Z + a0)), (3, .int b3)]) rfl (pc' := 35) rfl ?_
      refine S_iinc dX0_mostHeld_35 (q := 4) rfl (v := b3 + 1) rfl (by decide) (lo' := [(3, .int (b3 + 1)), (2, .int x19), (1, .int b3), (4, .int x19), (0, .ref (zb Z + a0))]) rfl (pc' := 38) rfl ?_
      refine S_goto dX0_mostHeld_38 6 rfl ?_
      refine Sim.sub [4, 2, 1, 0] rfl ?_
      exact hF _ _ _ _
theorem lq_X0_mostHeld_6 (Z : ZZ) (l : Launch) (a0 : Nat) {args : Array Value} {h0 h1 : HP} {v0 : Int32} (K : Int32 → HP → Option (Int32 × HP))
    (hK : ∀ (b1 : Int32) (h : HP), Sim Z l cX0_mostHeld RX0 5 2 45 (some .int) "mostHeld" args (Mq Z args h0 h1 (some (.int v0))) h0 h1 v0 41 [(1, .int b1)] [] h (K b1 h)) :
    ∀ (k : Nat) (b1 : Int32) (b2 : Int32) (b3 : Int32) (h : HP), Sim Z l cX0_mostHeld RX0 5 2 45 (some .int) "mostHeld" args (Mq Z args h0 h1 (some (.int v0))) h0 h1 v0 6 [(0, .ref (zb Z + a0)), (1, .int b1), (2, .int b2), (3, .int b3)] [] h (lp_X0_mostHeld_6 a0 K k b1 b2 b3 h) := by
  intro k
  induction k with
  | zero => exact fun _ _ _ _ => Sim.none
  | succ k ih => exact lc_X0_mostHeld_6 Z l a0 K _ hK ih
set_option maxRecDepth 100000 in
set_option maxHeartbeats 4000000 in
theorem c_X0_mostHeld (Z : ZZ) (l : Launch) (t : Nat) (h : HP) {v : Int32} {h1 : HP} (ho : f_X0_mostHeld t h = some (v, h1)) : MetP Z l yX0_mostHeld cX0_mostHeld 5 (some .int) 2 45 [.ref (zb Z + t)] h (some (.int v)) h1 := by
  refine MetP_of ho (by decide +kernel) (Nat.le_of_ble_eq_true rfl) [(0, .ref (zb Z + t))] rfl (own := RX0) rfl (nm := "mostHeld") rfl ?_
  unfold f_X0_mostHeld
  refine S_iconst dX0_mostHeld_0 (v := (-1)) rfl (pc' := 1) rfl ?_
  refine S_istore_n dX0_mostHeld_1 rfl (by decide) (lo' := [(1, .int (-1)), (0, .ref (zb Z + t))]) rfl (pc' := 2) rfl ?_
  refine S_iconst dX0_mostHeld_2 (v := (-1)) rfl (pc' := 3) rfl ?_
  refine S_istore_n dX0_mostHeld_3 rfl (by decide) (lo' := [(2, .int (-1)), (1, .int (-1)), (0, .ref (zb Z + t))]) rfl (pc' := 4) rfl ?_
  refine S_iconst dX0_mostHeld_4 (v := 0) rfl (pc' := 5) rfl ?_
  refine S_istore_n dX0_mostHeld_5 rfl (by decide) (lo' := [(3, .int 0), (2, .int (-1)), (1, .int (-1)), (0, .ref (zb Z + t))]) rfl (pc' := 6) rfl ?_
  refine Sim.sub [3, 2, 1, 0] rfl ?_
  refine lq_X0_mostHeld_6 Z l t _ ?_ 1000 _ _ _ _
  intro b1_6 h6_
  refine S_iload_n dX0_mostHeld_41 rfl 0 rfl (pc' := 42) rfl ?_
  exact S_iret rfl dX0_mostHeld_42
theorem dX0_leastHeld_0 : decode cX0_leastHeld 0 = .ok (.iconst (-1), 1) := by decide +kernel
theorem dX0_leastHeld_1 : decode cX0_leastHeld 1 = .ok (.istore_n 1, 1) := by decide +kernel
theorem dX0_leastHeld_2 : decode cX0_leastHeld 2 = .ok (.bipush 9, 2) := by decide +kernel
theorem dX0_leastHeld_4 : decode cX0_leastHeld 4 = .ok (.istore_n 2, 1) := by decide +kernel
theorem dX0_leastHeld_5 : decode cX0_leastHeld 5 = .ok (.iconst 0, 1) := by decide +kernel
theorem dX0_leastHeld_6 : decode cX0_leastHeld 6 = .ok (.istore_n 3, 1) := by decide +kernel
theorem dX0_leastHeld_7 : decode cX0_leastHeld 7 = .ok (.iload_n 3, 1) := by decide +kernel
theorem dX0_leastHeld_8 : decode cX0_leastHeld 8 = .ok (.aload_n 0, 1) := by decide +kernel
theorem dX0_leastHeld_9 : decode cX0_leastHeld 9 = .ok (.getfield 52, 3) := by decide +kernel
theorem dX0_leastHeld_12 : decode cX0_leastHeld 12 = .ok (.if_icmp .ge 30, 3) := by decide +kernel
theorem dX0_leastHeld_15 : decode cX0_leastHeld 15 = .ok (.aload_n 0, 1) := by decide +kernel
theorem dX0_leastHeld_16 : decode cX0_leastHeld 16 = .ok (.iload_n 3, 1) := by decide +kernel
theorem dX0_leastHeld_17 : decode cX0_leastHeld 17 = .ok (.invokevirtual 91, 3) := by decide +kernel
theorem dX0_leastHeld_20 : decode cX0_leastHeld 20 = .ok (.invokestatic 94, 3) := by decide +kernel
theorem dX0_leastHeld_23 : decode cX0_leastHeld 23 = .ok (.istore 4, 2) := by decide +kernel
theorem dX0_leastHeld_25 : decode cX0_leastHeld 25 = .ok (.iload 4, 2) := by decide +kernel
theorem dX0_leastHeld_27 : decode cX0_leastHeld 27 = .ok (.iload_n 2, 1) := by decide +kernel
theorem dX0_leastHeld_28 : decode cX0_leastHeld 28 = .ok (.if_icmp .ge 8, 3) := by decide +kernel
theorem dX0_leastHeld_31 : decode cX0_leastHeld 31 = .ok (.iload_n 3, 1) := by decide +kernel
theorem dX0_leastHeld_32 : decode cX0_leastHeld 32 = .ok (.istore_n 1, 1) := by decide +kernel
theorem dX0_leastHeld_33 : decode cX0_leastHeld 33 = .ok (.iload 4, 2) := by decide +kernel
theorem dX0_leastHeld_35 : decode cX0_leastHeld 35 = .ok (.istore_n 2, 1) := by decide +kernel
theorem dX0_leastHeld_36 : decode cX0_leastHeld 36 = .ok (.iinc 3 1, 3) := by decide +kernel
theorem dX0_leastHeld_39 : decode cX0_leastHeld 39 = .ok (.goto (-32), 3) := by decide +kernel
theorem dX0_leastHeld_42 : decode cX0_leastHeld 42 = .ok (.iload_n 1, 1) := by decide +kernel
theorem dX0_leastHeld_43 : decode cX0_leastHeld 43 = .ok (.ireturn, 1) := by decide +kernel
set_option maxRecDepth 100000 in
set_option maxHeartbeats 4000000 in
theorem lc_X0_leastHeld_7 (Z : ZZ) (l : Launch) (a0 : Nat) {args : Array Value} {h0 h1 : HP} {v0 : Int32} (K : Int32 → HP → Option (Int32 × HP)) (F : Int32 → Int32 → Int32 → HP → Option (Int32 × HP))
    (hK : ∀ (b1 : Int32) (h : HP), Sim Z l cX0_leastHeld RX0 5 2 45 (some .int) "leastHeld" args (Mq Z args h0 h1 (some (.int v0))) h0 h1 v0 42 [(1, .int b1)] [] h (K b1 h))
    (hF : ∀ (b1 : Int32) (b2 : Int32) (b3 : Int32) (h : HP), Sim Z l cX0_leastHeld RX0 5 2 45 (some .int) "leastHeld" args (Mq Z args h0 h1 (some (.int v0))) h0 h1 v0 7 [(0, .ref (zb Z + a0)), (1, .int b1), (2, .int b2), (3, .int b3)] [] h (F b1 b2 b3 h)) :
    ∀ (b1 : Int32) (b2 : Int32) (b3 : Int32) (h : HP), Sim Z l cX0_leastHeld RX0 5 2 45 (some .int) "leastHeld" args (Mq Z args h0 h1 (some (.int v0))) h0 h1 v0 7 [(0, .ref (zb Z + a0)), (1, .int b1), (2, .int b2), (3, .int b3)] [] h (lb_X0_leastHeld_7 a0 K F b1 b2 b3 h) := by
  intro b1 b2 b3 h
  unfold lb_X0_leastHeld_7
  refine S_iload_n dX0_leastHeld_7 rfl 3 rfl (pc' := 8) rfl ?_
  refine S_aload_n dX0_leastHeld_8 rfl 0 rfl (pc' := 9) rfl ?_
  refine S_getI fl_X0_52 rfl dX0_leastHeld_9 (pc' := 12) rfl (fun x9 => ?_)
  refine S_icmp_ge dX0_leastHeld_12 42 rfl (pc' := 15) rfl (fun g12 => ?_) (fun g12 => ?_)
  · refine Sim.sub [1] rfl ?_
    exact hK _ _
  · refine S_aload_n dX0_leastHeld_15 rfl 0 rfl (pc' := 16) rfl ?_
    refine S_iload_n dX0_leastHeld_16 rfl 3 rfl (pc' := 17) rfl ?_
    refine S_invi ml_X0_91 mi_X0_havers (ci := 0) ⟨_, rfl, rfl⟩ (by decide) dX0_leastHeld_17 [.int b3] rfl (fun v h2 q => c_X0_havers Z l _ _ _ q) ⟨Nat.le_of_ble_eq_true rfl, Nat.le_of_ble_eq_true rfl⟩ (rest := []) (Nat.le_of_ble_eq_true rfl) rfl (pc' := 20) rfl (fun x17 h17 => ?_)
    refine S_stai ml_X0_94 ms_J6_bitCount_0f7a4 dX0_leastHeld_20 [.int x17] rfl (fun v h2 q => c_J6_bitCount_0f7a4 Z l _ _ q) ⟨Nat.le_of_ble_eq_true rfl, Nat.le_of_ble_eq_true rfl⟩ (rest := []) (Nat.le_of_ble_eq_true rfl) rfl (pc' := 23) rfl (fun x20 h20 => ?_)
    refine S_istore dX0_leastHeld_23 (by decide) (lo' := [(4, .int x20), (0, .ref (zb Z + a0)), (1, .int b1), (2, .int b2), (3, .int b3)]) rfl (pc' := 25) rfl ?_
    refine S_iload dX0_leastHeld_25 0 rfl (pc' := 27) rfl ?_
    refine S_iload_n dX0_leastHeld_27 rfl 3 rfl (pc' := 28) rfl ?_
    refine S_icmp_ge dX0_leastHeld_28 36 rfl (pc' := 31) rfl (fun g28 => ?_) (fun g28 => ?_)
    · refine S_iinc dX0_leastHeld_36 (q := 4) rfl (v := b3 + 1) rfl (by decide) (lo' := [(3, .int (b3 + 1)), (4, .int x20), (0, .ref (zb Z + a0)), (1, .int b1), (2, .int b2)]) rfl (pc' := 39) rfl ?_
      refine S_goto dX0_leastHeld_39 7 rfl ?_
      refine Sim.sub [2, 3, 4, 0] rfl ?_
      exact hF _ _ _ _
    · refine S_iload_n dX0_leastHeld_31 rfl 4 rfl (pc' := 32) rfl ?_
      refine S_istore_n dX0_leastHeld_32 rfl (by decide) (lo' := [(1, .int b3), (4, .int x20), (0, .ref (zb Z + a0)), (2, .int b2), (3, .int b3)]) rfl (pc' := 33) rfl ?_
      refine S_iload dX0_leastHeld_33 1 rfl (pc' := 35) rfl ?_
      refine S_istore_n dX0_leastHeld_35 rfl (by decide) (lo' := [(2, .int x20), (1, .int b3), (4, .int x20), (0, .ref (zb Z + a0)), (3, .int b3)]) rfl (pc' := 36) rfl ?_
      refine S_iinc dX0_leastHeld_36 (q := 4) rfl (v := b3 + 1) rfl (by decide) (lo' := [(3, .int (b3 + 1)), (2, .int x20), (1, .int b3), (4, .int x20), (0, .ref (zb Z + a0))]) rfl (pc' := 39) rfl ?_
      refine S_goto dX0_leastHeld_39 7 rfl ?_
      refine Sim.sub [4, 2, 1, 0] rfl ?_
      exact hF _ _ _ _
theorem lq_X0_leastHeld_7 (Z : ZZ) (l : Launch) (a0 : Nat) {args : Array Value} {h0 h1 : HP} {v0 : Int32} (K : Int32 → HP → Option (Int32 × HP))
    (hK : ∀ (b1 : Int32) (h : HP), Sim Z l cX0_leastHeld RX0 5 2 45 (some .int) "leastHeld" args (Mq Z args h0 h1 (some (.int v0))) h0 h1 v0 42 [(1, .int b1)] [] h (K b1 h)) :
    ∀ (k : Nat) (b1 : Int32) (b2 : Int32) (b3 : Int32) (h : HP), Sim Z l cX0_leastHeld RX0 5 2 45 (some .int) "leastHeld" args (Mq Z args h0 h1 (some (.int v0))) h0 h1 v0 7 [(0, .ref (zb Z + a0)), (1, .int b1), (2, .int b2), (3, .int b3)] [] h (lp_X0_leastHeld_7 a0 K k b1 b2 b3 h) := by
  intro k
  induction k with
  | zero => exact fun _ _ _ _ => Sim.none
  | succ k ih => exact lc_X0_leastHeld_7 Z l a0 K _ hK ih
set_option maxRecDepth 100000 in
set_option maxHeartbeats 4000000 in
theorem c_X0_leastHeld (Z : ZZ) (l : Launch) (t : Nat) (h : HP) {v : Int32} {h1 : HP} (ho : f_X0_leastHeld t h = some (v, h1)) : MetP Z l yX0_leastHeld cX0_leastHeld 5 (some .int) 2 45 [.ref (zb Z + t)] h (some (.int v)) h1 := by
  refine MetP_of ho (by decide +kernel) (Nat.le_of_ble_eq_true rfl) [(0, .ref (zb Z + t))] rfl (own := RX0) rfl (nm := "leastHeld") rfl ?_
  unfold f_X0_leastHeld
  refine S_iconst dX0_leastHeld_0 (v := (-1)) rfl (pc' := 1) rfl ?_
  refine S_istore_n dX0_leastHeld_1 rfl (by decide) (lo' := [(1, .int (-1)), (0, .ref (zb Z + t))]) rfl (pc' := 2) rfl ?_
  refine S_bipush dX0_leastHeld_2 (v := 9) rfl (pc' := 4) rfl ?_
  refine S_istore_n dX0_leastHeld_4 rfl (by decide) (lo' := [(2, .int 9), (1, .int (-1)), (0, .ref (zb Z + t))]) rfl (pc' := 5) rfl ?_
  refine S_iconst dX0_leastHeld_5 (v := 0) rfl (pc' := 6) rfl ?_
  refine S_istore_n dX0_leastHeld_6 rfl (by decide) (lo' := [(3, .int 0), (2, .int 9), (1, .int (-1)), (0, .ref (zb Z + t))]) rfl (pc' := 7) rfl ?_
  refine Sim.sub [3, 2, 1, 0] rfl ?_
  refine lq_X0_leastHeld_7 Z l t _ ?_ 1000 _ _ _ _
  intro b1_7 h7_
  refine S_iload_n dX0_leastHeld_42 rfl 0 rfl (pc' := 43) rfl ?_
  exact S_iret rfl dX0_leastHeld_43
theorem dX0_tableOf_0 : decode cX0_tableOf 0 = .ok (.iconst 1, 1) := by decide +kernel
theorem dX0_tableOf_1 : decode cX0_tableOf 1 = .ok (.iload_n 1, 1) := by decide +kernel
theorem dX0_tableOf_2 : decode cX0_tableOf 2 = .ok (.ishl, 1) := by decide +kernel
theorem dX0_tableOf_3 : decode cX0_tableOf 3 = .ok (.istore_n 2, 1) := by decide +kernel
theorem dX0_tableOf_4 : decode cX0_tableOf 4 = .ok (.iconst 0, 1) := by decide +kernel
theorem dX0_tableOf_5 : decode cX0_tableOf 5 = .ok (.istore_n 3, 1) := by decide +kernel
theorem dX0_tableOf_6 : decode cX0_tableOf 6 = .ok (.iload_n 3, 1) := by decide +kernel
theorem dX0_tableOf_7 : decode cX0_tableOf 7 = .ok (.aload_n 0, 1) := by decide +kernel
theorem dX0_tableOf_8 : decode cX0_tableOf 8 = .ok (.getfield 49, 3) := by decide +kernel
theorem dX0_tableOf_11 : decode cX0_tableOf 11 = .ok (.if_icmp .ge 47, 3) := by decide +kernel
theorem dX0_tableOf_14 : decode cX0_tableOf 14 = .ok (.iconst 0, 1) := by decide +kernel
theorem dX0_tableOf_15 : decode cX0_tableOf 15 = .ok (.istore 4, 2) := by decide +kernel
theorem dX0_tableOf_17 : decode cX0_tableOf 17 = .ok (.iload 4, 2) := by decide +kernel
theorem dX0_tableOf_19 : decode cX0_tableOf 19 = .ok (.aload_n 0, 1) := by decide +kernel
theorem dX0_tableOf_20 : decode cX0_tableOf 20 = .ok (.getfield 49, 3) := by decide +kernel
theorem dX0_tableOf_23 : decode cX0_tableOf 23 = .ok (.if_icmp .ge 29, 3) := by decide +kernel
theorem dX0_tableOf_26 : decode cX0_tableOf 26 = .ok (.iload_n 2, 1) := by decide +kernel
theorem dX0_tableOf_27 : decode cX0_tableOf 27 = .ok (.iload 4, 2) := by decide +kernel
theorem dX0_tableOf_29 : decode cX0_tableOf 29 = .ok (.ishr, 1) := by decide +kernel
theorem dX0_tableOf_30 : decode cX0_tableOf 30 = .ok (.iconst 1, 1) := by decide +kernel
theorem dX0_tableOf_31 : decode cX0_tableOf 31 = .ok (.iand, 1) := by decide +kernel
theorem dX0_tableOf_32 : decode cX0_tableOf 32 = .ok (.iconst 1, 1) := by decide +kernel
theorem dX0_tableOf_33 : decode cX0_tableOf 33 = .ok (.if_icmp .ne 13, 3) := by decide +kernel
theorem dX0_tableOf_36 : decode cX0_tableOf 36 = .ok (.iload_n 2, 1) := by decide +kernel
theorem dX0_tableOf_37 : decode cX0_tableOf 37 = .ok (.aload_n 0, 1) := by decide +kernel
theorem dX0_tableOf_38 : decode cX0_tableOf 38 = .ok (.getfield 31, 3) := by decide +kernel
theorem dX0_tableOf_41 : decode cX0_tableOf 41 = .ok (.iload 4, 2) := by decide +kernel
theorem dX0_tableOf_43 : decode cX0_tableOf 43 = .ok (.iaload, 1) := by decide +kernel
theorem dX0_tableOf_44 : decode cX0_tableOf 44 = .ok (.ior, 1) := by decide +kernel
theorem dX0_tableOf_45 : decode cX0_tableOf 45 = .ok (.istore_n 2, 1) := by decide +kernel
theorem dX0_tableOf_46 : decode cX0_tableOf 46 = .ok (.iinc 4 1, 3) := by decide +kernel
theorem dX0_tableOf_49 : decode cX0_tableOf 49 = .ok (.goto (-32), 3) := by decide +kernel
theorem dX0_tableOf_52 : decode cX0_tableOf 52 = .ok (.iinc 3 1, 3) := by decide +kernel
theorem dX0_tableOf_55 : decode cX0_tableOf 55 = .ok (.goto (-49), 3) := by decide +kernel
theorem dX0_tableOf_58 : decode cX0_tableOf 58 = .ok (.iload_n 2, 1) := by decide +kernel
theorem dX0_tableOf_59 : decode cX0_tableOf 59 = .ok (.ireturn, 1) := by decide +kernel
set_option maxRecDepth 100000 in
set_option maxHeartbeats 4000000 in
theorem lc_X0_tableOf_17 (Z : ZZ) (l : Launch) (a0 : Nat) (a3 : Int32) {args : Array Value} {h0 h1 : HP} {v0 : Int32} (K : Int32 → HP → Option (Int32 × HP)) (F : Int32 → Int32 → HP → Option (Int32 × HP))
    (hK : ∀ (b2 : Int32) (h : HP), Sim Z l cX0_tableOf RX0 5 0 0 (some .int) "tableOf" args (Mq Z args h0 h1 (some (.int v0))) h0 h1 v0 52 [(0, .ref (zb Z + a0)), (2, .int b2), (3, .int a3)] [] h (K b2 h))
    (hF : ∀ (b2 : Int32) (b4 : Int32) (h : HP), Sim Z l cX0_tableOf RX0 5 0 0 (some .int) "tableOf" args (Mq Z args h0 h1 (some (.int v0))) h0 h1 v0 17 [(0, .ref (zb Z + a0)), (2, .int b2), (3, .int a3), (4, .int b4)] [] h (F b2 b4 h)) :
    ∀ (b2 : Int32) (b4 : Int32) (h : HP), Sim Z l cX0_tableOf RX0 5 0 0 (some .int) "tableOf" args (Mq Z args h0 h1 (some (.int v0))) h0 h1 v0 17 [(0, .ref (zb Z + a0)), (2, .int b2), (3, .int a3), (4, .int b4)] [] h (lb_X0_tableOf_17 a0 a3 K F b2 b4 h) := by
  intro b2 b4 h
  unfold lb_X0_tableOf_17
  refine S_iload dX0_tableOf_17 3 rfl (pc' := 19) rfl ?_
  refine S_aload_n dX0_tableOf_19 rfl 0 rfl (pc' := 20) rfl ?_
  refine S_getI fl_X0_49 rfl dX0_tableOf_20 (pc' := 23) rfl (fun x20 => ?_)
  refine S_icmp_ge dX0_tableOf_23 52 rfl (pc' := 26) rfl (fun g23 => ?_) (fun g23 => ?_)
  · refine Sim.sub [0, 1, 2] rfl ?_
    exact hK _ _
  · refine S_iload_n dX0_tableOf_26 rfl 1 rfl (pc' := 27) rfl ?_
    refine S_iload dX0_tableOf_27 3 rfl (pc' := 29) rfl ?_
    refine S_ishr dX0_tableOf_29 (pc' := 30) rfl ?_
    refine S_iconst dX0_tableOf_30 (v := 1) rfl (pc' := 31) rfl ?_
    refine S_iand dX0_tableOf_31 (pc' := 32) rfl ?_
    refine S_iconst dX0_tableOf_32 (v := 1) rfl (pc' := 33) rfl ?_
    refine S_icmp_ne dX0_tableOf_33 46 rfl (pc' := 36) rfl (fun g33 => ?_) (fun g33 => ?_)
    · refine S_iinc dX0_tableOf_46 (q := 3) rfl (v := b4 + 1) rfl (by decide) (lo' := [(4, .int (b4 + 1)), (0, .ref (zb Z + a0)), (2, .int b2), (3, .int a3)]) rfl (pc' := 49) rfl ?_
      refine S_goto dX0_tableOf_49 17 rfl ?_
      refine Sim.sub [1, 2, 3, 0] rfl ?_
      exact hF _ _ _
    · refine S_iload_n dX0_tableOf_36 rfl 1 rfl (pc' := 37) rfl ?_
      refine S_aload_n dX0_tableOf_37 rfl 0 rfl (pc' := 38) rfl ?_
      refine S_getR fl_X0_31 rfl dX0_tableOf_38 (pc' := 41) rfl (fun x38 => ?_)
      refine S_iload dX0_tableOf_41 3 rfl (pc' := 43) rfl ?_
      refine S_iaload dX0_tableOf_43 (pc' := 44) rfl (fun x43 => ?_)
      refine S_ior dX0_tableOf_44 (pc' := 45) rfl ?_
      refine S_istore_n dX0_tableOf_45 rfl (by decide) (lo' := [(2, .int (b2 ||| x43)), (0, .ref (zb Z + a0)), (3, .int a3), (4, .int b4)]) rfl (pc' := 46) rfl ?_
      refine S_iinc dX0_tableOf_46 (q := 3) rfl (v := b4 + 1) rfl (by decide) (lo' := [(4, .int (b4 + 1)), (2, .int (b2 ||| x43)), (0, .ref (zb Z + a0)), (3, .int a3)]) rfl (pc' := 49) rfl ?_
      refine S_goto dX0_tableOf_49 17 rfl ?_
      refine Sim.sub [2, 1, 3, 0] rfl ?_
      exact hF _ _ _
theorem lq_X0_tableOf_17 (Z : ZZ) (l : Launch) (a0 : Nat) (a3 : Int32) {args : Array Value} {h0 h1 : HP} {v0 : Int32} (K : Int32 → HP → Option (Int32 × HP))
    (hK : ∀ (b2 : Int32) (h : HP), Sim Z l cX0_tableOf RX0 5 0 0 (some .int) "tableOf" args (Mq Z args h0 h1 (some (.int v0))) h0 h1 v0 52 [(0, .ref (zb Z + a0)), (2, .int b2), (3, .int a3)] [] h (K b2 h)) :
    ∀ (k : Nat) (b2 : Int32) (b4 : Int32) (h : HP), Sim Z l cX0_tableOf RX0 5 0 0 (some .int) "tableOf" args (Mq Z args h0 h1 (some (.int v0))) h0 h1 v0 17 [(0, .ref (zb Z + a0)), (2, .int b2), (3, .int a3), (4, .int b4)] [] h (lp_X0_tableOf_17 a0 a3 K k b2 b4 h) := by
  intro k
  induction k with
  | zero => exact fun _ _ _ => Sim.none
  | succ k ih => exact lc_X0_tableOf_17 Z l a0 a3 K _ hK ih
set_option maxRecDepth 100000 in
set_option maxHeartbeats 4000000 in
theorem lc_X0_tableOf_6 (Z : ZZ) (l : Launch) (a0 : Nat) {args : Array Value} {h0 h1 : HP} {v0 : Int32} (K : Int32 → HP → Option (Int32 × HP)) (F : Int32 → Int32 → HP → Option (Int32 × HP))
    (hK : ∀ (b2 : Int32) (h : HP), Sim Z l cX0_tableOf RX0 5 0 0 (some .int) "tableOf" args (Mq Z args h0 h1 (some (.int v0))) h0 h1 v0 58 [(2, .int b2)] [] h (K b2 h))
    (hF : ∀ (b2 : Int32) (b3 : Int32) (h : HP), Sim Z l cX0_tableOf RX0 5 0 0 (some .int) "tableOf" args (Mq Z args h0 h1 (some (.int v0))) h0 h1 v0 6 [(0, .ref (zb Z + a0)), (2, .int b2), (3, .int b3)] [] h (F b2 b3 h)) :
    ∀ (b2 : Int32) (b3 : Int32) (h : HP), Sim Z l cX0_tableOf RX0 5 0 0 (some .int) "tableOf" args (Mq Z args h0 h1 (some (.int v0))) h0 h1 v0 6 [(0, .ref (zb Z + a0)), (2, .int b2), (3, .int b3)] [] h (lb_X0_tableOf_6 a0 K F b2 b3 h) := by
  intro b2 b3 h
  unfold lb_X0_tableOf_6
  refine S_iload_n dX0_tableOf_6 rfl 2 rfl (pc' := 7) rfl ?_
  refine S_aload_n dX0_tableOf_7 rfl 0 rfl (pc' := 8) rfl ?_
  refine S_getI fl_X0_49 rfl dX0_tableOf_8 (pc' := 11) rfl (fun x8 => ?_)
  refine S_icmp_ge dX0_tableOf_11 58 rfl (pc' := 14) rfl (fun g11 => ?_) (fun g11 => ?_)
  · refine Sim.sub [1] rfl ?_
    exact hK _ _
  · refine S_iconst dX0_tableOf_14 (v := 0) rfl (pc' := 15) rfl ?_
    refine S_istore dX0_tableOf_15 (by decide) (lo' := [(4, .int 0), (0, .ref (zb Z + a0)), (2, .int b2), (3, .int b3)]) rfl (pc' := 17) rfl ?_
    refine Sim.sub [1, 2, 3, 0] rfl ?_
    refine lq_X0_tableOf_17 Z l a0 b3 _ ?_ 1000 _ _ _
    intro b2_17 h17_
    refine S_iinc dX0_tableOf_52 (q := 2) rfl (v := b3 + 1) rfl (by decide) (lo' := [(3, .int (b3 + 1)), (0, .ref (zb Z + a0)), (2, .int b2_17)]) rfl (pc' := 55) rfl ?_
    refine S_goto dX0_tableOf_55 6 rfl ?_
    refine Sim.sub [1, 2, 0] rfl ?_
    exact hF _ _ _
theorem lq_X0_tableOf_6 (Z : ZZ) (l : Launch) (a0 : Nat) {args : Array Value} {h0 h1 : HP} {v0 : Int32} (K : Int32 → HP → Option (Int32 × HP))
    (hK : ∀ (b2 : Int32) (h : HP), Sim Z l cX0_tableOf RX0 5 0 0 (some .int) "tableOf" args (Mq Z args h0 h1 (some (.int v0))) h0 h1 v0 58 [(2, .int b2)] [] h (K b2 h)) :
    ∀ (k : Nat) (b2 : Int32) (b3 : Int32) (h : HP), Sim Z l cX0_tableOf RX0 5 0 0 (some .int) "tableOf" args (Mq Z args h0 h1 (some (.int v0))) h0 h1 v0 6 [(0, .ref (zb Z + a0)), (2, .int b2), (3, .int b3)] [] h (lp_X0_tableOf_6 a0 K k b2 b3 h) := by
  intro k
  induction k with
  | zero => exact fun _ _ _ => Sim.none
  | succ k ih => exact lc_X0_tableOf_6 Z l a0 K _ hK ih
set_option maxRecDepth 100000 in
set_option maxHeartbeats 4000000 in
theorem c_X0_tableOf (Z : ZZ) (l : Launch) (t : Nat) (a1 : Int32) (h : HP) {v : Int32} {h1 : HP} (ho : f_X0_tableOf t a1 h = some (v, h1)) : MetP Z l yX0_tableOf cX0_tableOf 5 (some .int) 0 0 [.ref (zb Z + t), .int a1] h (some (.int v)) h1 := by
  refine MetP_of ho (by decide +kernel) (Nat.le_of_ble_eq_true rfl) [(0, .ref (zb Z + t)), (1, .int a1)] rfl (own := RX0) rfl (nm := "tableOf") rfl ?_
  unfold f_X0_tableOf
  refine S_iconst dX0_tableOf_0 (v := 1) rfl (pc' := 1) rfl ?_
  refine S_iload_n dX0_tableOf_1 rfl 1 rfl (pc' := 2) rfl ?_
  refine S_ishl dX0_tableOf_2 (pc' := 3) rfl ?_
  refine S_istore_n dX0_tableOf_3 rfl (by decide) (lo' := [(2, .int (1 <<< (a1 &&& 31))), (0, .ref (zb Z + t)), (1, .int a1)]) rfl (pc' := 4) rfl ?_
  refine S_iconst dX0_tableOf_4 (v := 0) rfl (pc' := 5) rfl ?_
  refine S_istore_n dX0_tableOf_5 rfl (by decide) (lo' := [(3, .int 0), (2, .int (1 <<< (a1 &&& 31))), (0, .ref (zb Z + t)), (1, .int a1)]) rfl (pc' := 6) rfl ?_
  refine Sim.sub [2, 1, 0] rfl ?_
  refine lq_X0_tableOf_6 Z l t _ ?_ 1000 _ _ _
  intro b2_6 h6_
  refine S_iload_n dX0_tableOf_58 rfl 0 rfl (pc' := 59) rfl ?_
  exact S_iret rfl dX0_tableOf_59
theorem dX0_weakestOn_0 : decode cX0_weakestOn 0 = .ok (.iconst (-1), 1) := by decide +kernel
theorem dX0_weakestOn_1 : decode cX0_weakestOn 1 = .ok (.istore_n 2, 1) := by decide +kernel
theorem dX0_weakestOn_2 : decode cX0_weakestOn 2 = .ok (.iconst 0, 1) := by decide +kernel
theorem dX0_weakestOn_3 : decode cX0_weakestOn 3 = .ok (.istore_n 3, 1) := by decide +kernel
theorem dX0_weakestOn_4 : decode cX0_weakestOn 4 = .ok (.iconst 0, 1) := by decide +kernel
theorem dX0_weakestOn_5 : decode cX0_weakestOn 5 = .ok (.istore 4, 2) := by decide +kernel
theorem dX0_weakestOn_7 : decode cX0_weakestOn 7 = .ok (.iload 4, 2) := by decide +kernel
theorem dX0_weakestOn_9 : decode cX0_weakestOn 9 = .ok (.aload_n 0, 1) := by decide +kernel
theorem dX0_weakestOn_10 : decode cX0_weakestOn 10 = .ok (.getfield 49, 3) := by decide +kernel
theorem dX0_weakestOn_13 : decode cX0_weakestOn 13 = .ok (.if_icmp .ge 58, 3) := by decide +kernel
theorem dX0_weakestOn_16 : decode cX0_weakestOn 16 = .ok (.aload_n 0, 1) := by decide +kernel
theorem dX0_weakestOn_17 : decode cX0_weakestOn 17 = .ok (.iload 4, 2) := by decide +kernel
theorem dX0_weakestOn_19 : decode cX0_weakestOn 19 = .ok (.iload_n 1, 1) := by decide +kernel
theorem dX0_weakestOn_20 : decode cX0_weakestOn 20 = .ok (.invokevirtual 83, 3) := by decide +kernel
theorem dX0_weakestOn_23 : decode cX0_weakestOn 23 = .ok (.istore 5, 2) := by decide +kernel
theorem dX0_weakestOn_25 : decode cX0_weakestOn 25 = .ok (.aload_n 0, 1) := by decide +kernel
theorem dX0_weakestOn_26 : decode cX0_weakestOn 26 = .ok (.iload 4, 2) := by decide +kernel
theorem dX0_weakestOn_28 : decode cX0_weakestOn 28 = .ok (.aload_n 0, 1) := by decide +kernel
theorem dX0_weakestOn_29 : decode cX0_weakestOn 29 = .ok (.getfield 34, 3) := by decide +kernel
theorem dX0_weakestOn_32 : decode cX0_weakestOn 32 = .ok (.iload_n 1, 1) := by decide +kernel
theorem dX0_weakestOn_33 : decode cX0_weakestOn 33 = .ok (.iaload, 1) := by decide +kernel
theorem dX0_weakestOn_34 : decode cX0_weakestOn 34 = .ok (.invokevirtual 99, 3) := by decide +kernel
theorem dX0_weakestOn_37 : decode cX0_weakestOn 37 = .ok (.iload 5, 2) := by decide +kernel
theorem dX0_weakestOn_39 : decode cX0_weakestOn 39 = .ok (.isub, 1) := by decide +kernel
theorem dX0_weakestOn_40 : decode cX0_weakestOn 40 = .ok (.istore 6, 2) := by decide +kernel
theorem dX0_weakestOn_42 : decode cX0_weakestOn 42 = .ok (.iload 5, 2) := by decide +kernel
theorem dX0_weakestOn_44 : decode cX0_weakestOn 44 = .ok (.iconst (-1), 1) := by decide +kernel
theorem dX0_weakestOn_45 : decode cX0_weakestOn 45 = .ok (.if_icmp .eq 20, 3) := by decide +kernel
theorem dX0_weakestOn_48 : decode cX0_weakestOn 48 = .ok (.iload_n 2, 1) := by decide +kernel
theorem dX0_weakestOn_49 : decode cX0_weakestOn 49 = .ok (.iconst (-1), 1) := by decide +kernel
theorem dX0_weakestOn_50 : decode cX0_weakestOn 50 = .ok (.if_icmp .eq 9, 3) := by decide +kernel
theorem dX0_weakestOn_53 : decode cX0_weakestOn 53 = .ok (.iload 6, 2) := by decide +kernel
theorem dX0_weakestOn_55 : decode cX0_weakestOn 55 = .ok (.iload_n 3, 1) := by decide +kernel
theorem dX0_weakestOn_56 : decode cX0_weakestOn 56 = .ok (.if_icmp .ge 9, 3) := by decide +kernel
theorem dX0_weakestOn_59 : decode cX0_weakestOn 59 = .ok (.iload 4, 2) := by decide +kernel
theorem dX0_weakestOn_61 : decode cX0_weakestOn 61 = .ok (.istore_n 2, 1) := by decide +kernel
theorem dX0_weakestOn_62 : decode cX0_weakestOn 62 = .ok (.iload 6, 2) := by decide +kernel
theorem dX0_weakestOn_64 : decode cX0_weakestOn 64 = .ok (.istore_n 3, 1) := by decide +kernel
theorem dX0_weakestOn_65 : decode cX0_weakestOn 65 = .ok (.iinc 4 1, 3) := by decide +kernel
theorem dX0_weakestOn_68 : decode cX0_weakestOn 68 = .ok (.goto (-61), 3) := by decide +kernel
theorem dX0_weakestOn_71 : decode cX0_weakestOn 71 = .ok (.iload_n 2, 1) := by decide +kernel
theorem dX0_weakestOn_72 : decode cX0_weakestOn 72 = .ok (.ireturn, 1) := by decide +kernel
set_option maxRecDepth 100000 in
set_option maxHeartbeats 4000000 in
theorem lc_X0_weakestOn_7 (Z : ZZ) (l : Launch) (a0 : Nat) (a1 : Int32) {args : Array Value} {h0 h1 : HP} {v0 : Int32} (K : Int32 → HP → Option (Int32 × HP)) (F : Int32 → Int32 → Int32 → HP → Option (Int32 × HP))
    (hK : ∀ (b2 : Int32) (h : HP), Sim Z l cX0_weakestOn RX0 7 1 25 (some .int) "weakestOn" args (Mq Z args h0 h1 (some (.int v0))) h0 h1 v0 71 [(2, .int b2)] [] h (K b2 h))
    (hF : ∀ (b2 : Int32) (b3 : Int32) (b4 : Int32) (h : HP), Sim Z l cX0_weakestOn RX0 7 1 25 (some .int) "weakestOn" args (Mq Z args h0 h1 (some (.int v0))) h0 h1 v0 7 [(0, .ref (zb Z + a0)), (1, .int a1), (2, .int b2), (3, .int b3), (4, .int b4)] [] h (F b2 b3 b4 h)) :
    ∀ (b2 : Int32) (b3 : Int32) (b4 : Int32) (h : HP), Sim Z l cX0_weakestOn RX0 7 1 25 (some .int) "weakestOn" args (Mq Z args h0 h1 (some (.int v0))) h0 h1 v0 7 [(0, .ref (zb Z + a0)), (1, .int a1), (2, .int b2), (3, .int b3), (4, .int b4)] [] h (lb_X0_weakestOn_7 a0 a1 K F b2 b3 b4 h) := by
  intro b2 b3 b4 h
  unfold lb_X0_weakestOn_7
  refine S_iload dX0_weakestOn_7 4 rfl (pc' := 9) rfl ?_
  refine S_aload_n dX0_weakestOn_9 rfl 0 rfl (pc' := 10) rfl ?_
  refine S_getI fl_X0_49 rfl dX0_weakestOn_10 (pc' := 13) rfl (fun x10 => ?_)
  refine S_icmp_ge dX0_weakestOn_13 71 rfl (pc' := 16) rfl (fun g13 => ?_) (fun g13 => ?_)
  · refine Sim.sub [2] rfl ?_
    exact hK _ _
  · refine S_aload_n dX0_weakestOn_16 rfl 0 rfl (pc' := 17) rfl ?_
    refine S_iload dX0_weakestOn_17 4 rfl (pc' := 19) rfl ?_
    refine S_iload_n dX0_weakestOn_19 rfl 1 rfl (pc' := 20) rfl ?_
    refine S_invi ml_X0_83 mi_X0_heldFor (ci := 0) ⟨_, rfl, rfl⟩ (by decide) dX0_weakestOn_20 [.int b4, .int a1] rfl (fun v h2 q => c_X0_heldFor Z l _ _ _ _ q) ⟨Nat.le_of_ble_eq_true rfl, Nat.le_of_ble_eq_true rfl⟩ (rest := []) (Nat.le_of_ble_eq_true rfl) rfl (pc' := 23) rfl (fun x20 h20 => ?_)
    refine S_istore dX0_weakestOn_23 (by decide) (lo' := [(5, .int x20), (0, .ref (zb Z + a0)), (1, .int a1), (2, .int b2), (3, .int b3), (4, .int b4)]) rfl (pc' := 25) rfl ?_
    refine S_aload_n dX0_weakestOn_25 rfl 1 rfl (pc' := 26) rfl ?_
    refine S_iload dX0_weakestOn_26 5 rfl (pc' := 28) rfl ?_
    refine S_aload_n dX0_weakestOn_28 rfl 1 rfl (pc' := 29) rfl ?_
    refine S_getR fl_X0_34 rfl dX0_weakestOn_29 (pc' := 32) rfl (fun x29 => ?_)
    refine S_iload_n dX0_weakestOn_32 rfl 2 rfl (pc' := 33) rfl ?_
    refine S_iaload dX0_weakestOn_33 (pc' := 34) rfl (fun x33 => ?_)
    refine S_invi ml_X0_99 mi_X0_holdOn (ci := 0) ⟨_, rfl, rfl⟩ (by decide) dX0_weakestOn_34 [.int b4, .int x33] rfl (fun v h2 q => c_X0_holdOn Z l _ _ _ _ q) ⟨Nat.le_of_ble_eq_true rfl, Nat.le_of_ble_eq_true rfl⟩ (rest := []) (Nat.le_of_ble_eq_true rfl) rfl (pc' := 37) rfl (fun x34 h34 => ?_)
    refine S_iload dX0_weakestOn_37 0 rfl (pc' := 39) rfl ?_
    refine S_isub dX0_weakestOn_39 (pc' := 40) rfl ?_
    refine S_istore dX0_weakestOn_40 (by decide) (lo' := [(6, .int (x34 - x20)), (5, .int x20), (0, .ref (zb Z + a0)), (1, .int a1), (2, .int b2), (3, .int b3), (4, .int b4)]) rfl (pc' := 42) rfl ?_
    refine S_iload dX0_weakestOn_42 1 rfl (pc' := 44) rfl ?_
    refine S_iconst dX0_weakestOn_44 (v := (-1)) rfl (pc' := 45) rfl ?_
    refine S_icmp_eq dX0_weakestOn_45 65 rfl (pc' := 48) rfl (fun g45 => ?_) (fun g45 => ?_)
    · refine S_iinc dX0_weakestOn_65 (q := 6) rfl (v := b4 + 1) rfl (by decide) (lo' := [(4, .int (b4 + 1)), (6, .int (x34 - x20)), (5, .int x20), (0, .ref (zb Z + a0)), (1, .int a1), (2, .int b2), (3, .int b3)]) rfl (pc' := 68) rfl ?_
      refine S_goto dX0_weakestOn_68 7 rfl ?_
      refine Sim.sub [3, 4, 5, 6, 0] rfl ?_
      exact hF _ _ _ _
    · refine S_iload_n dX0_weakestOn_48 rfl 4 rfl (pc' := 49) rfl ?_
      refine S_iconst dX0_weakestOn_49 (v := (-1)) rfl (pc' := 50) rfl ?_
      refine S_icmp_eq dX0_weakestOn_50 59 rfl (pc' := 53) rfl (fun g50 => ?_) (fun g50 => ?_)
      · refine S_iload dX0_weakestOn_59 6 rfl (pc' := 61) rfl ?_
        refine S_istore_n dX0_weakestOn_61 rfl (by decide) (lo' := [(2, .int b4), (6, .int (x34 - x20)), (5, .int x20), (0, .ref (zb Z + a0)), (1, .int a1), (3, .int b3), (4, .int b4)]) rfl (pc' := 62) rfl ?_
        refine S_iload dX0_weakestOn_62 1 rfl (pc' := 64) rfl ?_
        refine S_istore_n dX0_weakestOn_64 rfl (by decide) (lo' := [(3, .int (x34 - x20)), (2, .int b4), (6, .int (x34 - x20)), (5, .int x20), (0, .ref (zb Z + a0)), (1, .int a1), (4, .int b4)]) rfl (pc' := 65) rfl ?_
        refine S_iinc dX0_weakestOn_65 (q := 6) rfl (v := b4 + 1) rfl (by decide) (lo' := [(4, .int (b4 + 1)), (3, .int (x34 - x20)), (2, .int b4), (6, .int (x34 - x20)), (5, .int x20), (0, .ref (zb Z + a0)), (1, .int a1)]) rfl (pc' := 68) rfl ?_
        refine S_goto dX0_weakestOn_68 7 rfl ?_
        refine Sim.sub [5, 6, 2, 1, 0] rfl ?_
        exact hF _ _ _ _
      · refine S_iload dX0_weakestOn_53 0 rfl (pc' := 55) rfl ?_
        refine S_iload_n dX0_weakestOn_55 rfl 5 rfl (pc' := 56) rfl ?_
        refine S_icmp_ge dX0_weakestOn_56 65 rfl (pc' := 59) rfl (fun g56 => ?_) (fun g56 => ?_)
        · refine S_iinc dX0_weakestOn_65 (q := 6) rfl (v := b4 + 1) rfl (by decide) (lo' := [(4, .int (b4 + 1)), (6, .int (x34 - x20)), (5, .int x20), (0, .ref (zb Z + a0)), (1, .int a1), (2, .int b2), (3, .int b3)]) rfl (pc' := 68) rfl ?_
          refine S_goto dX0_weakestOn_68 7 rfl ?_
          refine Sim.sub [3, 4, 5, 6, 0] rfl ?_
          exact hF _ _ _ _
        · refine S_iload dX0_weakestOn_59 6 rfl (pc' := 61) rfl ?_
          refine S_istore_n dX0_weakestOn_61 rfl (by decide) (lo' := [(2, .int b4), (6, .int (x34 - x20)), (5, .int x20), (0, .ref (zb Z + a0)), (1, .int a1), (3, .int b3), (4, .int b4)]) rfl (pc' := 62) rfl ?_
          refine S_iload dX0_weakestOn_62 1 rfl (pc' := 64) rfl ?_
          refine S_istore_n dX0_weakestOn_64 rfl (by decide) (lo' := [(3, .int (x34 - x20)), (2, .int b4), (6, .int (x34 - x20)), (5, .int x20), (0, .ref (zb Z + a0)), (1, .int a1), (4, .int b4)]) rfl (pc' := 65) rfl ?_
          refine S_iinc dX0_weakestOn_65 (q := 6) rfl (v := b4 + 1) rfl (by decide) (lo' := [(4, .int (b4 + 1)), (3, .int (x34 - x20)), (2, .int b4), (6, .int (x34 - x20)), (5, .int x20), (0, .ref (zb Z + a0)), (1, .int a1)]) rfl (pc' := 68) rfl ?_
          refine S_goto dX0_weakestOn_68 7 rfl ?_
          refine Sim.sub [5, 6, 2, 1, 0] rfl ?_
          exact hF _ _ _ _
theorem lq_X0_weakestOn_7 (Z : ZZ) (l : Launch) (a0 : Nat) (a1 : Int32) {args : Array Value} {h0 h1 : HP} {v0 : Int32} (K : Int32 → HP → Option (Int32 × HP))
    (hK : ∀ (b2 : Int32) (h : HP), Sim Z l cX0_weakestOn RX0 7 1 25 (some .int) "weakestOn" args (Mq Z args h0 h1 (some (.int v0))) h0 h1 v0 71 [(2, .int b2)] [] h (K b2 h)) :
    ∀ (k : Nat) (b2 : Int32) (b3 : Int32) (b4 : Int32) (h : HP), Sim Z l cX0_weakestOn RX0 7 1 25 (some .int) "weakestOn" args (Mq Z args h0 h1 (some (.int v0))) h0 h1 v0 7 [(0, .ref (zb Z + a0)), (1, .int a1), (2, .int b2), (3, .int b3), (4, .int b4)] [] h (lp_X0_weakestOn_7 a0 a1 K k b2 b3 b4 h) := by
  intro k
  induction k with
  | zero => exact fun _ _ _ _ => Sim.none
  | succ k ih => exact lc_X0_weakestOn_7 Z l a0 a1 K _ hK ih
set_option maxRecDepth 100000 in
set_option maxHeartbeats 4000000 in
theorem c_X0_weakestOn (Z : ZZ) (l : Launch) (t : Nat) (a1 : Int32) (h : HP) {v : Int32} {h1 : HP} (ho : f_X0_weakestOn t a1 h = some (v, h1)) : MetP Z l yX0_weakestOn cX0_weakestOn 7 (some .int) 1 25 [.ref (zb Z + t), .int a1] h (some (.int v)) h1 := by
  refine MetP_of ho (by decide +kernel) (Nat.le_of_ble_eq_true rfl) [(0, .ref (zb Z + t)), (1, .int a1)] rfl (own := RX0) rfl (nm := "weakestOn") rfl ?_
  unfold f_X0_weakestOn
  refine S_iconst dX0_weakestOn_0 (v := (-1)) rfl (pc' := 1) rfl ?_
  refine S_istore_n dX0_weakestOn_1 rfl (by decide) (lo' := [(2, .int (-1)), (0, .ref (zb Z + t)), (1, .int a1)]) rfl (pc' := 2) rfl ?_
  refine S_iconst dX0_weakestOn_2 (v := 0) rfl (pc' := 3) rfl ?_
  refine S_istore_n dX0_weakestOn_3 rfl (by decide) (lo' := [(3, .int 0), (2, .int (-1)), (0, .ref (zb Z + t)), (1, .int a1)]) rfl (pc' := 4) rfl ?_
  refine S_iconst dX0_weakestOn_4 (v := 0) rfl (pc' := 5) rfl ?_
  refine S_istore dX0_weakestOn_5 (by decide) (lo' := [(4, .int 0), (3, .int 0), (2, .int (-1)), (0, .ref (zb Z + t)), (1, .int a1)]) rfl (pc' := 7) rfl ?_
  refine Sim.sub [3, 4, 2, 1, 0] rfl ?_
  refine lq_X0_weakestOn_7 Z l t a1 _ ?_ 1000 _ _ _ _
  intro b2_7 h7_
  refine S_iload_n dX0_weakestOn_71 rfl 0 rfl (pc' := 72) rfl ?_
  exact S_iret rfl dX0_weakestOn_72
theorem dX0_countKind_0 : decode cX0_countKind 0 = .ok (.iconst 0, 1) := by decide +kernel
theorem dX0_countKind_1 : decode cX0_countKind 1 = .ok (.istore_n 2, 1) := by decide +kernel
theorem dX0_countKind_2 : decode cX0_countKind 2 = .ok (.iconst 0, 1) := by decide +kernel
theorem dX0_countKind_3 : decode cX0_countKind 3 = .ok (.istore_n 3, 1) := by decide +kernel
theorem dX0_countKind_4 : decode cX0_countKind 4 = .ok (.iload_n 3, 1) := by decide +kernel
theorem dX0_countKind_5 : decode cX0_countKind 5 = .ok (.aload_n 0, 1) := by decide +kernel
theorem dX0_countKind_6 : decode cX0_countKind 6 = .ok (.getfield 49, 3) := by decide +kernel
theorem dX0_countKind_9 : decode cX0_countKind 9 = .ok (.if_icmp .ge 22, 3) := by decide +kernel
theorem dX0_countKind_12 : decode cX0_countKind 12 = .ok (.aload_n 0, 1) := by decide +kernel
theorem dX0_countKind_13 : decode cX0_countKind 13 = .ok (.getfield 18, 3) := by decide +kernel
theorem dX0_countKind_16 : decode cX0_countKind 16 = .ok (.iload_n 3, 1) := by decide +kernel
theorem dX0_countKind_17 : decode cX0_countKind 17 = .ok (.iaload, 1) := by decide +kernel
theorem dX0_countKind_18 : decode cX0_countKind 18 = .ok (.iload_n 1, 1) := by decide +kernel
theorem dX0_countKind_19 : decode cX0_countKind 19 = .ok (.if_icmp .ne 6, 3) := by decide +kernel
theorem dX0_countKind_22 : decode cX0_countKind 22 = .ok (.iinc 2 1, 3) := by decide +kernel
theorem dX0_countKind_25 : decode cX0_countKind 25 = .ok (.iinc 3 1, 3) := by decide +kernel
theorem dX0_countKind_28 : decode cX0_countKind 28 = .ok (.goto (-24), 3) := by decide +kernel
theorem dX0_countKind_31 : decode cX0_countKind 31 = .ok (.iload_n 2, 1) := by decide +kernel
theorem dX0_countKind_32 : decode cX0_countKind 32 = .ok (.ireturn, 1) := by decide +kernel
set_option maxRecDepth 100000 in
set_option maxHeartbeats 4000000 in
theorem lc_X0_countKind_4 (Z : ZZ) (l : Launch) (a0 : Nat) (a1 : Int32) {args : Array Value} {h0 h1 : HP} {v0 : Int32} (K : Int32 → HP → Option (Int32 × HP)) (F : Int32 → Int32 → HP → Option (Int32 × HP))
    (hK : ∀ (b2 : Int32) (h : HP), Sim Z l cX0_countKind RX0 4 0 0 (some .int) "countKind" args (Mq Z args h0 h1 (some (.int v0))) h0 h1 v0 31 [(2, .int b2)] [] h (K b2 h))
    (hF : ∀ (b2 : Int32) (b3 : Int32) (h : HP), Sim Z l cX0_countKind RX0 4 0 0 (some .int) "countKind" args (Mq Z args h0 h1 (some (.int v0))) h0 h1 v0 4 [(0, .ref (zb Z + a0)), (1, .int a1), (2, .int b2), (3, .int b3)] [] h (F b2 b3 h)) :
    ∀ (b2 : Int32) (b3 : Int32) (h : HP), Sim Z l cX0_countKind RX0 4 0 0 (some .int) "countKind" args (Mq Z args h0 h1 (some (.int v0))) h0 h1 v0 4 [(0, .ref (zb Z + a0)), (1, .int a1), (2, .int b2), (3, .int b3)] [] h (lb_X0_countKind_4 a0 a1 K F b2 b3 h) := by
  intro b2 b3 h
  unfold lb_X0_countKind_4
  refine S_iload_n dX0_countKind_4 rfl 3 rfl (pc' := 5) rfl ?_
  refine S_aload_n dX0_countKind_5 rfl 0 rfl (pc' := 6) rfl ?_
  refine S_getI fl_X0_49 rfl dX0_countKind_6 (pc' := 9) rfl (fun x6 => ?_)
  refine S_icmp_ge dX0_countKind_9 31 rfl (pc' := 12) rfl (fun g9 => ?_) (fun g9 => ?_)
  · refine Sim.sub [2] rfl ?_
    exact hK _ _
  · refine S_aload_n dX0_countKind_12 rfl 0 rfl (pc' := 13) rfl ?_
    refine S_getR fl_X0_18 rfl dX0_countKind_13 (pc' := 16) rfl (fun x13 => ?_)
    refine S_iload_n dX0_countKind_16 rfl 3 rfl (pc' := 17) rfl ?_
    refine S_iaload dX0_countKind_17 (pc' := 18) rfl (fun x17 => ?_)
    refine S_iload_n dX0_countKind_18 rfl 1 rfl (pc' := 19) rfl ?_
    refine S_icmp_ne dX0_countKind_19 25 rfl (pc' := 22) rfl (fun g19 => ?_) (fun g19 => ?_)
    · refine S_iinc dX0_countKind_25 (q := 3) rfl (v := b3 + 1) rfl (by decide) (lo' := [(3, .int (b3 + 1)), (0, .ref (zb Z + a0)), (1, .int a1), (2, .int b2)]) rfl (pc' := 28) rfl ?_
      refine S_goto dX0_countKind_28 4 rfl ?_
      refine Sim.sub [1, 2, 3, 0] rfl ?_
      exact hF _ _ _
    · refine S_iinc dX0_countKind_22 (q := 2) rfl (v := b2 + 1) rfl (by decide) (lo' := [(2, .int (b2 + 1)), (0, .ref (zb Z + a0)), (1, .int a1), (3, .int b3)]) rfl (pc' := 25) rfl ?_
      refine S_iinc dX0_countKind_25 (q := 3) rfl (v := b3 + 1) rfl (by decide) (lo' := [(3, .int (b3 + 1)), (2, .int (b2 + 1)), (0, .ref (zb Z + a0)), (1, .int a1)]) rfl (pc' := 28) rfl ?_
      refine S_goto dX0_countKind_28 4 rfl ?_
      refine Sim.sub [2, 3, 1, 0] rfl ?_
      exact hF _ _ _
theorem lq_X0_countKind_4 (Z : ZZ) (l : Launch) (a0 : Nat) (a1 : Int32) {args : Array Value} {h0 h1 : HP} {v0 : Int32} (K : Int32 → HP → Option (Int32 × HP))
    (hK : ∀ (b2 : Int32) (h : HP), Sim Z l cX0_countKind RX0 4 0 0 (some .int) "countKind" args (Mq Z args h0 h1 (some (.int v0))) h0 h1 v0 31 [(2, .int b2)] [] h (K b2 h)) :
    ∀ (k : Nat) (b2 : Int32) (b3 : Int32) (h : HP), Sim Z l cX0_countKind RX0 4 0 0 (some .int) "countKind" args (Mq Z args h0 h1 (some (.int v0))) h0 h1 v0 4 [(0, .ref (zb Z + a0)), (1, .int a1), (2, .int b2), (3, .int b3)] [] h (lp_X0_countKind_4 a0 a1 K k b2 b3 h) := by
  intro k
  induction k with
  | zero => exact fun _ _ _ => Sim.none
  | succ k ih => exact lc_X0_countKind_4 Z l a0 a1 K _ hK ih
set_option maxRecDepth 100000 in
set_option maxHeartbeats 4000000 in
theorem c_X0_countKind (Z : ZZ) (l : Launch) (t : Nat) (a1 : Int32) (h : HP) {v : Int32} {h1 : HP} (ho : f_X0_countKind t a1 h = some (v, h1)) : MetP Z l yX0_countKind cX0_countKind 4 (some .int) 0 0 [.ref (zb Z + t), .int a1] h (some (.int v)) h1 := by
  refine MetP_of ho (by decide +kernel) (Nat.le_of_ble_eq_true rfl) [(0, .ref (zb Z + t)), (1, .int a1)] rfl (own := RX0) rfl (nm := "countKind") rfl ?_
  unfold f_X0_countKind
  refine S_iconst dX0_countKind_0 (v := 0) rfl (pc' := 1) rfl ?_
  refine S_istore_n dX0_countKind_1 rfl (by decide) (lo' := [(2, .int 0), (0, .ref (zb Z + t)), (1, .int a1)]) rfl (pc' := 2) rfl ?_
  refine S_iconst dX0_countKind_2 (v := 0) rfl (pc' := 3) rfl ?_
  refine S_istore_n dX0_countKind_3 rfl (by decide) (lo' := [(3, .int 0), (2, .int 0), (0, .ref (zb Z + t)), (1, .int a1)]) rfl (pc' := 4) rfl ?_
  refine Sim.sub [2, 3, 1, 0] rfl ?_
  refine lq_X0_countKind_4 Z l t a1 _ ?_ 1000 _ _ _
  intro b2_4 h4_
  refine S_iload_n dX0_countKind_31 rfl 0 rfl (pc' := 32) rfl ?_
  exact S_iret rfl dX0_countKind_32
theorem dX0_bestMemory_0 : decode cX0_bestMemory 0 = .ok (.iconst (-1), 1) := by decide +kernel
theorem dX0_bestMemory_1 : decode cX0_bestMemory 1 = .ok (.istore_n 1, 1) := by decide +kernel
theorem dX0_bestMemory_2 : decode cX0_bestMemory 2 = .ok (.iconst 0, 1) := by decide +kernel
theorem dX0_bestMemory_3 : decode cX0_bestMemory 3 = .ok (.istore_n 2, 1) := by decide +kernel
theorem dX0_bestMemory_4 : decode cX0_bestMemory 4 = .ok (.iload_n 2, 1) := by decide +kernel
theorem dX0_bestMemory_5 : decode cX0_bestMemory 5 = .ok (.aload_n 0, 1) := by decide +kernel
theorem dX0_bestMemory_6 : decode cX0_bestMemory 6 = .ok (.getfield 49, 3) := by decide +kernel
theorem dX0_bestMemory_9 : decode cX0_bestMemory 9 = .ok (.if_icmp .ge 31, 3) := by decide +kernel
theorem dX0_bestMemory_12 : decode cX0_bestMemory 12 = .ok (.iload_n 1, 1) := by decide +kernel
theorem dX0_bestMemory_13 : decode cX0_bestMemory 13 = .ok (.iconst (-1), 1) := by decide +kernel
theorem dX0_bestMemory_14 : decode cX0_bestMemory 14 = .ok (.if_icmp .eq 18, 3) := by decide +kernel
theorem dX0_bestMemory_17 : decode cX0_bestMemory 17 = .ok (.aload_n 0, 1) := by decide +kernel
theorem dX0_bestMemory_18 : decode cX0_bestMemory 18 = .ok (.getfield 25, 3) := by decide +kernel
theorem dX0_bestMemory_21 : decode cX0_bestMemory 21 = .ok (.iload_n 2, 1) := by decide +kernel
theorem dX0_bestMemory_22 : decode cX0_bestMemory 22 = .ok (.iaload, 1) := by decide +kernel
theorem dX0_bestMemory_23 : decode cX0_bestMemory 23 = .ok (.aload_n 0, 1) := by decide +kernel
theorem dX0_bestMemory_24 : decode cX0_bestMemory 24 = .ok (.getfield 25, 3) := by decide +kernel
theorem dX0_bestMemory_27 : decode cX0_bestMemory 27 = .ok (.iload_n 1, 1) := by decide +kernel
theorem dX0_bestMemory_28 : decode cX0_bestMemory 28 = .ok (.iaload, 1) := by decide +kernel
theorem dX0_bestMemory_29 : decode cX0_bestMemory 29 = .ok (.if_icmp .le 5, 3) := by decide +kernel
theorem dX0_bestMemory_32 : decode cX0_bestMemory 32 = .ok (.iload_n 2, 1) := by decide +kernel
theorem dX0_bestMemory_33 : decode cX0_bestMemory 33 = .ok (.istore_n 1, 1) := by decide +kernel
theorem dX0_bestMemory_34 : decode cX0_bestMemory 34 = .ok (.iinc 2 1, 3) := by decide +kernel
theorem dX0_bestMemory_37 : decode cX0_bestMemory 37 = .ok (.goto (-33), 3) := by decide +kernel
theorem dX0_bestMemory_40 : decode cX0_bestMemory 40 = .ok (.iload_n 1, 1) := by decide +kernel
theorem dX0_bestMemory_41 : decode cX0_bestMemory 41 = .ok (.ireturn, 1) := by decide +kernel
set_option maxRecDepth 100000 in
set_option maxHeartbeats 4000000 in
theorem lc_X0_bestMemory_4 (Z : ZZ) (l : Launch) (a0 : Nat) {args : Array Value} {h0 h1 : HP} {v0 : Int32} (K : Int32 → HP → Option (Int32 × HP)) (F : Int32 → Int32 → HP → Option (Int32 × HP))
    (hK : ∀ (b1 : Int32) (h : HP), Sim Z l cX0_bestMemory RX0 3 0 0 (some .int) "bestMemory" args (Mq Z args h0 h1 (some (.int v0))) h0 h1 v0 40 [(1, .int b1)] [] h (K b1 h))
    (hF : ∀ (b1 : Int32) (b2 : Int32) (h : HP), Sim Z l cX0_bestMemory RX0 3 0 0 (some .int) "bestMemory" args (Mq Z args h0 h1 (some (.int v0))) h0 h1 v0 4 [(0, .ref (zb Z + a0)), (1, .int b1), (2, .int b2)] [] h (F b1 b2 h)) :
    ∀ (b1 : Int32) (b2 : Int32) (h : HP), Sim Z l cX0_bestMemory RX0 3 0 0 (some .int) "bestMemory" args (Mq Z args h0 h1 (some (.int v0))) h0 h1 v0 4 [(0, .ref (zb Z + a0)), (1, .int b1), (2, .int b2)] [] h (lb_X0_bestMemory_4 a0 K F b1 b2 h) := by
  intro b1 b2 h
  unfold lb_X0_bestMemory_4
  refine S_iload_n dX0_bestMemory_4 rfl 2 rfl (pc' := 5) rfl ?_
  refine S_aload_n dX0_bestMemory_5 rfl 0 rfl (pc' := 6) rfl ?_
  refine S_getI fl_X0_49 rfl dX0_bestMemory_6 (pc' := 9) rfl (fun x6 => ?_)
  refine S_icmp_ge dX0_bestMemory_9 40 rfl (pc' := 12) rfl (fun g9 => ?_) (fun g9 => ?_)
  · refine Sim.sub [1] rfl ?_
    exact hK _ _
  · refine S_iload_n dX0_bestMemory_12 rfl 1 rfl (pc' := 13) rfl ?_
    refine S_iconst dX0_bestMemory_13 (v := (-1)) rfl (pc' := 14) rfl ?_
    refine S_icmp_eq dX0_bestMemory_14 32 rfl (pc' := 17) rfl (fun g14 => ?_) (fun g14 => ?_)
    · refine S_iload_n dX0_bestMemory_32 rfl 2 rfl (pc' := 33) rfl ?_
      refine S_istore_n dX0_bestMemory_33 rfl (by decide) (lo' := [(1, .int b2), (0, .ref (zb Z + a0)), (2, .int b2)]) rfl (pc' := 34) rfl ?_
      refine S_iinc dX0_bestMemory_34 (q := 2) rfl (v := b2 + 1) rfl (by decide) (lo' := [(2, .int (b2 + 1)), (1, .int b2), (0, .ref (zb Z + a0))]) rfl (pc' := 37) rfl ?_
      refine S_goto dX0_bestMemory_37 4 rfl ?_
      refine Sim.sub [2, 1, 0] rfl ?_
      exact hF _ _ _
    · refine S_aload_n dX0_bestMemory_17 rfl 0 rfl (pc' := 18) rfl ?_
      refine S_getR fl_X0_25 rfl dX0_bestMemory_18 (pc' := 21) rfl (fun x18 => ?_)
      refine S_iload_n dX0_bestMemory_21 rfl 2 rfl (pc' := 22) rfl ?_
      refine S_iaload dX0_bestMemory_22 (pc' := 23) rfl (fun x22 => ?_)
      refine S_aload_n dX0_bestMemory_23 rfl 0 rfl (pc' := 24) rfl ?_
      refine S_getR fl_X0_25 rfl dX0_bestMemory_24 (pc' := 27) rfl (fun x24 => ?_)
      refine S_iload_n dX0_bestMemory_27 rfl 1 rfl (pc' := 28) rfl ?_
      refine S_iaload dX0_bestMemory_28 (pc' := 29) rfl (fun x28 => ?_)
      refine S_icmp_le dX0_bestMemory_29 34 rfl (pc' := 32) rfl (fun g29 => ?_) (fun g29 => ?_)
      · refine S_iinc dX0_bestMemory_34 (q := 2) rfl (v := b2 + 1) rfl (by decide) (lo' := [(2, .int (b2 + 1)), (0, .ref (zb Z + a0)), (1, .int b1)]) rfl (pc' := 37) rfl ?_
        refine S_goto dX0_bestMemory_37 4 rfl ?_
        refine Sim.sub [1, 2, 0] rfl ?_
        exact hF _ _ _
      · refine S_iload_n dX0_bestMemory_32 rfl 2 rfl (pc' := 33) rfl ?_
        refine S_istore_n dX0_bestMemory_33 rfl (by decide) (lo' := [(1, .int b2), (0, .ref (zb Z + a0)), (2, .int b2)]) rfl (pc' := 34) rfl ?_
        refine S_iinc dX0_bestMemory_34 (q := 2) rfl (v := b2 + 1) rfl (by decide) (lo' := [(2, .int (b2 + 1)), (1, .int b2), (0, .ref (zb Z + a0))]) rfl (pc' := 37) rfl ?_
        refine S_goto dX0_bestMemory_37 4 rfl ?_
        refine Sim.sub [2, 1, 0] rfl ?_
        exact hF _ _ _
theorem lq_X0_bestMemory_4 (Z : ZZ) (l : Launch) (a0 : Nat) {args : Array Value} {h0 h1 : HP} {v0 : Int32} (K : Int32 → HP → Option (Int32 × HP))
    (hK : ∀ (b1 : Int32) (h : HP), Sim Z l cX0_bestMemory RX0 3 0 0 (some .int) "bestMemory" args (Mq Z args h0 h1 (some (.int v0))) h0 h1 v0 40 [(1, .int b1)] [] h (K b1 h)) :
    ∀ (k : Nat) (b1 : Int32) (b2 : Int32) (h : HP), Sim Z l cX0_bestMemory RX0 3 0 0 (some .int) "bestMemory" args (Mq Z args h0 h1 (some (.int v0))) h0 h1 v0 4 [(0, .ref (zb Z + a0)), (1, .int b1), (2, .int b2)] [] h (lp_X0_bestMemory_4 a0 K k b1 b2 h) := by
  intro k
  induction k with
  | zero => exact fun _ _ _ => Sim.none
  | succ k ih => exact lc_X0_bestMemory_4 Z l a0 K _ hK ih
set_option maxRecDepth 100000 in
set_option maxHeartbeats 4000000 in
theorem c_X0_bestMemory (Z : ZZ) (l : Launch) (t : Nat) (h : HP) {v : Int32} {h1 : HP} (ho : f_X0_bestMemory t h = some (v, h1)) : MetP Z l yX0_bestMemory cX0_bestMemory 3 (some .int) 0 0 [.ref (zb Z + t)] h (some (.int v)) h1 := by
  refine MetP_of ho (by decide +kernel) (Nat.le_of_ble_eq_true rfl) [(0, .ref (zb Z + t))] rfl (own := RX0) rfl (nm := "bestMemory") rfl ?_
  unfold f_X0_bestMemory
  refine S_iconst dX0_bestMemory_0 (v := (-1)) rfl (pc' := 1) rfl ?_
  refine S_istore_n dX0_bestMemory_1 rfl (by decide) (lo' := [(1, .int (-1)), (0, .ref (zb Z + t))]) rfl (pc' := 2) rfl ?_
  refine S_iconst dX0_bestMemory_2 (v := 0) rfl (pc' := 3) rfl ?_
  refine S_istore_n dX0_bestMemory_3 rfl (by decide) (lo' := [(2, .int 0), (1, .int (-1)), (0, .ref (zb Z + t))]) rfl (pc' := 4) rfl ?_
  refine Sim.sub [2, 1, 0] rfl ?_
  refine lq_X0_bestMemory_4 Z l t _ ?_ 1000 _ _ _
  intro b1_4 h4_
  refine S_iload_n dX0_bestMemory_40 rfl 0 rfl (pc' := 41) rfl ?_
  exact S_iret rfl dX0_bestMemory_41
theorem dJ9_min_7cf53_0 : decode cJ9_min_7cf53 0 = .ok (.iload_n 0, 1) := by decide +kernel
theorem dJ9_min_7cf53_1 : decode cJ9_min_7cf53 1 = .ok (.iload_n 1, 1) := by decide +kernel
theorem dJ9_min_7cf53_2 : decode cJ9_min_7cf53 2 = .ok (.if_icmp .gt 7, 3) := by decide +kernel
theorem dJ9_min_7cf53_5 : decode cJ9_min_7cf53 5 = .ok (.iload_n 0, 1) := by decide +kernel
theorem dJ9_min_7cf53_6 : decode cJ9_min_7cf53 6 = .ok (.goto 4, 3) := by decide +kernel
theorem dJ9_min_7cf53_9 : decode cJ9_min_7cf53 9 = .ok (.iload_n 1, 1) := by decide +kernel
theorem dJ9_min_7cf53_10 : decode cJ9_min_7cf53 10 = .ok (.ireturn, 1) := by decide +kernel
set_option maxRecDepth 100000 in
set_option maxHeartbeats 4000000 in
theorem c_J9_min_7cf53 (Z : ZZ) (l : Launch) (a0 : Int32) (a1 : Int32) (h : HP) {v : Int32} {h1 : HP} (ho : f_J9_min_7cf53 a0 a1 h = some (v, h1)) : MetP Z l yJ9_min_7cf53 cJ9_min_7cf53 2 (some .int) 0 0 [.int a0, .int a1] h (some (.int v)) h1 := by
  refine MetP_of ho (by decide +kernel) (Nat.le_of_ble_eq_true rfl) [(0, .int a0), (1, .int a1)] rfl (own := RJ9) rfl (nm := "min") rfl ?_
  unfold f_J9_min_7cf53
  refine S_iload_n dJ9_min_7cf53_0 rfl 0 rfl (pc' := 1) rfl ?_
  refine S_iload_n dJ9_min_7cf53_1 rfl 1 rfl (pc' := 2) rfl ?_
  refine S_icmp_gt dJ9_min_7cf53_2 9 rfl (pc' := 5) rfl (fun g2 => ?_) (fun g2 => ?_)
  · refine S_iload_n dJ9_min_7cf53_9 rfl 1 rfl (pc' := 10) rfl ?_
    exact S_iret rfl dJ9_min_7cf53_10
  · refine S_iload_n dJ9_min_7cf53_5 rfl 0 rfl (pc' := 6) rfl ?_
    refine S_goto dJ9_min_7cf53_6 10 rfl ?_
    exact S_iret rfl dJ9_min_7cf53_10
theorem dX0_countYear_0 : decode cX0_countYear 0 = .ok (.aload_n 0, 1) := by decide +kernel
theorem dX0_countYear_1 : decode cX0_countYear 1 = .ok (.sipush 999, 3) := by decide +kernel
theorem dX0_countYear_4 : decode cX0_countYear 4 = .ok (.aload_n 0, 1) := by decide +kernel
theorem dX0_countYear_5 : decode cX0_countYear 5 = .ok (.getfield 55, 3) := by decide +kernel
theorem dX0_countYear_8 : decode cX0_countYear 8 = .ok (.iconst 1, 1) := by decide +kernel
theorem dX0_countYear_9 : decode cX0_countYear 9 = .ok (.iadd, 1) := by decide +kernel
theorem dX0_countYear_10 : decode cX0_countYear 10 = .ok (.invokestatic 109, 3) := by decide +kernel
theorem dX0_countYear_13 : decode cX0_countYear 13 = .ok (.putfield 55, 3) := by decide +kernel
theorem dX0_countYear_16 : decode cX0_countYear 16 = .ok (.return_, 1) := by decide +kernel
set_option maxRecDepth 100000 in
set_option maxHeartbeats 4000000 in
theorem c_X0_countYear (Z : ZZ) (l : Launch) (t : Nat) (h : HP) {v : Unit} {h1 : HP} (ho : f_X0_countYear t h = some (v, h1)) : MetP Z l yX0_countYear cX0_countYear 1 (none) 1 21 [.ref (zb Z + t)] h (none) h1 := by
  refine MetP_of ho (by decide +kernel) (Nat.le_of_ble_eq_true rfl) [(0, .ref (zb Z + t))] rfl (own := RX0) rfl (nm := "countYear") rfl ?_
  unfold f_X0_countYear
  refine S_aload_n dX0_countYear_0 rfl 0 rfl (pc' := 1) rfl ?_
  refine S_sipush dX0_countYear_1 (v := 999) rfl (pc' := 4) rfl ?_
  refine S_aload_n dX0_countYear_4 rfl 0 rfl (pc' := 5) rfl ?_
  refine S_getI fl_X0_55 rfl dX0_countYear_5 (pc' := 8) rfl (fun x5 => ?_)
  refine S_iconst dX0_countYear_8 (v := 1) rfl (pc' := 9) rfl ?_
  refine S_iadd dX0_countYear_9 (pc' := 10) rfl ?_
  refine S_stai ml_X0_109 ms_J9_min_7cf53 dX0_countYear_10 [.int 999, .int (x5 + 1)] rfl (fun v h2 q => c_J9_min_7cf53 Z l _ _ _ q) ⟨Nat.le_of_ble_eq_true rfl, Nat.le_of_ble_eq_true rfl⟩ (rest := [.ref (zb Z + t)]) (Nat.le_of_ble_eq_true rfl) rfl (pc' := 13) rfl (fun x10 h10 => ?_)
  refine S_putI fl_X0_55 (by decide) rfl dX0_countYear_13 (pc' := 16) rfl (fun h13 => ?_)
  exact S_vret rfl dX0_countYear_16
theorem dX0_forget_0 : decode cX0_forget 0 = .ok (.iconst 0, 1) := by decide +kernel
theorem dX0_forget_1 : decode cX0_forget 1 = .ok (.istore_n 2, 1) := by decide +kernel
theorem dX0_forget_2 : decode cX0_forget 2 = .ok (.iload_n 2, 1) := by decide +kernel
theorem dX0_forget_3 : decode cX0_forget 3 = .ok (.aload_n 0, 1) := by decide +kernel
theorem dX0_forget_4 : decode cX0_forget 4 = .ok (.getfield 49, 3) := by decide +kernel
theorem dX0_forget_7 : decode cX0_forget 7 = .ok (.if_icmp .ge 83, 3) := by decide +kernel
theorem dX0_forget_10 : decode cX0_forget 10 = .ok (.aload_n 0, 1) := by decide +kernel
theorem dX0_forget_11 : decode cX0_forget 11 = .ok (.iload_n 2, 1) := by decide +kernel
theorem dX0_forget_12 : decode cX0_forget 12 = .ok (.iload_n 1, 1) := by decide +kernel
theorem dX0_forget_13 : decode cX0_forget 13 = .ok (.invokevirtual 83, 3) := by decide +kernel
theorem dX0_forget_16 : decode cX0_forget 16 = .ok (.istore_n 3, 1) := by decide +kernel
theorem dX0_forget_17 : decode cX0_forget 17 = .ok (.iload_n 3, 1) := by decide +kernel
theorem dX0_forget_18 : decode cX0_forget 18 = .ok (.iconst (-1), 1) := by decide +kernel
theorem dX0_forget_19 : decode cX0_forget 19 = .ok (.if_icmp .eq 65, 3) := by decide +kernel
theorem dX0_forget_22 : decode cX0_forget 22 = .ok (.bipush 99, 2) := by decide +kernel
theorem dX0_forget_24 : decode cX0_forget 24 = .ok (.iload_n 3, 1) := by decide +kernel
theorem dX0_forget_25 : decode cX0_forget 25 = .ok (.iconst 1, 1) := by decide +kernel
theorem dX0_forget_26 : decode cX0_forget 26 = .ok (.iadd, 1) := by decide +kernel
theorem dX0_forget_27 : decode cX0_forget 27 = .ok (.invokestatic 109, 3) := by decide +kernel
theorem dX0_forget_30 : decode cX0_forget 30 = .ok (.istore 4, 2) := by decide +kernel
theorem dX0_forget_32 : decode cX0_forget 32 = .ok (.aload_n 0, 1) := by decide +kernel
theorem dX0_forget_33 : decode cX0_forget 33 = .ok (.getfield 58, 3) := by decide +kernel
theorem dX0_forget_36 : decode cX0_forget 36 = .ok (.iload_n 2, 1) := by decide +kernel
theorem dX0_forget_37 : decode cX0_forget 37 = .ok (.ishr, 1) := by decide +kernel
theorem dX0_forget_38 : decode cX0_forget 38 = .ok (.iconst 1, 1) := by decide +kernel
theorem dX0_forget_39 : decode cX0_forget 39 = .ok (.iand, 1) := by decide +kernel
theorem dX0_forget_40 : decode cX0_forget 40 = .ok (.iconst 1, 1) := by decide +kernel
theorem dX0_forget_41 : decode cX0_forget 41 = .ok (.if_icmp .eq 19, 3) := by decide +kernel
theorem dX0_forget_44 : decode cX0_forget 44 = .ok (.iload 4, 2) := by decide +kernel
theorem dX0_forget_46 : decode cX0_forget 46 = .ok (.aload_n 0, 1) := by decide +kernel
theorem dX0_forget_47 : decode cX0_forget 47 = .ok (.iload_n 2, 1) := by decide +kernel
theorem dX0_forget_48 : decode cX0_forget 48 = .ok (.aload_n 0, 1) := by decide +kernel
theorem dX0_forget_49 : decode cX0_forget 49 = .ok (.getfield 34, 3) := by decide +kernel
theorem dX0_forget_52 : decode cX0_forget 52 = .ok (.iload_n 1, 1) := by decide +kernel
theorem dX0_forget_53 : decode cX0_forget 53 = .ok (.iaload, 1) := by decide +kernel
theorem dX0_forget_54 : decode cX0_forget 54 = .ok (.invokevirtual 99, 3) := by decide +kernel
theorem dX0_forget_57 : decode cX0_forget 57 = .ok (.if_icmp .gt 7, 3) := by decide +kernel
theorem dX0_forget_60 : decode cX0_forget 60 = .ok (.iconst 1, 1) := by decide +kernel
theorem dX0_forget_61 : decode cX0_forget 61 = .ok (.goto 4, 3) := by decide +kernel
theorem dX0_forget_64 : decode cX0_forget 64 = .ok (.iconst 0, 1) := by decide +kernel
theorem dX0_forget_65 : decode cX0_forget 65 = .ok (.istore 5, 2) := by decide +kernel
theorem dX0_forget_67 : decode cX0_forget 67 = .ok (.aload_n 0, 1) := by decide +kernel
theorem dX0_forget_68 : decode cX0_forget 68 = .ok (.iload_n 2, 1) := by decide +kernel
theorem dX0_forget_69 : decode cX0_forget 69 = .ok (.iload_n 1, 1) := by decide +kernel
theorem dX0_forget_70 : decode cX0_forget 70 = .ok (.iload 5, 2) := by decide +kernel
theorem dX0_forget_72 : decode cX0_forget 72 = .ok (.ifCond .eq 8, 3) := by decide +kernel
theorem dX0_forget_75 : decode cX0_forget 75 = .ok (.iload 4, 2) := by decide +kernel
theorem dX0_forget_77 : decode cX0_forget 77 = .ok (.goto 4, 3) := by decide +kernel
theorem dX0_forget_80 : decode cX0_forget 80 = .ok (.iconst (-1), 1) := by decide +kernel
theorem dX0_forget_81 : decode cX0_forget 81 = .ok (.invokevirtual 71, 3) := by decide +kernel
theorem dX0_forget_84 : decode cX0_forget 84 = .ok (.iinc 2 1, 3) := by decide +kernel
theorem dX0_forget_87 : decode cX0_forget 87 = .ok (.goto (-85), 3) := by decide +kernel
theorem dX0_forget_90 : decode cX0_forget 90 = .ok (.return_, 1) := by decide +kernel
set_option maxRecDepth 100000 in
set_option maxHeartbeats 4000000 in
theorem lc_X0_forget_2 (Z : ZZ) (l : Launch) (a0 : Nat) (a1 : Int32) {args : Array Value} {h0 h1 : HP} {v0 : Unit} (K : HP → Option (Unit × HP)) (F : Int32 → HP → Option (Unit × HP))
    (hK : ∀ (h : HP), Sim Z l cX0_forget RX0 6 1 25 (none) "forget" args (Mq Z args h0 h1 (none)) h0 h1 v0 90 [] [] h (K h))
    (hF : ∀ (b2 : Int32) (h : HP), Sim Z l cX0_forget RX0 6 1 25 (none) "forget" args (Mq Z args h0 h1 (none)) h0 h1 v0 2 [(0, .ref (zb Z + a0)), (1, .int a1), (2, .int b2)] [] h (F b2 h)) :
    ∀ (b2 : Int32) (h : HP), Sim Z l cX0_forget RX0 6 1 25 (none) "forget" args (Mq Z args h0 h1 (none)) h0 h1 v0 2 [(0, .ref (zb Z + a0)), (1, .int a1), (2, .int b2)] [] h (lb_X0_forget_2 a0 a1 K F b2 h) := by
  intro b2 h
  unfold lb_X0_forget_2
  refine S_iload_n dX0_forget_2 rfl 2 rfl (pc' := 3) rfl ?_
  refine S_aload_n dX0_forget_3 rfl 0 rfl (pc' := 4) rfl ?_
  refine S_getI fl_X0_49 rfl dX0_forget_4 (pc' := 7) rfl (fun x4 => ?_)
  refine S_icmp_ge dX0_forget_7 90 rfl (pc' := 10) rfl (fun g7 => ?_) (fun g7 => ?_)
  · refine Sim.sub [] rfl ?_
    exact hK _
  · refine S_aload_n dX0_forget_10 rfl 0 rfl (pc' := 11) rfl ?_
    refine S_iload_n dX0_forget_11 rfl 2 rfl (pc' := 12) rfl ?_
    refine S_iload_n dX0_forget_12 rfl 1 rfl (pc' := 13) rfl ?_
    refine S_invi ml_X0_83 mi_X0_heldFor (ci := 0) ⟨_, rfl, rfl⟩ (by decide) dX0_forget_13 [.int b2, .int a1] rfl (fun v h2 q => c_X0_heldFor Z l _ _ _ _ q) ⟨Nat.le_of_ble_eq_true rfl, Nat.le_of_ble_eq_true rfl⟩ (rest := []) (Nat.le_of_ble_eq_true rfl) rfl (pc' := 16) rfl (fun x13 h13 => ?_)
    refine S_istore_n dX0_forget_16 rfl (by decide) (lo' := [(3, .int x13), (0, .ref (zb Z + a0)), (1, .int a1), (2, .int b2)]) rfl (pc' := 17) rfl ?_
    refine S_iload_n dX0_forget_17 rfl 0 rfl (pc' := 18) rfl ?_
    refine S_iconst dX0_forget_18 (v := (-1)) rfl (pc' := 19) rfl ?_
    refine S_icmp_eq dX0_forget_19 84 rfl (pc' := 22) rfl (fun g19 => ?_) (fun g19 => ?_)
    · refine S_iinc dX0_forget_84 (q := 3) rfl (v := b2 + 1) rfl (by decide) (lo' := [(2, .int (b2 + 1)), (3, .int x13), (0, .ref (zb Z + a0)), (1, .int a1)]) rfl (pc' := 87) rfl ?_
      refine S_goto dX0_forget_87 2 rfl ?_
      refine Sim.sub [2, 3, 0] rfl ?_
      exact hF _ _
    · refine S_bipush dX0_forget_22 (v := 99) rfl (pc' := 24) rfl ?_
      refine S_iload_n dX0_forget_24 rfl 0 rfl (pc' := 25) rfl ?_
      refine S_iconst dX0_forget_25 (v := 1) rfl (pc' := 26) rfl ?_
      refine S_iadd dX0_forget_26 (pc' := 27) rfl ?_
      refine S_stai ml_X0_109 ms_J9_min_7cf53 dX0_forget_27 [.int 99, .int (x13 + 1)] rfl (fun v h2 q => c_J9_min_7cf53 Z l _ _ _ q) ⟨Nat.le_of_ble_eq_true rfl, Nat.le_of_ble_eq_true rfl⟩ (rest := []) (Nat.le_of_ble_eq_true rfl) rfl (pc' := 30) rfl (fun x27 h27 => ?_)
      refine S_istore dX0_forget_30 (by decide) (lo' := [(4, .int x27), (3, .int x13), (0, .ref (zb Z + a0)), (1, .int a1), (2, .int b2)]) rfl (pc' := 32) rfl ?_
      refine S_aload_n dX0_forget_32 rfl 2 rfl (pc' := 33) rfl ?_
      refine S_getI fl_X0_58 rfl dX0_forget_33 (pc' := 36) rfl (fun x33 => ?_)
      refine S_iload_n dX0_forget_36 rfl 4 rfl (pc' := 37) rfl ?_
      refine S_ishr dX0_forget_37 (pc' := 38) rfl ?_
      refine S_iconst dX0_forget_38 (v := 1) rfl (pc' := 39) rfl ?_
      refine S_iand dX0_forget_39 (pc' := 40) rfl ?_
      refine S_iconst dX0_forget_40 (v := 1) rfl (pc' := 41) rfl ?_
      refine S_icmp_eq dX0_forget_41 60 rfl (pc' := 44) rfl (fun g41 => ?_) (fun g41 => ?_)
      · refine S_iconst dX0_forget_60 (v := 1) rfl (pc' := 61) rfl ?_
        refine S_goto dX0_forget_61 65 rfl ?_
        refine S_istore dX0_forget_65 (by decide) (lo' := [(5, .int 1), (4, .int x27), (3, .int x13), (0, .ref (zb Z + a0)), (1, .int a1), (2, .int b2)]) rfl (pc' := 67) rfl ?_
        refine S_aload_n dX0_forget_67 rfl 3 rfl (pc' := 68) rfl ?_
        refine S_iload_n dX0_forget_68 rfl 5 rfl (pc' := 69) rfl ?_
        refine S_iload_n dX0_forget_69 rfl 4 rfl (pc' := 70) rfl ?_
        refine S_iload dX0_forget_70 0 rfl (pc' := 72) rfl ?_
        refine S_if_eq_N dX0_forget_72 80 rfl (pc' := 75) rfl (by decide) ?_
        refine S_iload dX0_forget_75 1 rfl (pc' := 77) rfl ?_
        refine S_goto dX0_forget_77 81 rfl ?_
        refine S_invv ml_X0_71 mi_X0_setHeld (ci := 0) ⟨_, rfl, rfl⟩ (by decide) dX0_forget_81 [.int b2, .int a1, .int x27] rfl (fun v h2 q => c_X0_setHeld Z l _ _ _ _ _ q) ⟨Nat.le_of_ble_eq_true rfl, Nat.le_of_ble_eq_true rfl⟩ (rest := []) (Nat.le_of_ble_eq_true rfl) rfl (pc' := 84) rfl (fun _ h81 => ?_)
        refine S_iinc dX0_forget_84 (q := 5) rfl (v := b2 + 1) rfl (by decide) (lo' := [(2, .int (b2 + 1)), (5, .int 1), (4, .int x27), (3, .int x13), (0, .ref (zb Z + a0)), (1, .int a1)]) rfl (pc' := 87) rfl ?_
        refine S_goto dX0_forget_87 2 rfl ?_
        refine Sim.sub [4, 5, 0] rfl ?_
        exact hF _ _
      · refine S_iload dX0_forget_44 0 rfl (pc' := 46) rfl ?_
        refine S_aload_n dX0_forget_46 rfl 2 rfl (pc' := 47) rfl ?_
        refine S_iload_n dX0_forget_47 rfl 4 rfl (pc' := 48) rfl ?_
        refine S_aload_n dX0_forget_48 rfl 2 rfl (pc' := 49) rfl ?_
        refine S_getR fl_X0_34 rfl dX0_forget_49 (pc' := 52) rfl (fun x49 => ?_)
        refine S_iload_n dX0_forget_52 rfl 3 rfl (pc' := 53) rfl ?_
        refine S_iaload dX0_forget_53 (pc' := 54) rfl (fun x53 => ?_)
        refine S_invi ml_X0_99 mi_X0_holdOn (ci := 0) ⟨_, rfl, rfl⟩ (by decide) dX0_forget_54 [.int b2, .int x53] rfl (fun v h2 q => c_X0_holdOn Z l _ _ _ _ q) ⟨Nat.le_of_ble_eq_true rfl, Nat.le_of_ble_eq_true rfl⟩ (rest := [.int x27]) (Nat.le_of_ble_eq_true rfl) rfl (pc' := 57) rfl (fun x54 h54 => ?_)
        refine S_icmp_gt dX0_forget_57 64 rfl (pc' := 60) rfl (fun g57 => ?_) (fun g57 => ?_)
        · refine S_iconst dX0_forget_64 (v := 0) rfl (pc' := 65) rfl ?_
          refine S_istore dX0_forget_65 (by decide) (lo' := [(5, .int 0), (4, .int x27), (3, .int x13), (0, .ref (zb Z + a0)), (1, .int a1), (2, .int b2)]) rfl (pc' := 67) rfl ?_
          refine S_aload_n dX0_forget_67 rfl 3 rfl (pc' := 68) rfl ?_
          refine S_iload_n dX0_forget_68 rfl 5 rfl (pc' := 69) rfl ?_
          refine S_iload_n dX0_forget_69 rfl 4 rfl (pc' := 70) rfl ?_
          refine S_iload dX0_forget_70 0 rfl (pc' := 72) rfl ?_
          refine S_if_eq_J dX0_forget_72 80 rfl (pc' := 75) rfl (by decide) ?_
          refine S_iconst dX0_forget_80 (v := (-1)) rfl (pc' := 81) rfl ?_
          refine S_invv ml_X0_71 mi_X0_setHeld (ci := 0) ⟨_, rfl, rfl⟩ (by decide) dX0_forget_81 [.int b2, .int a1, .int (-1)] rfl (fun v h2 q => c_X0_setHeld Z l _ _ _ _ _ q) ⟨Nat.le_of_ble_eq_true rfl, Nat.le_of_ble_eq_true rfl⟩ (rest := []) (Nat.le_of_ble_eq_true rfl) rfl (pc' := 84) rfl (fun _ h81 => ?_)
          refine S_iinc dX0_forget_84 (q := 5) rfl (v := b2 + 1) rfl (by decide) (lo' := [(2, .int (b2 + 1)), (5, .int 0), (4, .int x27), (3, .int x13), (0, .ref (zb Z + a0)), (1, .int a1)]) rfl (pc' := 87) rfl ?_
          refine S_goto dX0_forget_87 2 rfl ?_
          refine Sim.sub [4, 5, 0] rfl ?_
          exact hF _ _
        · refine S_iconst dX0_forget_60 (v := 1) rfl (pc' := 61) rfl ?_
          refine S_goto dX0_forget_61 65 rfl ?_
          refine S_istore dX0_forget_65 (by decide) (lo' := [(5, .int 1), (4, .int x27), (3, .int x13), (0, .ref (zb Z + a0)), (1, .int a1), (2, .int b2)]) rfl (pc' := 67) rfl ?_
          refine S_aload_n dX0_forget_67 rfl 3 rfl (pc' := 68) rfl ?_
          refine S_iload_n dX0_forget_68 rfl 5 rfl (pc' := 69) rfl ?_
          refine S_iload_n dX0_forget_69 rfl 4 rfl (pc' := 70) rfl ?_
          refine S_iload dX0_forget_70 0 rfl (pc' := 72) rfl ?_
          refine S_if_eq_N dX0_forget_72 80 rfl (pc' := 75) rfl (by decide) ?_
          refine S_iload dX0_forget_75 1 rfl (pc' := 77) rfl ?_
          refine S_goto dX0_forget_77 81 rfl ?_
          refine S_invv ml_X0_71 mi_X0_setHeld (ci := 0) ⟨_, rfl, rfl⟩ (by decide) dX0_forget_81 [.int b2, .int a1, .int x27] rfl (fun v h2 q => c_X0_setHeld Z l _ _ _ _ _ q) ⟨Nat.le_of_ble_eq_true rfl, Nat.le_of_ble_eq_true rfl⟩ (rest := []) (Nat.le_of_ble_eq_true rfl) rfl (pc' := 84) rfl (fun _ h81 => ?_)
          refine S_iinc dX0_forget_84 (q := 5) rfl (v := b2 + 1) rfl (by decide) (lo' := [(2, .int (b2 + 1)), (5, .int 1), (4, .int x27), (3, .int x13), (0, .ref (zb Z + a0)), (1, .int a1)]) rfl (pc' := 87) rfl ?_
          refine S_goto dX0_forget_87 2 rfl ?_
          refine Sim.sub [4, 5, 0] rfl ?_
          exact hF _ _
theorem lq_X0_forget_2 (Z : ZZ) (l : Launch) (a0 : Nat) (a1 : Int32) {args : Array Value} {h0 h1 : HP} {v0 : Unit} (K : HP → Option (Unit × HP))
    (hK : ∀ (h : HP), Sim Z l cX0_forget RX0 6 1 25 (none) "forget" args (Mq Z args h0 h1 (none)) h0 h1 v0 90 [] [] h (K h)) :
    ∀ (k : Nat) (b2 : Int32) (h : HP), Sim Z l cX0_forget RX0 6 1 25 (none) "forget" args (Mq Z args h0 h1 (none)) h0 h1 v0 2 [(0, .ref (zb Z + a0)), (1, .int a1), (2, .int b2)] [] h (lp_X0_forget_2 a0 a1 K k b2 h) := by
  intro k
  induction k with
  | zero => exact fun _ _ => Sim.none
  | succ k ih => exact lc_X0_forget_2 Z l a0 a1 K _ hK ih
set_option maxRecDepth 100000 in
set_option maxHeartbeats 4000000 in
theorem c_X0_forget (Z : ZZ) (l : Launch) (t : Nat) (a1 : Int32) (h : HP) {v : Unit} {h1 : HP} (ho : f_X0_forget t a1 h = some (v, h1)) : MetP Z l yX0_forget cX0_forget 6 (none) 1 25 [.ref (zb Z + t), .int a1] h (none) h1 := by
  refine MetP_of ho (by decide +kernel) (Nat.le_of_ble_eq_true rfl) [(0, .ref (zb Z + t)), (1, .int a1)] rfl (own := RX0) rfl (nm := "forget") rfl ?_
  unfold f_X0_forget
  refine S_iconst dX0_forget_0 (v := 0) rfl (pc' := 1) rfl ?_
  refine S_istore_n dX0_forget_1 rfl (by decide) (lo' := [(2, .int 0), (0, .ref (zb Z + t)), (1, .int a1)]) rfl (pc' := 2) rfl ?_
  refine Sim.sub [1, 2, 0] rfl ?_
  refine lq_X0_forget_2 Z l t a1 _ ?_ 1000 _ _
  intro h2_
  exact S_vret rfl dX0_forget_90
theorem dX0_pickUp_0 : decode cX0_pickUp 0 = .ok (.aload_n 0, 1) := by decide +kernel
theorem dX0_pickUp_1 : decode cX0_pickUp 1 = .ok (.iload_n 1, 1) := by decide +kernel
theorem dX0_pickUp_2 : decode cX0_pickUp 2 = .ok (.invokevirtual 91, 3) := by decide +kernel
theorem dX0_pickUp_5 : decode cX0_pickUp 5 = .ok (.istore_n 2, 1) := by decide +kernel
theorem dX0_pickUp_6 : decode cX0_pickUp 6 = .ok (.iconst 0, 1) := by decide +kernel
theorem dX0_pickUp_7 : decode cX0_pickUp 7 = .ok (.istore_n 3, 1) := by decide +kernel
theorem dX0_pickUp_8 : decode cX0_pickUp 8 = .ok (.iload_n 3, 1) := by decide +kernel
theorem dX0_pickUp_9 : decode cX0_pickUp 9 = .ok (.aload_n 0, 1) := by decide +kernel
theorem dX0_pickUp_10 : decode cX0_pickUp 10 = .ok (.getfield 49, 3) := by decide +kernel
theorem dX0_pickUp_13 : decode cX0_pickUp 13 = .ok (.if_icmp .ge 57, 3) := by decide +kernel
theorem dX0_pickUp_16 : decode cX0_pickUp 16 = .ok (.iload_n 2, 1) := by decide +kernel
theorem dX0_pickUp_17 : decode cX0_pickUp 17 = .ok (.iload_n 3, 1) := by decide +kernel
theorem dX0_pickUp_18 : decode cX0_pickUp 18 = .ok (.ishr, 1) := by decide +kernel
theorem dX0_pickUp_19 : decode cX0_pickUp 19 = .ok (.iconst 1, 1) := by decide +kernel
theorem dX0_pickUp_20 : decode cX0_pickUp 20 = .ok (.iand, 1) := by decide +kernel
theorem dX0_pickUp_21 : decode cX0_pickUp 21 = .ok (.ifCond .ne 7, 3) := by decide +kernel
theorem dX0_pickUp_24 : decode cX0_pickUp 24 = .ok (.iconst 1, 1) := by decide +kernel
theorem dX0_pickUp_25 : decode cX0_pickUp 25 = .ok (.goto 4, 3) := by decide +kernel
theorem dX0_pickUp_28 : decode cX0_pickUp 28 = .ok (.iconst 0, 1) := by decide +kernel
theorem dX0_pickUp_29 : decode cX0_pickUp 29 = .ok (.istore 4, 2) := by decide +kernel
theorem dX0_pickUp_31 : decode cX0_pickUp 31 = .ok (.aload_n 0, 1) := by decide +kernel
theorem dX0_pickUp_32 : decode cX0_pickUp 32 = .ok (.getfield 18, 3) := by decide +kernel
theorem dX0_pickUp_35 : decode cX0_pickUp 35 = .ok (.iload_n 3, 1) := by decide +kernel
theorem dX0_pickUp_36 : decode cX0_pickUp 36 = .ok (.iaload, 1) := by decide +kernel
theorem dX0_pickUp_37 : decode cX0_pickUp 37 = .ok (.iconst 5, 1) := by decide +kernel
theorem dX0_pickUp_38 : decode cX0_pickUp 38 = .ok (.if_icmp .ne 26, 3) := by decide +kernel
theorem dX0_pickUp_41 : decode cX0_pickUp 41 = .ok (.iload 4, 2) := by decide +kernel
theorem dX0_pickUp_43 : decode cX0_pickUp 43 = .ok (.ifCond .eq 21, 3) := by decide +kernel
theorem dX0_pickUp_46 : decode cX0_pickUp 46 = .ok (.aload_n 0, 1) := by decide +kernel
theorem dX0_pickUp_47 : decode cX0_pickUp 47 = .ok (.getfield 31, 3) := by decide +kernel
theorem dX0_pickUp_50 : decode cX0_pickUp 50 = .ok (.iload_n 3, 1) := by decide +kernel
theorem dX0_pickUp_51 : decode cX0_pickUp 51 = .ok (.iaload, 1) := by decide +kernel
theorem dX0_pickUp_52 : decode cX0_pickUp 52 = .ok (.iload_n 2, 1) := by decide +kernel
theorem dX0_pickUp_53 : decode cX0_pickUp 53 = .ok (.iand, 1) := by decide +kernel
theorem dX0_pickUp_54 : decode cX0_pickUp 54 = .ok (.ifCond .eq 10, 3) := by decide +kernel
theorem dX0_pickUp_57 : decode cX0_pickUp 57 = .ok (.aload_n 0, 1) := by decide +kernel
theorem dX0_pickUp_58 : decode cX0_pickUp 58 = .ok (.iload_n 3, 1) := by decide +kernel
theorem dX0_pickUp_59 : decode cX0_pickUp 59 = .ok (.iload_n 1, 1) := by decide +kernel
theorem dX0_pickUp_60 : decode cX0_pickUp 60 = .ok (.iconst 0, 1) := by decide +kernel
theorem dX0_pickUp_61 : decode cX0_pickUp 61 = .ok (.invokevirtual 71, 3) := by decide +kernel
theorem dX0_pickUp_64 : decode cX0_pickUp 64 = .ok (.iinc 3 1, 3) := by decide +kernel
theorem dX0_pickUp_67 : decode cX0_pickUp 67 = .ok (.goto (-59), 3) := by decide +kernel
theorem dX0_pickUp_70 : decode cX0_pickUp 70 = .ok (.return_, 1) := by decide +kernel
set_option maxRecDepth 100000 in
set_option maxHeartbeats 4000000 in
theorem lc_X0_pickUp_8 (Z : ZZ) (l : Launch) (a0 : Nat) (a1 : Int32) (a2 : Int32) {args : Array Value} {h0 h1 : HP} {v0 : Unit} (K : HP → Option (Unit × HP)) (F : Int32 → HP → Option (Unit × HP))
    (hK : ∀ (h : HP), Sim Z l cX0_pickUp RX0 5 2 45 (none) "pickUp" args (Mq Z args h0 h1 (none)) h0 h1 v0 70 [] [] h (K h))
    (hF : ∀ (b3 : Int32) (h : HP), Sim Z l cX0_pickUp RX0 5 2 45 (none) "pickUp" args (Mq Z args h0 h1 (none)) h0 h1 v0 8 [(0, .ref (zb Z + a0)), (1, .int a1), (2, .int a2), (3, .int b3)] [] h (F b3 h)) :
    ∀ (b3 : Int32) (h : HP), Sim Z l cX0_pickUp RX0 5 2 45 (none) "pickUp" args (Mq Z args h0 h1 (none)) h0 h1 v0 8 [(0, .ref (zb Z + a0)), (1, .int a1), (2, .int a2), (3, .int b3)] [] h (lb_X0_pickUp_8 a0 a1 a2 K F b3 h) := by
  intro b3 h
  unfold lb_X0_pickUp_8
  refine S_iload_n dX0_pickUp_8 rfl 3 rfl (pc' := 9) rfl ?_
  refine S_aload_n dX0_pickUp_9 rfl 0 rfl (pc' := 10) rfl ?_
  refine S_getI fl_X0_49 rfl dX0_pickUp_10 (pc' := 13) rfl (fun x10 => ?_)
  refine S_icmp_ge dX0_pickUp_13 70 rfl (pc' := 16) rfl (fun g13 => ?_) (fun g13 => ?_)
  · refine Sim.sub [] rfl ?_
    exact hK _
  · refine S_iload_n dX0_pickUp_16 rfl 2 rfl (pc' := 17) rfl ?_
    refine S_iload_n dX0_pickUp_17 rfl 3 rfl (pc' := 18) rfl ?_
    refine S_ishr dX0_pickUp_18 (pc' := 19) rfl ?_
    refine S_iconst dX0_pickUp_19 (v := 1) rfl (pc' := 20) rfl ?_
    refine S_iand dX0_pickUp_20 (pc' := 21) rfl ?_
    refine S_if_ne dX0_pickUp_21 28 rfl (pc' := 24) rfl (fun g21 => ?_) (fun g21 => ?_)
    · refine S_iconst dX0_pickUp_28 (v := 0) rfl (pc' := 29) rfl ?_
      refine S_istore dX0_pickUp_29 (by decide) (lo' := [(4, .int 0), (0, .ref (zb Z + a0)), (1, .int a1), (2, .int a2), (3, .int b3)]) rfl (pc' := 31) rfl ?_
      refine S_aload_n dX0_pickUp_31 rfl 1 rfl (pc' := 32) rfl ?_
      refine S_getR fl_X0_18 rfl dX0_pickUp_32 (pc' := 35) rfl (fun x32 => ?_)
      refine S_iload_n dX0_pickUp_35 rfl 4 rfl (pc' := 36) rfl ?_
      refine S_iaload dX0_pickUp_36 (pc' := 37) rfl (fun x36 => ?_)
      refine S_iconst dX0_pickUp_37 (v := 5) rfl (pc' := 38) rfl ?_
      refine S_icmp_ne dX0_pickUp_38 64 rfl (pc' := 41) rfl (fun g38 => ?_) (fun g38 => ?_)
      · refine S_iinc dX0_pickUp_64 (q := 4) rfl (v := b3 + 1) rfl (by decide) (lo' := [(3, .int (b3 + 1)), (4, .int 0), (0, .ref (zb Z + a0)), (1, .int a1), (2, .int a2)]) rfl (pc' := 67) rfl ?_
        refine S_goto dX0_pickUp_67 8 rfl ?_
        refine Sim.sub [2, 3, 4, 0] rfl ?_
        exact hF _ _
      · refine S_iload dX0_pickUp_41 0 rfl (pc' := 43) rfl ?_
        refine S_if_eq_J dX0_pickUp_43 64 rfl (pc' := 46) rfl (by decide) ?_
        refine S_iinc dX0_pickUp_64 (q := 4) rfl (v := b3 + 1) rfl (by decide) (lo' := [(3, .int (b3 + 1)), (4, .int 0), (0, .ref (zb Z + a0)), (1, .int a1), (2, .int a2)]) rfl (pc' := 67) rfl ?_
        refine S_goto dX0_pickUp_67 8 rfl ?_
        refine Sim.sub [2, 3, 4, 0] rfl ?_
        exact hF _ _
    · refine S_iconst dX0_pickUp_24 (v := 1) rfl (pc' := 25) rfl ?_
      refine S_goto dX0_pickUp_25 29 rfl ?_
      refine S_istore dX0_pickUp_29 (by decide) (lo' := [(4, .int 1), (0, .ref (zb Z + a0)), (1, .int a1), (2, .int a2), (3, .int b3)]) rfl (pc' := 31) rfl ?_
      refine S_aload_n dX0_pickUp_31 rfl 1 rfl (pc' := 32) rfl ?_
      refine S_getR fl_X0_18 rfl dX0_pickUp_32 (pc' := 35) rfl (fun x32 => ?_)
      refine S_iload_n dX0_pickUp_35 rfl 4 rfl (pc' := 36) rfl ?_
      refine S_iaload dX0_pickUp_36 (pc' := 37) rfl (fun x36 => ?_)
      refine S_iconst dX0_pickUp_37 (v := 5) rfl (pc' := 38) rfl ?_
      refine S_icmp_ne dX0_pickUp_38 64 rfl (pc' := 41) rfl (fun g38 => ?_) (fun g38 => ?_)
      · refine S_iinc dX0_pickUp_64 (q := 4) rfl (v := b3 + 1) rfl (by decide) (lo' := [(3, .int (b3 + 1)), (4, .int 1), (0, .ref (zb Z + a0)), (1, .int a1), (2, .int a2)]) rfl (pc' := 67) rfl ?_
        refine S_goto dX0_pickUp_67 8 rfl ?_
        refine Sim.sub [2, 3, 4, 0] rfl ?_
        exact hF _ _
      · refine S_iload dX0_pickUp_41 0 rfl (pc' := 43) rfl ?_
        refine S_if_eq_N dX0_pickUp_43 64 rfl (pc' := 46) rfl (by decide) ?_
        refine S_aload_n dX0_pickUp_46 rfl 1 rfl (pc' := 47) rfl ?_
        refine S_getR fl_X0_31 rfl dX0_pickUp_47 (pc' := 50) rfl (fun x47 => ?_)
        refine S_iload_n dX0_pickUp_50 rfl 4 rfl (pc' := 51) rfl ?_
        refine S_iaload dX0_pickUp_51 (pc' := 52) rfl (fun x51 => ?_)
        refine S_iload_n dX0_pickUp_52 rfl 3 rfl (pc' := 53) rfl ?_
        refine S_iand dX0_pickUp_53 (pc' := 54) rfl ?_
        refine S_if_eq dX0_pickUp_54 64 rfl (pc' := 57) rfl (fun g54 => ?_) (fun g54 => ?_)
        · refine S_iinc dX0_pickUp_64 (q := 4) rfl (v := b3 + 1) rfl (by decide) (lo' := [(3, .int (b3 + 1)), (4, .int 1), (0, .ref (zb Z + a0)), (1, .int a1), (2, .int a2)]) rfl (pc' := 67) rfl ?_
          refine S_goto dX0_pickUp_67 8 rfl ?_
          refine Sim.sub [2, 3, 4, 0] rfl ?_
          exact hF _ _
        · refine S_aload_n dX0_pickUp_57 rfl 1 rfl (pc' := 58) rfl ?_
          refine S_iload_n dX0_pickUp_58 rfl 4 rfl (pc' := 59) rfl ?_
          refine S_iload_n dX0_pickUp_59 rfl 2 rfl (pc' := 60) rfl ?_
          refine S_iconst dX0_pickUp_60 (v := 0) rfl (pc' := 61) rfl ?_
          refine S_invv ml_X0_71 mi_X0_setHeld (ci := 0) ⟨_, rfl, rfl⟩ (by decide) dX0_pickUp_61 [.int b3, .int a1, .int 0] rfl (fun v h2 q => c_X0_setHeld Z l _ _ _ _ _ q) ⟨Nat.le_of_ble_eq_true rfl, Nat.le_of_ble_eq_true rfl⟩ (rest := []) (Nat.le_of_ble_eq_true rfl) rfl (pc' := 64) rfl (fun _ h61 => ?_)
          refine S_iinc dX0_pickUp_64 (q := 4) rfl (v := b3 + 1) rfl (by decide) (lo' := [(3, .int (b3 + 1)), (4, .int 1), (0, .ref (zb Z + a0)), (1, .int a1), (2, .int a2)]) rfl (pc' := 67) rfl ?_
          refine S_goto dX0_pickUp_67 8 rfl ?_
          refine Sim.sub [2, 3, 4, 0] rfl ?_
          exact hF _ _
theorem lq_X0_pickUp_8 (Z : ZZ) (l : Launch) (a0 : Nat) (a1 : Int32) (a2 : Int32) {args : Array Value} {h0 h1 : HP} {v0 : Unit} (K : HP → Option (Unit × HP))
    (hK : ∀ (h : HP), Sim Z l cX0_pickUp RX0 5 2 45 (none) "pickUp" args (Mq Z args h0 h1 (none)) h0 h1 v0 70 [] [] h (K h)) :
    ∀ (k : Nat) (b3 : Int32) (h : HP), Sim Z l cX0_pickUp RX0 5 2 45 (none) "pickUp" args (Mq Z args h0 h1 (none)) h0 h1 v0 8 [(0, .ref (zb Z + a0)), (1, .int a1), (2, .int a2), (3, .int b3)] [] h (lp_X0_pickUp_8 a0 a1 a2 K k b3 h) := by
  intro k
  induction k with
  | zero => exact fun _ _ => Sim.none
  | succ k ih => exact lc_X0_pickUp_8 Z l a0 a1 a2 K _ hK ih
set_option maxRecDepth 100000 in
set_option maxHeartbeats 4000000 in
theorem c_X0_pickUp (Z : ZZ) (l : Launch) (t : Nat) (a1 : Int32) (h : HP) {v : Unit} {h1 : HP} (ho : f_X0_pickUp t a1 h = some (v, h1)) : MetP Z l yX0_pickUp cX0_pickUp 5 (none) 2 45 [.ref (zb Z + t), .int a1] h (none) h1 := by
  refine MetP_of ho (by decide +kernel) (Nat.le_of_ble_eq_true rfl) [(0, .ref (zb Z + t)), (1, .int a1)] rfl (own := RX0) rfl (nm := "pickUp") rfl ?_
  unfold f_X0_pickUp
  refine S_aload_n dX0_pickUp_0 rfl 0 rfl (pc' := 1) rfl ?_
  refine S_iload_n dX0_pickUp_1 rfl 1 rfl (pc' := 2) rfl ?_
  refine S_invi ml_X0_91 mi_X0_havers (ci := 0) ⟨_, rfl, rfl⟩ (by decide) dX0_pickUp_2 [.int a1] rfl (fun v h2 q => c_X0_havers Z l _ _ _ q) ⟨Nat.le_of_ble_eq_true rfl, Nat.le_of_ble_eq_true rfl⟩ (rest := []) (Nat.le_of_ble_eq_true rfl) rfl (pc' := 5) rfl (fun x2 h2 => ?_)
  refine S_istore_n dX0_pickUp_5 rfl (by decide) (lo' := [(2, .int x2), (0, .ref (zb Z + t)), (1, .int a1)]) rfl (pc' := 6) rfl ?_
  refine S_iconst dX0_pickUp_6 (v := 0) rfl (pc' := 7) rfl ?_
  refine S_istore_n dX0_pickUp_7 rfl (by decide) (lo' := [(3, .int 0), (2, .int x2), (0, .ref (zb Z + t)), (1, .int a1)]) rfl (pc' := 8) rfl ?_
  refine Sim.sub [2, 3, 1, 0] rfl ?_
  refine lq_X0_pickUp_8 Z l t a1 x2 _ ?_ 1000 _ _
  intro h8_
  exact S_vret rfl dX0_pickUp_70
theorem dX0_callUp_0 : decode cX0_callUp 0 = .ok (.aload_n 0, 1) := by decide +kernel
theorem dX0_callUp_1 : decode cX0_callUp 1 = .ok (.getfield 40, 3) := by decide +kernel
theorem dX0_callUp_4 : decode cX0_callUp 4 = .ok (.iload_n 1, 1) := by decide +kernel
theorem dX0_callUp_5 : decode cX0_callUp 5 = .ok (.iaload, 1) := by decide +kernel
theorem dX0_callUp_6 : decode cX0_callUp 6 = .ok (.iconst 1, 1) := by decide +kernel
theorem dX0_callUp_7 : decode cX0_callUp 7 = .ok (.if_icmp .ne 18, 3) := by decide +kernel
theorem dX0_callUp_10 : decode cX0_callUp 10 = .ok (.aload_n 0, 1) := by decide +kernel
theorem dX0_callUp_11 : decode cX0_callUp 11 = .ok (.getfield 37, 3) := by decide +kernel
theorem dX0_callUp_14 : decode cX0_callUp 14 = .ok (.iload_n 1, 1) := by decide +kernel
theorem dX0_callUp_15 : decode cX0_callUp 15 = .ok (.iaload, 1) := by decide +kernel
theorem dX0_callUp_16 : decode cX0_callUp 16 = .ok (.aload_n 0, 1) := by decide +kernel
theorem dX0_callUp_17 : decode cX0_callUp 17 = .ok (.getfield 55, 3) := by decide +kernel
theorem dX0_callUp_20 : decode cX0_callUp 20 = .ok (.iconst 5, 1) := by decide +kernel
theorem dX0_callUp_21 : decode cX0_callUp 21 = .ok (.irem, 1) := by decide +kernel
theorem dX0_callUp_22 : decode cX0_callUp 22 = .ok (.if_icmp .eq 5, 3) := by decide +kernel
theorem dX0_callUp_25 : decode cX0_callUp 25 = .ok (.iconst 0, 1) := by decide +kernel
theorem dX0_callUp_26 : decode cX0_callUp 26 = .ok (.ireturn, 1) := by decide +kernel
theorem dX0_callUp_27 : decode cX0_callUp 27 = .ok (.aload_n 0, 1) := by decide +kernel
theorem dX0_callUp_28 : decode cX0_callUp 28 = .ok (.invokevirtual 124, 3) := by decide +kernel
theorem dX0_callUp_31 : decode cX0_callUp 31 = .ok (.istore_n 2, 1) := by decide +kernel
theorem dX0_callUp_32 : decode cX0_callUp 32 = .ok (.iload_n 2, 1) := by decide +kernel
theorem dX0_callUp_33 : decode cX0_callUp 33 = .ok (.iconst (-1), 1) := by decide +kernel
theorem dX0_callUp_34 : decode cX0_callUp 34 = .ok (.if_icmp .ne 5, 3) := by decide +kernel
theorem dX0_callUp_37 : decode cX0_callUp 37 = .ok (.iconst 0, 1) := by decide +kernel
theorem dX0_callUp_38 : decode cX0_callUp 38 = .ok (.ireturn, 1) := by decide +kernel
theorem dX0_callUp_39 : decode cX0_callUp 39 = .ok (.aload_n 0, 1) := by decide +kernel
theorem dX0_callUp_40 : decode cX0_callUp 40 = .ok (.iload_n 2, 1) := by decide +kernel
theorem dX0_callUp_41 : decode cX0_callUp 41 = .ok (.iload_n 1, 1) := by decide +kernel
theorem dX0_callUp_42 : decode cX0_callUp 42 = .ok (.iconst 0, 1) := by decide +kernel
theorem dX0_callUp_43 : decode cX0_callUp 43 = .ok (.invokevirtual 71, 3) := by decide +kernel
theorem dX0_callUp_46 : decode cX0_callUp 46 = .ok (.aload_n 0, 1) := by decide +kernel
theorem dX0_callUp_47 : decode cX0_callUp 47 = .ok (.getfield 40, 3) := by decide +kernel
theorem dX0_callUp_50 : decode cX0_callUp 50 = .ok (.iload_n 1, 1) := by decide +kernel
theorem dX0_callUp_51 : decode cX0_callUp 51 = .ok (.iconst 2, 1) := by decide +kernel
theorem dX0_callUp_52 : decode cX0_callUp 52 = .ok (.iastore, 1) := by decide +kernel
theorem dX0_callUp_53 : decode cX0_callUp 53 = .ok (.iconst 1, 1) := by decide +kernel
theorem dX0_callUp_54 : decode cX0_callUp 54 = .ok (.ireturn, 1) := by decide +kernel
set_option maxRecDepth 100000 in
set_option maxHeartbeats 4000000 in
theorem c_X0_callUp (Z : ZZ) (l : Launch) (t : Nat) (a1 : Int32) (h : HP) {v : Int32} {h1 : HP} (ho : f_X0_callUp t a1 h = some (v, h1)) : MetP Z l yX0_callUp cX0_callUp 3 (some .boolean) 1 23 [.ref (zb Z + t), .int a1] h (some (.int v)) h1 := by
  refine MetP_of ho (by decide +kernel) (Nat.le_of_ble_eq_true rfl) [(0, .ref (zb Z + t)), (1, .int a1)] rfl (own := RX0) rfl (nm := "callUp") rfl ?_
  unfold f_X0_callUp
  refine S_aload_n dX0_callUp_0 rfl 0 rfl (pc' := 1) rfl ?_
  refine S_getR fl_X0_40 rfl dX0_callUp_1 (pc' := 4) rfl (fun x1 => ?_)
  refine S_iload_n dX0_callUp_4 rfl 1 rfl (pc' := 5) rfl ?_
  refine S_iaload dX0_callUp_5 (pc' := 6) rfl (fun x5 => ?_)
  refine S_iconst dX0_callUp_6 (v := 1) rfl (pc' := 7) rfl ?_
  refine S_icmp_ne dX0_callUp_7 25 rfl (pc' := 10) rfl (fun g7 => ?_) (fun g7 => ?_)
  · refine S_iconst dX0_callUp_25 (v := 0) rfl (pc' := 26) rfl ?_
    exact S_zret rfl dX0_callUp_26
  · refine S_aload_n dX0_callUp_10 rfl 0 rfl (pc' := 11) rfl ?_
    refine S_getR fl_X0_37 rfl dX0_callUp_11 (pc' := 14) rfl (fun x11 => ?_)
    refine S_iload_n dX0_callUp_14 rfl 1 rfl (pc' := 15) rfl ?_
    refine S_iaload dX0_callUp_15 (pc' := 16) rfl (fun x15 => ?_)
    refine S_aload_n dX0_callUp_16 rfl 0 rfl (pc' := 17) rfl ?_
    refine S_getI fl_X0_55 rfl dX0_callUp_17 (pc' := 20) rfl (fun x17 => ?_)
    refine S_iconst dX0_callUp_20 (v := 5) rfl (pc' := 21) rfl ?_
    refine S_irem dX0_callUp_21 (pc' := 22) rfl ?_
    refine S_icmp_eq dX0_callUp_22 27 rfl (pc' := 25) rfl (fun g22 => ?_) (fun g22 => ?_)
    · refine S_aload_n dX0_callUp_27 rfl 0 rfl (pc' := 28) rfl ?_
      refine S_invi ml_X0_124 mi_X0_bestMemory (ci := 0) ⟨_, rfl, rfl⟩ (by decide) dX0_callUp_28 [] rfl (fun v h2 q => c_X0_bestMemory Z l _ _ q) ⟨Nat.le_of_ble_eq_true rfl, Nat.le_of_ble_eq_true rfl⟩ (rest := []) (Nat.le_of_ble_eq_true rfl) rfl (pc' := 31) rfl (fun x28 h28 => ?_)
      refine S_istore_n dX0_callUp_31 rfl (by decide) (lo' := [(2, .int x28), (0, .ref (zb Z + t)), (1, .int a1)]) rfl (pc' := 32) rfl ?_
      refine S_iload_n dX0_callUp_32 rfl 0 rfl (pc' := 33) rfl ?_
      refine S_iconst dX0_callUp_33 (v := (-1)) rfl (pc' := 34) rfl ?_
      refine S_icmp_ne dX0_callUp_34 39 rfl (pc' := 37) rfl (fun g34 => ?_) (fun g34 => ?_)
      · refine S_aload_n dX0_callUp_39 rfl 1 rfl (pc' := 40) rfl ?_
        refine S_iload_n dX0_callUp_40 rfl 0 rfl (pc' := 41) rfl ?_
        refine S_iload_n dX0_callUp_41 rfl 2 rfl (pc' := 42) rfl ?_
        refine S_iconst dX0_callUp_42 (v := 0) rfl (pc' := 43) rfl ?_
        refine S_invv ml_X0_71 mi_X0_setHeld (ci := 0) ⟨_, rfl, rfl⟩ (by decide) dX0_callUp_43 [.int x28, .int a1, .int 0] rfl (fun v h2 q => c_X0_setHeld Z l _ _ _ _ _ q) ⟨Nat.le_of_ble_eq_true rfl, Nat.le_of_ble_eq_true rfl⟩ (rest := []) (Nat.le_of_ble_eq_true rfl) rfl (pc' := 46) rfl (fun _ h43 => ?_)
        refine S_aload_n dX0_callUp_46 rfl 1 rfl (pc' := 47) rfl ?_
        refine S_getR fl_X0_40 rfl dX0_callUp_47 (pc' := 50) rfl (fun x47 => ?_)
        refine S_iload_n dX0_callUp_50 rfl 2 rfl (pc' := 51) rfl ?_
        refine S_iconst dX0_callUp_51 (v := 2) rfl (pc' := 52) rfl ?_
        refine S_iastore dX0_callUp_52 (pc' := 53) rfl (fun h52 => ?_)
        refine S_iconst dX0_callUp_53 (v := 1) rfl (pc' := 54) rfl ?_
        exact S_zret rfl dX0_callUp_54
      · refine S_iconst dX0_callUp_37 (v := 0) rfl (pc' := 38) rfl ?_
        exact S_zret rfl dX0_callUp_38
    · refine S_iconst dX0_callUp_25 (v := 0) rfl (pc' := 26) rfl ?_
      exact S_zret rfl dX0_callUp_26
theorem dX0_passSong_0 : decode cX0_passSong 0 = .ok (.aload_n 0, 1) := by decide +kernel
theorem dX0_passSong_1 : decode cX0_passSong 1 = .ok (.iload_n 1, 1) := by decide +kernel
theorem dX0_passSong_2 : decode cX0_passSong 2 = .ok (.invokevirtual 114, 3) := by decide +kernel
theorem dX0_passSong_5 : decode cX0_passSong 5 = .ok (.aload_n 0, 1) := by decide +kernel
theorem dX0_passSong_6 : decode cX0_passSong 6 = .ok (.iload_n 1, 1) := by decide +kernel
theorem dX0_passSong_7 : decode cX0_passSong 7 = .ok (.invokevirtual 118, 3) := by decide +kernel
theorem dX0_passSong_10 : decode cX0_passSong 10 = .ok (.aload_n 0, 1) := by decide +kernel
theorem dX0_passSong_11 : decode cX0_passSong 11 = .ok (.iload_n 1, 1) := by decide +kernel
theorem dX0_passSong_12 : decode cX0_passSong 12 = .ok (.invokevirtual 121, 3) := by decide +kernel
theorem dX0_passSong_15 : decode cX0_passSong 15 = .ok (.istore_n 2, 1) := by decide +kernel
theorem dX0_passSong_16 : decode cX0_passSong 16 = .ok (.aload_n 0, 1) := by decide +kernel
theorem dX0_passSong_17 : decode cX0_passSong 17 = .ok (.getfield 40, 3) := by decide +kernel
theorem dX0_passSong_20 : decode cX0_passSong 20 = .ok (.iload_n 1, 1) := by decide +kernel
theorem dX0_passSong_21 : decode cX0_passSong 21 = .ok (.iaload, 1) := by decide +kernel
theorem dX0_passSong_22 : decode cX0_passSong 22 = .ok (.ifCond .ne 18, 3) := by decide +kernel
theorem dX0_passSong_25 : decode cX0_passSong 25 = .ok (.aload_n 0, 1) := by decide +kernel
theorem dX0_passSong_26 : decode cX0_passSong 26 = .ok (.iload_n 1, 1) := by decide +kernel
theorem dX0_passSong_27 : decode cX0_passSong 27 = .ok (.invokevirtual 91, 3) := by decide +kernel
theorem dX0_passSong_30 : decode cX0_passSong 30 = .ok (.ifCond .ne 10, 3) := by decide +kernel
theorem dX0_passSong_33 : decode cX0_passSong 33 = .ok (.aload_n 0, 1) := by decide +kernel
theorem dX0_passSong_34 : decode cX0_passSong 34 = .ok (.getfield 40, 3) := by decide +kernel
theorem dX0_passSong_37 : decode cX0_passSong 37 = .ok (.iload_n 1, 1) := by decide +kernel
theorem dX0_passSong_38 : decode cX0_passSong 38 = .ok (.iconst 1, 1) := by decide +kernel
theorem dX0_passSong_39 : decode cX0_passSong 39 = .ok (.iastore, 1) := by decide +kernel
theorem dX0_passSong_40 : decode cX0_passSong 40 = .ok (.iload_n 2, 1) := by decide +kernel
theorem dX0_passSong_41 : decode cX0_passSong 41 = .ok (.ireturn, 1) := by decide +kernel
set_option maxRecDepth 100000 in
set_option maxHeartbeats 4000000 in
theorem c_X0_passSong (Z : ZZ) (l : Launch) (t : Nat) (a1 : Int32) (h : HP) {v : Int32} {h1 : HP} (ho : f_X0_passSong t a1 h = some (v, h1)) : MetP Z l yX0_passSong cX0_passSong 3 (some .boolean) 3 69 [.ref (zb Z + t), .int a1] h (some (.int v)) h1 := by
  refine MetP_of ho (by decide +kernel) (Nat.le_of_ble_eq_true rfl) [(0, .ref (zb Z + t)), (1, .int a1)] rfl (own := RX0) rfl (nm := "passSong") rfl ?_
  unfold f_X0_passSong
  refine S_aload_n dX0_passSong_0 rfl 0 rfl (pc' := 1) rfl ?_
  refine S_iload_n dX0_passSong_1 rfl 1 rfl (pc' := 2) rfl ?_
  refine S_invv ml_X0_114 mi_X0_forget (ci := 0) ⟨_, rfl, rfl⟩ (by decide) dX0_passSong_2 [.int a1] rfl (fun v h2 q => c_X0_forget Z l _ _ _ q) ⟨Nat.le_of_ble_eq_true rfl, Nat.le_of_ble_eq_true rfl⟩ (rest := []) (Nat.le_of_ble_eq_true rfl) rfl (pc' := 5) rfl (fun _ h2 => ?_)
  refine S_aload_n dX0_passSong_5 rfl 0 rfl (pc' := 6) rfl ?_
  refine S_iload_n dX0_passSong_6 rfl 1 rfl (pc' := 7) rfl ?_
  refine S_invv ml_X0_118 mi_X0_pickUp (ci := 0) ⟨_, rfl, rfl⟩ (by decide) dX0_passSong_7 [.int a1] rfl (fun v h2 q => c_X0_pickUp Z l _ _ _ q) ⟨Nat.le_of_ble_eq_true rfl, Nat.le_of_ble_eq_true rfl⟩ (rest := []) (Nat.le_of_ble_eq_true rfl) rfl (pc' := 10) rfl (fun _ h7 => ?_)
  refine S_aload_n dX0_passSong_10 rfl 0 rfl (pc' := 11) rfl ?_
  refine S_iload_n dX0_passSong_11 rfl 1 rfl (pc' := 12) rfl ?_
  refine S_invi ml_X0_121 mi_X0_callUp (ci := 0) ⟨_, rfl, rfl⟩ (by decide) dX0_passSong_12 [.int a1] rfl (fun v h2 q => c_X0_callUp Z l _ _ _ q) ⟨Nat.le_of_ble_eq_true rfl, Nat.le_of_ble_eq_true rfl⟩ (rest := []) (Nat.le_of_ble_eq_true rfl) rfl (pc' := 15) rfl (fun x12 h12 => ?_)
  refine S_istore_n dX0_passSong_15 rfl (by decide) (lo' := [(2, .int x12), (0, .ref (zb Z + t)), (1, .int a1)]) rfl (pc' := 16) rfl ?_
  refine S_aload_n dX0_passSong_16 rfl 1 rfl (pc' := 17) rfl ?_
  refine S_getR fl_X0_40 rfl dX0_passSong_17 (pc' := 20) rfl (fun x17 => ?_)
  refine S_iload_n dX0_passSong_20 rfl 2 rfl (pc' := 21) rfl ?_
  refine S_iaload dX0_passSong_21 (pc' := 22) rfl (fun x21 => ?_)
  refine S_if_ne dX0_passSong_22 40 rfl (pc' := 25) rfl (fun g22 => ?_) (fun g22 => ?_)
  · refine S_iload_n dX0_passSong_40 rfl 0 rfl (pc' := 41) rfl ?_
    exact S_zret rfl dX0_passSong_41
  · refine S_aload_n dX0_passSong_25 rfl 1 rfl (pc' := 26) rfl ?_
    refine S_iload_n dX0_passSong_26 rfl 2 rfl (pc' := 27) rfl ?_
    refine S_invi ml_X0_91 mi_X0_havers (ci := 0) ⟨_, rfl, rfl⟩ (by decide) dX0_passSong_27 [.int a1] rfl (fun v h2 q => c_X0_havers Z l _ _ _ q) ⟨Nat.le_of_ble_eq_true rfl, Nat.le_of_ble_eq_true rfl⟩ (rest := []) (Nat.le_of_ble_eq_true rfl) rfl (pc' := 30) rfl (fun x27 h27 => ?_)
    refine S_if_ne dX0_passSong_30 40 rfl (pc' := 33) rfl (fun g30 => ?_) (fun g30 => ?_)
    · refine S_iload_n dX0_passSong_40 rfl 0 rfl (pc' := 41) rfl ?_
      exact S_zret rfl dX0_passSong_41
    · refine S_aload_n dX0_passSong_33 rfl 1 rfl (pc' := 34) rfl ?_
      refine S_getR fl_X0_40 rfl dX0_passSong_34 (pc' := 37) rfl (fun x34 => ?_)
      refine S_iload_n dX0_passSong_37 rfl 2 rfl (pc' := 38) rfl ?_
      refine S_iconst dX0_passSong_38 (v := 1) rfl (pc' := 39) rfl ?_
      refine S_iastore dX0_passSong_39 (pc' := 40) rfl (fun h39 => ?_)
      refine S_iload_n dX0_passSong_40 rfl 0 rfl (pc' := 41) rfl ?_
      exact S_zret rfl dX0_passSong_41
theorem dX0_passYear_0 : decode cX0_passYear 0 = .ok (.aload_n 0, 1) := by decide +kernel
theorem dX0_passYear_1 : decode cX0_passYear 1 = .ok (.invokevirtual 102, 3) := by decide +kernel
theorem dX0_passYear_4 : decode cX0_passYear 4 = .ok (.iconst 0, 1) := by decide +kernel
theorem dX0_passYear_5 : decode cX0_passYear 5 = .ok (.istore_n 1, 1) := by decide +kernel
theorem dX0_passYear_6 : decode cX0_passYear 6 = .ok (.iconst 0, 1) := by decide +kernel
theorem dX0_passYear_7 : decode cX0_passYear 7 = .ok (.istore_n 2, 1) := by decide +kernel
theorem dX0_passYear_8 : decode cX0_passYear 8 = .ok (.iload_n 2, 1) := by decide +kernel
theorem dX0_passYear_9 : decode cX0_passYear 9 = .ok (.aload_n 0, 1) := by decide +kernel
theorem dX0_passYear_10 : decode cX0_passYear 10 = .ok (.getfield 52, 3) := by decide +kernel
theorem dX0_passYear_13 : decode cX0_passYear 13 = .ok (.if_icmp .ge 20, 3) := by decide +kernel
theorem dX0_passYear_16 : decode cX0_passYear 16 = .ok (.aload_n 0, 1) := by decide +kernel
theorem dX0_passYear_17 : decode cX0_passYear 17 = .ok (.iload_n 2, 1) := by decide +kernel
theorem dX0_passYear_18 : decode cX0_passYear 18 = .ok (.invokevirtual 105, 3) := by decide +kernel
theorem dX0_passYear_21 : decode cX0_passYear 21 = .ok (.ifCond .eq 6, 3) := by decide +kernel
theorem dX0_passYear_24 : decode cX0_passYear 24 = .ok (.iinc 1 1, 3) := by decide +kernel
theorem dX0_passYear_27 : decode cX0_passYear 27 = .ok (.iinc 2 1, 3) := by decide +kernel
theorem dX0_passYear_30 : decode cX0_passYear 30 = .ok (.goto (-22), 3) := by decide +kernel
theorem dX0_passYear_33 : decode cX0_passYear 33 = .ok (.iload_n 1, 1) := by decide +kernel
theorem dX0_passYear_34 : decode cX0_passYear 34 = .ok (.ireturn, 1) := by decide +kernel
set_option maxRecDepth 100000 in
set_option maxHeartbeats 4000000 in
theorem lc_X0_passYear_8 (Z : ZZ) (l : Launch) (a0 : Nat) {args : Array Value} {h0 h1 : HP} {v0 : Int32} (K : Int32 → HP → Option (Int32 × HP)) (F : Int32 → Int32 → HP → Option (Int32 × HP))
    (hK : ∀ (b1 : Int32) (h : HP), Sim Z l cX0_passYear RX0 3 4 91 (some .int) "passYear" args (Mq Z args h0 h1 (some (.int v0))) h0 h1 v0 33 [(1, .int b1)] [] h (K b1 h))
    (hF : ∀ (b1 : Int32) (b2 : Int32) (h : HP), Sim Z l cX0_passYear RX0 3 4 91 (some .int) "passYear" args (Mq Z args h0 h1 (some (.int v0))) h0 h1 v0 8 [(0, .ref (zb Z + a0)), (1, .int b1), (2, .int b2)] [] h (F b1 b2 h)) :
    ∀ (b1 : Int32) (b2 : Int32) (h : HP), Sim Z l cX0_passYear RX0 3 4 91 (some .int) "passYear" args (Mq Z args h0 h1 (some (.int v0))) h0 h1 v0 8 [(0, .ref (zb Z + a0)), (1, .int b1), (2, .int b2)] [] h (lb_X0_passYear_8 a0 K F b1 b2 h) := by
  intro b1 b2 h
  unfold lb_X0_passYear_8
  refine S_iload_n dX0_passYear_8 rfl 2 rfl (pc' := 9) rfl ?_
  refine S_aload_n dX0_passYear_9 rfl 0 rfl (pc' := 10) rfl ?_
  refine S_getI fl_X0_52 rfl dX0_passYear_10 (pc' := 13) rfl (fun x10 => ?_)
  refine S_icmp_ge dX0_passYear_13 33 rfl (pc' := 16) rfl (fun g13 => ?_) (fun g13 => ?_)
  · refine Sim.sub [1] rfl ?_
    exact hK _ _
  · refine S_aload_n dX0_passYear_16 rfl 0 rfl (pc' := 17) rfl ?_
    refine S_iload_n dX0_passYear_17 rfl 2 rfl (pc' := 18) rfl ?_
    refine S_invi ml_X0_105 mi_X0_passSong (ci := 0) ⟨_, rfl, rfl⟩ (by decide) dX0_passYear_18 [.int b2] rfl (fun v h2 q => c_X0_passSong Z l _ _ _ q) ⟨Nat.le_of_ble_eq_true rfl, Nat.le_of_ble_eq_true rfl⟩ (rest := []) (Nat.le_of_ble_eq_true rfl) rfl (pc' := 21) rfl (fun x18 h18 => ?_)
    refine S_if_eq dX0_passYear_21 27 rfl (pc' := 24) rfl (fun g21 => ?_) (fun g21 => ?_)
    · refine S_iinc dX0_passYear_27 (q := 2) rfl (v := b2 + 1) rfl (by decide) (lo' := [(2, .int (b2 + 1)), (0, .ref (zb Z + a0)), (1, .int b1)]) rfl (pc' := 30) rfl ?_
      refine S_goto dX0_passYear_30 8 rfl ?_
      refine Sim.sub [1, 2, 0] rfl ?_
      exact hF _ _ _
    · refine S_iinc dX0_passYear_24 (q := 1) rfl (v := b1 + 1) rfl (by decide) (lo' := [(1, .int (b1 + 1)), (0, .ref (zb Z + a0)), (2, .int b2)]) rfl (pc' := 27) rfl ?_
      refine S_iinc dX0_passYear_27 (q := 2) rfl (v := b2 + 1) rfl (by decide) (lo' := [(2, .int (b2 + 1)), (1, .int (b1 + 1)), (0, .ref (zb Z + a0))]) rfl (pc' := 30) rfl ?_
      refine S_goto dX0_passYear_30 8 rfl ?_
      refine Sim.sub [2, 1, 0] rfl ?_
      exact hF _ _ _
theorem lq_X0_passYear_8 (Z : ZZ) (l : Launch) (a0 : Nat) {args : Array Value} {h0 h1 : HP} {v0 : Int32} (K : Int32 → HP → Option (Int32 × HP))
    (hK : ∀ (b1 : Int32) (h : HP), Sim Z l cX0_passYear RX0 3 4 91 (some .int) "passYear" args (Mq Z args h0 h1 (some (.int v0))) h0 h1 v0 33 [(1, .int b1)] [] h (K b1 h)) :
    ∀ (k : Nat) (b1 : Int32) (b2 : Int32) (h : HP), Sim Z l cX0_passYear RX0 3 4 91 (some .int) "passYear" args (Mq Z args h0 h1 (some (.int v0))) h0 h1 v0 8 [(0, .ref (zb Z + a0)), (1, .int b1), (2, .int b2)] [] h (lp_X0_passYear_8 a0 K k b1 b2 h) := by
  intro k
  induction k with
  | zero => exact fun _ _ _ => Sim.none
  | succ k ih => exact lc_X0_passYear_8 Z l a0 K _ hK ih
set_option maxRecDepth 100000 in
set_option maxHeartbeats 4000000 in
theorem c_X0_passYear (Z : ZZ) (l : Launch) (t : Nat) (h : HP) {v : Int32} {h1 : HP} (ho : f_X0_passYear t h = some (v, h1)) : MetP Z l yX0_passYear cX0_passYear 3 (some .int) 4 91 [.ref (zb Z + t)] h (some (.int v)) h1 := by
  refine MetP_of ho (by decide +kernel) (Nat.le_of_ble_eq_true rfl) [(0, .ref (zb Z + t))] rfl (own := RX0) rfl (nm := "passYear") rfl ?_
  unfold f_X0_passYear
  refine S_aload_n dX0_passYear_0 rfl 0 rfl (pc' := 1) rfl ?_
  refine S_invv ml_X0_102 mi_X0_countYear (ci := 0) ⟨_, rfl, rfl⟩ (by decide) dX0_passYear_1 [] rfl (fun v h2 q => c_X0_countYear Z l _ _ q) ⟨Nat.le_of_ble_eq_true rfl, Nat.le_of_ble_eq_true rfl⟩ (rest := []) (Nat.le_of_ble_eq_true rfl) rfl (pc' := 4) rfl (fun _ h1 => ?_)
  refine S_iconst dX0_passYear_4 (v := 0) rfl (pc' := 5) rfl ?_
  refine S_istore_n dX0_passYear_5 rfl (by decide) (lo' := [(1, .int 0), (0, .ref (zb Z + t))]) rfl (pc' := 6) rfl ?_
  refine S_iconst dX0_passYear_6 (v := 0) rfl (pc' := 7) rfl ?_
  refine S_istore_n dX0_passYear_7 rfl (by decide) (lo' := [(2, .int 0), (1, .int 0), (0, .ref (zb Z + t))]) rfl (pc' := 8) rfl ?_
  refine Sim.sub [2, 1, 0] rfl ?_
  refine lq_X0_passYear_8 Z l t _ ?_ 1000 _ _ _
  intro b1_8 h8_
  refine S_iload_n dX0_passYear_33 rfl 0 rfl (pc' := 34) rfl ?_
  exact S_iret rfl dX0_passYear_34
theorem dX0_passYearOf_0 : decode cX0_passYearOf 0 = .ok (.aload_n 0, 1) := by decide +kernel
theorem dX0_passYearOf_1 : decode cX0_passYearOf 1 = .ok (.invokevirtual 102, 3) := by decide +kernel
theorem dX0_passYearOf_4 : decode cX0_passYearOf 4 = .ok (.aload_n 0, 1) := by decide +kernel
theorem dX0_passYearOf_5 : decode cX0_passYearOf 5 = .ok (.iload_n 1, 1) := by decide +kernel
theorem dX0_passYearOf_6 : decode cX0_passYearOf 6 = .ok (.invokevirtual 105, 3) := by decide +kernel
theorem dX0_passYearOf_9 : decode cX0_passYearOf 9 = .ok (.pop, 1) := by decide +kernel
theorem dX0_passYearOf_10 : decode cX0_passYearOf 10 = .ok (.return_, 1) := by decide +kernel
set_option maxRecDepth 100000 in
set_option maxHeartbeats 4000000 in
theorem c_X0_passYearOf (Z : ZZ) (l : Launch) (t : Nat) (a1 : Int32) (h : HP) {v : Unit} {h1 : HP} (ho : f_X0_passYearOf t a1 h = some (v, h1)) : MetP Z l yX0_passYearOf cX0_passYearOf 2 (none) 4 91 [.ref (zb Z + t), .int a1] h (none) h1 := by
  refine MetP_of ho (by decide +kernel) (Nat.le_of_ble_eq_true rfl) [(0, .ref (zb Z + t)), (1, .int a1)] rfl (own := RX0) rfl (nm := "passYearOf") rfl ?_
  unfold f_X0_passYearOf
  refine S_aload_n dX0_passYearOf_0 rfl 0 rfl (pc' := 1) rfl ?_
  refine S_invv ml_X0_102 mi_X0_countYear (ci := 0) ⟨_, rfl, rfl⟩ (by decide) dX0_passYearOf_1 [] rfl (fun v h2 q => c_X0_countYear Z l _ _ q) ⟨Nat.le_of_ble_eq_true rfl, Nat.le_of_ble_eq_true rfl⟩ (rest := []) (Nat.le_of_ble_eq_true rfl) rfl (pc' := 4) rfl (fun _ h1 => ?_)
  refine S_aload_n dX0_passYearOf_4 rfl 0 rfl (pc' := 5) rfl ?_
  refine S_iload_n dX0_passYearOf_5 rfl 1 rfl (pc' := 6) rfl ?_
  refine S_invi ml_X0_105 mi_X0_passSong (ci := 0) ⟨_, rfl, rfl⟩ (by decide) dX0_passYearOf_6 [.int a1] rfl (fun v h2 q => c_X0_passSong Z l _ _ _ q) ⟨Nat.le_of_ble_eq_true rfl, Nat.le_of_ble_eq_true rfl⟩ (rest := []) (Nat.le_of_ble_eq_true rfl) rfl (pc' := 9) rfl (fun x6 h6 => ?_)
  refine S_pop dX0_passYearOf_9 rfl (pc' := 10) rfl ?_
  exact S_vret rfl dX0_passYearOf_10
theorem dX0_draw_0 : decode cX0_draw 0 = .ok (.aload_n 0, 1) := by decide +kernel
theorem dX0_draw_1 : decode cX0_draw 1 = .ok (.aload_n 0, 1) := by decide +kernel
theorem dX0_draw_2 : decode cX0_draw 2 = .ok (.getfield 15, 3) := by decide +kernel
theorem dX0_draw_5 : decode cX0_draw 5 = .ok (.ldc 134, 2) := by decide +kernel
theorem dX0_draw_7 : decode cX0_draw 7 = .ok (.imul, 1) := by decide +kernel
theorem dX0_draw_8 : decode cX0_draw 8 = .ok (.sipush 12345, 3) := by decide +kernel
theorem dX0_draw_11 : decode cX0_draw 11 = .ok (.iadd, 1) := by decide +kernel
theorem dX0_draw_12 : decode cX0_draw 12 = .ok (.putfield 15, 3) := by decide +kernel
theorem dX0_draw_15 : decode cX0_draw 15 = .ok (.iload_n 1, 1) := by decide +kernel
theorem dX0_draw_16 : decode cX0_draw 16 = .ok (.ifCond .gt 7, 3) := by decide +kernel
theorem dX0_draw_19 : decode cX0_draw 19 = .ok (.iconst 0, 1) := by decide +kernel
theorem dX0_draw_20 : decode cX0_draw 20 = .ok (.goto 12, 3) := by decide +kernel
theorem dX0_draw_23 : decode cX0_draw 23 = .ok (.aload_n 0, 1) := by decide +kernel
theorem dX0_draw_24 : decode cX0_draw 24 = .ok (.getfield 15, 3) := by decide +kernel
theorem dX0_draw_27 : decode cX0_draw 27 = .ok (.bipush 16, 2) := by decide +kernel
theorem dX0_draw_29 : decode cX0_draw 29 = .ok (.iushr, 1) := by decide +kernel
theorem dX0_draw_30 : decode cX0_draw 30 = .ok (.iload_n 1, 1) := by decide +kernel
theorem dX0_draw_31 : decode cX0_draw 31 = .ok (.irem, 1) := by decide +kernel
theorem dX0_draw_32 : decode cX0_draw 32 = .ok (.ireturn, 1) := by decide +kernel
set_option maxRecDepth 100000 in
set_option maxHeartbeats 4000000 in
theorem c_X0_draw (Z : ZZ) (l : Launch) (t : Nat) (a1 : Int32) (h : HP) {v : Int32} {h1 : HP} (ho : f_X0_draw t a1 h = some (v, h1)) : MetP Z l yX0_draw cX0_draw 2 (some .int) 0 0 [.ref (zb Z + t), .int a1] h (some (.int v)) h1 := by
  refine MetP_of ho (by decide +kernel) (Nat.le_of_ble_eq_true rfl) [(0, .ref (zb Z + t)), (1, .int a1)] rfl (own := RX0) rfl (nm := "draw") rfl ?_
  unfold f_X0_draw
  refine S_aload_n dX0_draw_0 rfl 0 rfl (pc' := 1) rfl ?_
  refine S_aload_n dX0_draw_1 rfl 0 rfl (pc' := 2) rfl ?_
  refine S_getI fl_X0_15 rfl dX0_draw_2 (pc' := 5) rfl (fun x2 => ?_)
  refine S_ldc dX0_draw_5 kc_X0_134 (pc' := 7) rfl ?_
  refine S_imul dX0_draw_7 (pc' := 8) rfl ?_
  refine S_sipush dX0_draw_8 (v := 12345) rfl (pc' := 11) rfl ?_
  refine S_iadd dX0_draw_11 (pc' := 12) rfl ?_
  refine S_putI fl_X0_15 (by decide) rfl dX0_draw_12 (pc' := 15) rfl (fun h12 => ?_)
  refine S_iload_n dX0_draw_15 rfl 1 rfl (pc' := 16) rfl ?_
  refine S_if_gt dX0_draw_16 23 rfl (pc' := 19) rfl (fun g16 => ?_) (fun g16 => ?_)
  · refine S_aload_n dX0_draw_23 rfl 0 rfl (pc' := 24) rfl ?_
    refine S_getI fl_X0_15 rfl dX0_draw_24 (pc' := 27) rfl (fun x24 => ?_)
    refine S_bipush dX0_draw_27 (v := 16) rfl (pc' := 29) rfl ?_
    refine S_iushr dX0_draw_29 (pc' := 30) rfl ?_
    refine S_iload_n dX0_draw_30 rfl 1 rfl (pc' := 31) rfl ?_
    refine S_irem dX0_draw_31 (pc' := 32) rfl ?_
    exact S_iret rfl dX0_draw_32
  · refine S_iconst dX0_draw_19 (v := 0) rfl (pc' := 20) rfl ?_
    refine S_goto dX0_draw_20 32 rfl ?_
    exact S_iret rfl dX0_draw_32
theorem dX0_passDrawnYear_0 : decode cX0_passDrawnYear 0 = .ok (.aload_n 0, 1) := by decide +kernel
theorem dX0_passDrawnYear_1 : decode cX0_passDrawnYear 1 = .ok (.aload_n 0, 1) := by decide +kernel
theorem dX0_passDrawnYear_2 : decode cX0_passDrawnYear 2 = .ok (.bipush 10, 2) := by decide +kernel
theorem dX0_passDrawnYear_4 : decode cX0_passDrawnYear 4 = .ok (.invokevirtual 128, 3) := by decide +kernel
theorem dX0_passDrawnYear_7 : decode cX0_passDrawnYear 7 = .ok (.putfield 9, 3) := by decide +kernel
theorem dX0_passDrawnYear_10 : decode cX0_passDrawnYear 10 = .ok (.aload_n 0, 1) := by decide +kernel
theorem dX0_passDrawnYear_11 : decode cX0_passDrawnYear 11 = .ok (.aload_n 0, 1) := by decide +kernel
theorem dX0_passDrawnYear_12 : decode cX0_passDrawnYear 12 = .ok (.getfield 49, 3) := by decide +kernel
theorem dX0_passDrawnYear_15 : decode cX0_passDrawnYear 15 = .ok (.invokevirtual 128, 3) := by decide +kernel
theorem dX0_passDrawnYear_18 : decode cX0_passDrawnYear 18 = .ok (.istore_n 1, 1) := by decide +kernel
theorem dX0_passDrawnYear_19 : decode cX0_passDrawnYear 19 = .ok (.aload_n 0, 1) := by decide +kernel
theorem dX0_passDrawnYear_20 : decode cX0_passDrawnYear 20 = .ok (.getfield 28, 3) := by decide +kernel
theorem dX0_passDrawnYear_23 : decode cX0_passDrawnYear 23 = .ok (.iload_n 1, 1) := by decide +kernel
theorem dX0_passDrawnYear_24 : decode cX0_passDrawnYear 24 = .ok (.aload_n 0, 1) := by decide +kernel
theorem dX0_passDrawnYear_25 : decode cX0_passDrawnYear 25 = .ok (.bipush 10, 2) := by decide +kernel
theorem dX0_passDrawnYear_27 : decode cX0_passDrawnYear 27 = .ok (.invokevirtual 128, 3) := by decide +kernel
theorem dX0_passDrawnYear_30 : decode cX0_passDrawnYear 30 = .ok (.iastore, 1) := by decide +kernel
theorem dX0_passDrawnYear_31 : decode cX0_passDrawnYear 31 = .ok (.aload_n 0, 1) := by decide +kernel
theorem dX0_passDrawnYear_32 : decode cX0_passDrawnYear 32 = .ok (.invokevirtual 131, 3) := by decide +kernel
theorem dX0_passDrawnYear_35 : decode cX0_passDrawnYear 35 = .ok (.ireturn, 1) := by decide +kernel
set_option maxRecDepth 100000 in
set_option maxHeartbeats 4000000 in
theorem c_X0_passDrawnYear (Z : ZZ) (l : Launch) (t : Nat) (h : HP) {v : Int32} {h1 : HP} (ho : f_X0_passDrawnYear t h = some (v, h1)) : MetP Z l yX0_passDrawnYear cX0_passDrawnYear 2 (some .int) 5 113 [.ref (zb Z + t)] h (some (.int v)) h1 := by
  refine MetP_of ho (by decide +kernel) (Nat.le_of_ble_eq_true rfl) [(0, .ref (zb Z + t))] rfl (own := RX0) rfl (nm := "passDrawnYear") rfl ?_
  unfold f_X0_passDrawnYear
  refine S_aload_n dX0_passDrawnYear_0 rfl 0 rfl (pc' := 1) rfl ?_
  refine S_aload_n dX0_passDrawnYear_1 rfl 0 rfl (pc' := 2) rfl ?_
  refine S_bipush dX0_passDrawnYear_2 (v := 10) rfl (pc' := 4) rfl ?_
  refine S_invi ml_X0_128 mi_X0_draw (ci := 0) ⟨_, rfl, rfl⟩ (by decide) dX0_passDrawnYear_4 [.int 10] rfl (fun v h2 q => c_X0_draw Z l _ _ _ q) ⟨Nat.le_of_ble_eq_true rfl, Nat.le_of_ble_eq_true rfl⟩ (rest := [.ref (zb Z + t)]) (Nat.le_of_ble_eq_true rfl) rfl (pc' := 7) rfl (fun x4 h4 => ?_)
  refine S_putI fl_X0_9 (by decide) rfl dX0_passDrawnYear_7 (pc' := 10) rfl (fun h7 => ?_)
  refine S_aload_n dX0_passDrawnYear_10 rfl 0 rfl (pc' := 11) rfl ?_
  refine S_aload_n dX0_passDrawnYear_11 rfl 0 rfl (pc' := 12) rfl ?_
  refine S_getI fl_X0_49 rfl dX0_passDrawnYear_12 (pc' := 15) rfl (fun x12 => ?_)
  refine S_invi ml_X0_128 mi_X0_draw (ci := 0) ⟨_, rfl, rfl⟩ (by decide) dX0_passDrawnYear_15 [.int x12] rfl (fun v h2 q => c_X0_draw Z l _ _ _ q) ⟨Nat.le_of_ble_eq_true rfl, Nat.le_of_ble_eq_true rfl⟩ (rest := []) (Nat.le_of_ble_eq_true rfl) rfl (pc' := 18) rfl (fun x15 h15 => ?_)
  refine S_istore_n dX0_passDrawnYear_18 rfl (by decide) (lo' := [(1, .int x15), (0, .ref (zb Z + t))]) rfl (pc' := 19) rfl ?_
  refine S_aload_n dX0_passDrawnYear_19 rfl 1 rfl (pc' := 20) rfl ?_
  refine S_getR fl_X0_28 rfl dX0_passDrawnYear_20 (pc' := 23) rfl (fun x20 => ?_)
  refine S_iload_n dX0_passDrawnYear_23 rfl 0 rfl (pc' := 24) rfl ?_
  refine S_aload_n dX0_passDrawnYear_24 rfl 1 rfl (pc' := 25) rfl ?_
  refine S_bipush dX0_passDrawnYear_25 (v := 10) rfl (pc' := 27) rfl ?_
  refine S_invi ml_X0_128 mi_X0_draw (ci := 0) ⟨_, rfl, rfl⟩ (by decide) dX0_passDrawnYear_27 [.int 10] rfl (fun v h2 q => c_X0_draw Z l _ _ _ q) ⟨Nat.le_of_ble_eq_true rfl, Nat.le_of_ble_eq_true rfl⟩ (rest := [.int x15, .ref (zb Z + x20)]) (Nat.le_of_ble_eq_true rfl) rfl (pc' := 30) rfl (fun x27 h27 => ?_)
  refine S_iastore dX0_passDrawnYear_30 (pc' := 31) rfl (fun h30 => ?_)
  refine S_aload_n dX0_passDrawnYear_31 rfl 1 rfl (pc' := 32) rfl ?_
  refine S_invi ml_X0_131 mi_X0_passYear (ci := 0) ⟨_, rfl, rfl⟩ (by decide) dX0_passDrawnYear_32 [] rfl (fun v h2 q => c_X0_passYear Z l _ _ q) ⟨Nat.le_of_ble_eq_true rfl, Nat.le_of_ble_eq_true rfl⟩ (rest := []) (Nat.le_of_ble_eq_true rfl) rfl (pc' := 35) rfl (fun x32 h32 => ?_)
  exact S_iret rfl dX0_passDrawnYear_35
theorem dX3_init_0 : decode cX3_init 0 = .ok (.aload_n 0, 1) := by decide +kernel
theorem dX3_init_1 : decode cX3_init 1 = .ok (.invokespecial 3, 3) := by decide +kernel
theorem dX3_init_4 : decode cX3_init 4 = .ok (.aload_n 0, 1) := by decide +kernel
theorem dX3_init_5 : decode cX3_init 5 = .ok (.iconst (-1), 1) := by decide +kernel
theorem dX3_init_6 : decode cX3_init 6 = .ok (.putfield 9, 3) := by decide +kernel
theorem dX3_init_9 : decode cX3_init 9 = .ok (.aload_n 0, 1) := by decide +kernel
theorem dX3_init_10 : decode cX3_init 10 = .ok (.bipush 40, 2) := by decide +kernel
theorem dX3_init_12 : decode cX3_init 12 = .ok (.newarray .long, 2) := by decide +kernel
theorem dX3_init_14 : decode cX3_init 14 = .ok (.putfield 15, 3) := by decide +kernel
theorem dX3_init_17 : decode cX3_init 17 = .ok (.return_, 1) := by decide +kernel
set_option maxRecDepth 100000 in
set_option maxHeartbeats 4000000 in
theorem c_X3_init (Z : ZZ) (l : Launch) (t : Nat) (h : HP) {v : Unit} {h1 : HP} (ho : f_X3_init t h = some (v, h1)) : MetP Z l yX3_init cX3_init 1 (none) 1 20 [.ref (zb Z + t)] h (none) h1 := by
  refine MetP_of ho (by decide +kernel) (Nat.le_of_ble_eq_true rfl) [(0, .ref (zb Z + t))] rfl (own := RX3) rfl (nm := "<init>") rfl ?_
  unfold f_X3_init
  refine S_aload_n dX3_init_0 rfl 0 rfl (pc' := 1) rfl ?_
  refine S_obj ob_X3_3 ob_i ob_c dX3_init_1 ⟨Nat.le_of_ble_eq_true rfl, Nat.le_of_ble_eq_true rfl⟩ (pc' := 4) rfl ?_
  refine S_aload_n dX3_init_4 rfl 0 rfl (pc' := 5) rfl ?_
  refine S_iconst dX3_init_5 (v := (-1)) rfl (pc' := 6) rfl ?_
  refine S_putI fl_X3_9 (by decide) rfl dX3_init_6 (pc' := 9) rfl (fun h6 => ?_)
  refine S_aload_n dX3_init_9 rfl 0 rfl (pc' := 10) rfl ?_
  refine S_bipush dX3_init_10 (v := 40) rfl (pc' := 12) rfl ?_
  refine S_newarr 8 0 .long rfl (Or.inr ⟨rfl, rfl⟩) ac_long dX3_init_12 (pc' := 14) rfl (fun x12 h12 => ?_)
  refine S_putR fl_X3_15 (Or.inr ⟨_, rfl⟩) (fun _ => ⟨rfl, rfl, _, _, rfl⟩) (by decide) rfl dX3_init_14 (pc' := 17) rfl (fun h14 => ?_)
  exact S_vret rfl dX3_init_17
theorem dX3_becomeRow_0 : decode cX3_becomeRow 0 = .ok (.aload_n 0, 1) := by decide +kernel
theorem dX3_becomeRow_1 : decode cX3_becomeRow 1 = .ok (.iload_n 1, 1) := by decide +kernel
theorem dX3_becomeRow_2 : decode cX3_becomeRow 2 = .ok (.putfield 9, 3) := by decide +kernel
theorem dX3_becomeRow_5 : decode cX3_becomeRow 5 = .ok (.aload_n 0, 1) := by decide +kernel
theorem dX3_becomeRow_6 : decode cX3_becomeRow 6 = .ok (.iload_n 2, 1) := by decide +kernel
theorem dX3_becomeRow_7 : decode cX3_becomeRow 7 = .ok (.putfield 19, 3) := by decide +kernel
theorem dX3_becomeRow_10 : decode cX3_becomeRow 10 = .ok (.iconst 0, 1) := by decide +kernel
theorem dX3_becomeRow_11 : decode cX3_becomeRow 11 = .ok (.istore_n 3, 1) := by decide +kernel
theorem dX3_becomeRow_12 : decode cX3_becomeRow 12 = .ok (.iload_n 3, 1) := by decide +kernel
theorem dX3_becomeRow_13 : decode cX3_becomeRow 13 = .ok (.bipush 40, 2) := by decide +kernel
theorem dX3_becomeRow_15 : decode cX3_becomeRow 15 = .ok (.if_icmp .ge 16, 3) := by decide +kernel
theorem dX3_becomeRow_18 : decode cX3_becomeRow 18 = .ok (.aload_n 0, 1) := by decide +kernel
theorem dX3_becomeRow_19 : decode cX3_becomeRow 19 = .ok (.getfield 15, 3) := by decide +kernel
theorem dX3_becomeRow_22 : decode cX3_becomeRow 22 = .ok (.iload_n 3, 1) := by decide +kernel
theorem dX3_becomeRow_23 : decode cX3_becomeRow 23 = .ok (.lconst 0, 1) := by decide +kernel
theorem dX3_becomeRow_24 : decode cX3_becomeRow 24 = .ok (.lastore, 1) := by decide +kernel
theorem dX3_becomeRow_25 : decode cX3_becomeRow 25 = .ok (.iinc 3 1, 3) := by decide +kernel
theorem dX3_becomeRow_28 : decode cX3_becomeRow 28 = .ok (.goto (-16), 3) := by decide +kernel
theorem dX3_becomeRow_31 : decode cX3_becomeRow 31 = .ok (.return_, 1) := by decide +kernel
set_option maxRecDepth 100000 in
set_option maxHeartbeats 4000000 in
theorem lc_X3_becomeRow_12 (Z : ZZ) (l : Launch) (a0 : Nat) {args : Array Value} {h0 h1 : HP} {v0 : Unit} (K : HP → Option (Unit × HP)) (F : Int32 → HP → Option (Unit × HP))
    (hK : ∀ (h : HP), Sim Z l cX3_becomeRow RX3 4 0 0 (none) "becomeRow" args (Mq Z args h0 h1 (none)) h0 h1 v0 31 [] [] h (K h))
    (hF : ∀ (b3 : Int32) (h : HP), Sim Z l cX3_becomeRow RX3 4 0 0 (none) "becomeRow" args (Mq Z args h0 h1 (none)) h0 h1 v0 12 [(0, .ref (zb Z + a0)), (3, .int b3)] [] h (F b3 h)) :
    ∀ (b3 : Int32) (h : HP), Sim Z l cX3_becomeRow RX3 4 0 0 (none) "becomeRow" args (Mq Z args h0 h1 (none)) h0 h1 v0 12 [(0, .ref (zb Z + a0)), (3, .int b3)] [] h (lb_X3_becomeRow_12 a0 K F b3 h) := by
  intro b3 h
  unfold lb_X3_becomeRow_12
  refine S_iload_n dX3_becomeRow_12 rfl 1 rfl (pc' := 13) rfl ?_
  refine S_bipush dX3_becomeRow_13 (v := 40) rfl (pc' := 15) rfl ?_
  refine S_icmp_ge dX3_becomeRow_15 31 rfl (pc' := 18) rfl (fun g15 => ?_) (fun g15 => ?_)
  · refine Sim.sub [] rfl ?_
    exact hK _
  · refine S_aload_n dX3_becomeRow_18 rfl 0 rfl (pc' := 19) rfl ?_
    refine S_getR fl_X3_15 rfl dX3_becomeRow_19 (pc' := 22) rfl (fun x19 => ?_)
    refine S_iload_n dX3_becomeRow_22 rfl 1 rfl (pc' := 23) rfl ?_
    refine S_lconst dX3_becomeRow_23 (v := 0) rfl (pc' := 24) rfl ?_
    refine S_lastore dX3_becomeRow_24 (pc' := 25) rfl (fun h24 => ?_)
    refine S_iinc dX3_becomeRow_25 (q := 1) rfl (v := b3 + 1) rfl (by decide) (lo' := [(3, .int (b3 + 1)), (0, .ref (zb Z + a0))]) rfl (pc' := 28) rfl ?_
    refine S_goto dX3_becomeRow_28 12 rfl ?_
    refine Sim.sub [1, 0] rfl ?_
    exact hF _ _
theorem lq_X3_becomeRow_12 (Z : ZZ) (l : Launch) (a0 : Nat) {args : Array Value} {h0 h1 : HP} {v0 : Unit} (K : HP → Option (Unit × HP))
    (hK : ∀ (h : HP), Sim Z l cX3_becomeRow RX3 4 0 0 (none) "becomeRow" args (Mq Z args h0 h1 (none)) h0 h1 v0 31 [] [] h (K h)) :
    ∀ (k : Nat) (b3 : Int32) (h : HP), Sim Z l cX3_becomeRow RX3 4 0 0 (none) "becomeRow" args (Mq Z args h0 h1 (none)) h0 h1 v0 12 [(0, .ref (zb Z + a0)), (3, .int b3)] [] h (lp_X3_becomeRow_12 a0 K k b3 h) := by
  intro k
  induction k with
  | zero => exact fun _ _ => Sim.none
  | succ k ih => exact lc_X3_becomeRow_12 Z l a0 K _ hK ih
set_option maxRecDepth 100000 in
set_option maxHeartbeats 4000000 in
theorem c_X3_becomeRow (Z : ZZ) (l : Launch) (t : Nat) (a1 : Int32) (a2 : Int32) (h : HP) {v : Unit} {h1 : HP} (ho : f_X3_becomeRow t a1 a2 h = some (v, h1)) : MetP Z l yX3_becomeRow cX3_becomeRow 4 (none) 0 0 [.ref (zb Z + t), .int a1, .int a2] h (none) h1 := by
  refine MetP_of ho (by decide +kernel) (Nat.le_of_ble_eq_true rfl) [(0, .ref (zb Z + t)), (1, .int a1), (2, .int a2)] rfl (own := RX3) rfl (nm := "becomeRow") rfl ?_
  unfold f_X3_becomeRow
  refine S_aload_n dX3_becomeRow_0 rfl 0 rfl (pc' := 1) rfl ?_
  refine S_iload_n dX3_becomeRow_1 rfl 1 rfl (pc' := 2) rfl ?_
  refine S_putI fl_X3_9 (by decide) rfl dX3_becomeRow_2 (pc' := 5) rfl (fun h2 => ?_)
  refine S_aload_n dX3_becomeRow_5 rfl 0 rfl (pc' := 6) rfl ?_
  refine S_iload_n dX3_becomeRow_6 rfl 2 rfl (pc' := 7) rfl ?_
  refine S_putI fl_X3_19 (by decide) rfl dX3_becomeRow_7 (pc' := 10) rfl (fun h7 => ?_)
  refine S_iconst dX3_becomeRow_10 (v := 0) rfl (pc' := 11) rfl ?_
  refine S_istore_n dX3_becomeRow_11 rfl (by decide) (lo' := [(3, .int 0), (0, .ref (zb Z + t)), (1, .int a1), (2, .int a2)]) rfl (pc' := 12) rfl ?_
  refine Sim.sub [1, 0] rfl ?_
  refine lq_X3_becomeRow_12 Z l t _ ?_ 1000 _ _
  intro h12_
  exact S_vret rfl dX3_becomeRow_31
theorem dX3_hasPerson_0 : decode cX3_hasPerson 0 = .ok (.aload_n 0, 1) := by decide +kernel
theorem dX3_hasPerson_1 : decode cX3_hasPerson 1 = .ok (.getfield 9, 3) := by decide +kernel
theorem dX3_hasPerson_4 : decode cX3_hasPerson 4 = .ok (.bipush 10, 2) := by decide +kernel
theorem dX3_hasPerson_6 : decode cX3_hasPerson 6 = .ok (.if_icmp .lt 7, 3) := by decide +kernel
theorem dX3_hasPerson_9 : decode cX3_hasPerson 9 = .ok (.iconst 1, 1) := by decide +kernel
theorem dX3_hasPerson_10 : decode cX3_hasPerson 10 = .ok (.goto 4, 3) := by decide +kernel
theorem dX3_hasPerson_13 : decode cX3_hasPerson 13 = .ok (.iconst 0, 1) := by decide +kernel
theorem dX3_hasPerson_14 : decode cX3_hasPerson 14 = .ok (.ireturn, 1) := by decide +kernel
set_option maxRecDepth 100000 in
set_option maxHeartbeats 4000000 in
theorem c_X3_hasPerson (Z : ZZ) (l : Launch) (t : Nat) (h : HP) {v : Int32} {h1 : HP} (ho : f_X3_hasPerson t h = some (v, h1)) : MetP Z l yX3_hasPerson cX3_hasPerson 1 (some .boolean) 0 0 [.ref (zb Z + t)] h (some (.int v)) h1 := by
  refine MetP_of ho (by decide +kernel) (Nat.le_of_ble_eq_true rfl) [(0, .ref (zb Z + t))] rfl (own := RX3) rfl (nm := "hasPerson") rfl ?_
  unfold f_X3_hasPerson
  refine S_aload_n dX3_hasPerson_0 rfl 0 rfl (pc' := 1) rfl ?_
  refine S_getI fl_X3_9 rfl dX3_hasPerson_1 (pc' := 4) rfl (fun x1 => ?_)
  refine S_bipush dX3_hasPerson_4 (v := 10) rfl (pc' := 6) rfl ?_
  refine S_icmp_lt dX3_hasPerson_6 13 rfl (pc' := 9) rfl (fun g6 => ?_) (fun g6 => ?_)
  · refine S_iconst dX3_hasPerson_13 (v := 0) rfl (pc' := 14) rfl ?_
    exact S_zret rfl dX3_hasPerson_14
  · refine S_iconst dX3_hasPerson_9 (v := 1) rfl (pc' := 10) rfl ?_
    refine S_goto dX3_hasPerson_10 14 rfl ?_
    exact S_zret rfl dX3_hasPerson_14
theorem dX3_refusalAsRow_0 : decode cX3_refusalAsRow 0 = .ok (.aload_n 0, 1) := by decide +kernel
theorem dX3_refusalAsRow_1 : decode cX3_refusalAsRow 1 = .ok (.invokevirtual 22, 3) := by decide +kernel
theorem dX3_refusalAsRow_4 : decode cX3_refusalAsRow 4 = .ok (.ifCond .eq 8, 3) := by decide +kernel
theorem dX3_refusalAsRow_7 : decode cX3_refusalAsRow 7 = .ok (.bipush (-3), 2) := by decide +kernel
theorem dX3_refusalAsRow_9 : decode cX3_refusalAsRow 9 = .ok (.goto 17, 3) := by decide +kernel
theorem dX3_refusalAsRow_12 : decode cX3_refusalAsRow 12 = .ok (.aload_n 0, 1) := by decide +kernel
theorem dX3_refusalAsRow_13 : decode cX3_refusalAsRow 13 = .ok (.getfield 9, 3) := by decide +kernel
theorem dX3_refusalAsRow_16 : decode cX3_refusalAsRow 16 = .ok (.iconst (-1), 1) := by decide +kernel
theorem dX3_refusalAsRow_17 : decode cX3_refusalAsRow 17 = .ok (.if_icmp .ne 8, 3) := by decide +kernel
theorem dX3_refusalAsRow_20 : decode cX3_refusalAsRow 20 = .ok (.bipush (-4), 2) := by decide +kernel
theorem dX3_refusalAsRow_22 : decode cX3_refusalAsRow 22 = .ok (.goto 4, 3) := by decide +kernel
theorem dX3_refusalAsRow_25 : decode cX3_refusalAsRow 25 = .ok (.iconst 0, 1) := by decide +kernel
theorem dX3_refusalAsRow_26 : decode cX3_refusalAsRow 26 = .ok (.ireturn, 1) := by decide +kernel
set_option maxRecDepth 100000 in
set_option maxHeartbeats 4000000 in
theorem c_X3_refusalAsRow (Z : ZZ) (l : Launch) (t : Nat) (h : HP) {v : Int32} {h1 : HP} (ho : f_X3_refusalAsRow t h = some (v, h1)) : MetP Z l yX3_refusalAsRow cX3_refusalAsRow 1 (some .int) 1 20 [.ref (zb Z + t)] h (some (.int v)) h1 := by
  refine MetP_of ho (by decide +kernel) (Nat.le_of_ble_eq_true rfl) [(0, .ref (zb Z + t))] rfl (own := RX3) rfl (nm := "refusalAsRow") rfl ?_
  unfold f_X3_refusalAsRow
  refine S_aload_n dX3_refusalAsRow_0 rfl 0 rfl (pc' := 1) rfl ?_
  refine S_invi ml_X3_22 mi_X3_hasPerson (ci := 3) ⟨_, rfl, rfl⟩ (by decide) dX3_refusalAsRow_1 [] rfl (fun v h2 q => c_X3_hasPerson Z l _ _ q) ⟨Nat.le_of_ble_eq_true rfl, Nat.le_of_ble_eq_true rfl⟩ (rest := []) (Nat.le_of_ble_eq_true rfl) rfl (pc' := 4) rfl (fun x1 h1 => ?_)
  refine S_if_eq dX3_refusalAsRow_4 12 rfl (pc' := 7) rfl (fun g4 => ?_) (fun g4 => ?_)
  · refine S_aload_n dX3_refusalAsRow_12 rfl 0 rfl (pc' := 13) rfl ?_
    refine S_getI fl_X3_9 rfl dX3_refusalAsRow_13 (pc' := 16) rfl (fun x13 => ?_)
    refine S_iconst dX3_refusalAsRow_16 (v := (-1)) rfl (pc' := 17) rfl ?_
    refine S_icmp_ne dX3_refusalAsRow_17 25 rfl (pc' := 20) rfl (fun g17 => ?_) (fun g17 => ?_)
    · refine S_iconst dX3_refusalAsRow_25 (v := 0) rfl (pc' := 26) rfl ?_
      exact S_iret rfl dX3_refusalAsRow_26
    · refine S_bipush dX3_refusalAsRow_20 (v := (-4)) rfl (pc' := 22) rfl ?_
      refine S_goto dX3_refusalAsRow_22 26 rfl ?_
      exact S_iret rfl dX3_refusalAsRow_26
  · refine S_bipush dX3_refusalAsRow_7 (v := (-3)) rfl (pc' := 9) rfl ?_
    refine S_goto dX3_refusalAsRow_9 26 rfl ?_
    exact S_iret rfl dX3_refusalAsRow_26
theorem dX3_refusalAsTold_0 : decode cX3_refusalAsTold 0 = .ok (.aload_n 0, 1) := by decide +kernel
theorem dX3_refusalAsTold_1 : decode cX3_refusalAsTold 1 = .ok (.invokevirtual 26, 3) := by decide +kernel
theorem dX3_refusalAsTold_4 : decode cX3_refusalAsTold 4 = .ok (.istore_n 2, 1) := by decide +kernel
theorem dX3_refusalAsTold_5 : decode cX3_refusalAsTold 5 = .ok (.iload_n 2, 1) := by decide +kernel
theorem dX3_refusalAsTold_6 : decode cX3_refusalAsTold 6 = .ok (.ifCond .ne 16, 3) := by decide +kernel
theorem dX3_refusalAsTold_9 : decode cX3_refusalAsTold 9 = .ok (.iload_n 1, 1) := by decide +kernel
theorem dX3_refusalAsTold_10 : decode cX3_refusalAsTold 10 = .ok (.aload_n 0, 1) := by decide +kernel
theorem dX3_refusalAsTold_11 : decode cX3_refusalAsTold 11 = .ok (.getfield 19, 3) := by decide +kernel
theorem dX3_refusalAsTold_14 : decode cX3_refusalAsTold 14 = .ok (.if_icmp .le 8, 3) := by decide +kernel
theorem dX3_refusalAsTold_17 : decode cX3_refusalAsTold 17 = .ok (.bipush (-2), 2) := by decide +kernel
theorem dX3_refusalAsTold_19 : decode cX3_refusalAsTold 19 = .ok (.goto 4, 3) := by decide +kernel
theorem dX3_refusalAsTold_22 : decode cX3_refusalAsTold 22 = .ok (.iload_n 2, 1) := by decide +kernel
theorem dX3_refusalAsTold_23 : decode cX3_refusalAsTold 23 = .ok (.ireturn, 1) := by decide +kernel
set_option maxRecDepth 100000 in
set_option maxHeartbeats 4000000 in
theorem c_X3_refusalAsTold (Z : ZZ) (l : Launch) (t : Nat) (a1 : Int32) (h : HP) {v : Int32} {h1 : HP} (ho : f_X3_refusalAsTold t a1 h = some (v, h1)) : MetP Z l yX3_refusalAsTold cX3_refusalAsTold 3 (some .int) 2 40 [.ref (zb Z + t), .int a1] h (some (.int v)) h1 := by
  refine MetP_of ho (by decide +kernel) (Nat.le_of_ble_eq_true rfl) [(0, .ref (zb Z + t)), (1, .int a1)] rfl (own := RX3) rfl (nm := "refusalAsTold") rfl ?_
  unfold f_X3_refusalAsTold
  refine S_aload_n dX3_refusalAsTold_0 rfl 0 rfl (pc' := 1) rfl ?_
  refine S_invi ml_X3_26 mi_X3_refusalAsRow (ci := 3) ⟨_, rfl, rfl⟩ (by decide) dX3_refusalAsTold_1 [] rfl (fun v h2 q => c_X3_refusalAsRow Z l _ _ q) ⟨Nat.le_of_ble_eq_true rfl, Nat.le_of_ble_eq_true rfl⟩ (rest := []) (Nat.le_of_ble_eq_true rfl) rfl (pc' := 4) rfl (fun x1 h1 => ?_)
  refine S_istore_n dX3_refusalAsTold_4 rfl (by decide) (lo' := [(2, .int x1), (0, .ref (zb Z + t)), (1, .int a1)]) rfl (pc' := 5) rfl ?_
  refine S_iload_n dX3_refusalAsTold_5 rfl 0 rfl (pc' := 6) rfl ?_
  refine S_if_ne dX3_refusalAsTold_6 22 rfl (pc' := 9) rfl (fun g6 => ?_) (fun g6 => ?_)
  · refine S_iload_n dX3_refusalAsTold_22 rfl 0 rfl (pc' := 23) rfl ?_
    exact S_iret rfl dX3_refusalAsTold_23
  · refine S_iload_n dX3_refusalAsTold_9 rfl 2 rfl (pc' := 10) rfl ?_
    refine S_aload_n dX3_refusalAsTold_10 rfl 1 rfl (pc' := 11) rfl ?_
    refine S_getI fl_X3_19 rfl dX3_refusalAsTold_11 (pc' := 14) rfl (fun x11 => ?_)
    refine S_icmp_le dX3_refusalAsTold_14 22 rfl (pc' := 17) rfl (fun g14 => ?_) (fun g14 => ?_)
    · refine S_iload_n dX3_refusalAsTold_22 rfl 0 rfl (pc' := 23) rfl ?_
      exact S_iret rfl dX3_refusalAsTold_23
    · refine S_bipush dX3_refusalAsTold_17 (v := (-2)) rfl (pc' := 19) rfl ?_
      refine S_goto dX3_refusalAsTold_19 23 rfl ?_
      exact S_iret rfl dX3_refusalAsTold_23
theorem dX3_lacks_0 : decode cX3_lacks 0 = .ok (.iload_n 1, 1) := by decide +kernel
theorem dX3_lacks_1 : decode cX3_lacks 1 = .ok (.ifCond .lt 25, 3) := by decide +kernel
theorem dX3_lacks_4 : decode cX3_lacks 4 = .ok (.iload_n 2, 1) := by decide +kernel
theorem dX3_lacks_5 : decode cX3_lacks 5 = .ok (.ifCond .lt 21, 3) := by decide +kernel
theorem dX3_lacks_8 : decode cX3_lacks 8 = .ok (.iload_n 1, 1) := by decide +kernel
theorem dX3_lacks_9 : decode cX3_lacks 9 = .ok (.aload_n 0, 1) := by decide +kernel
theorem dX3_lacks_10 : decode cX3_lacks 10 = .ok (.getfield 19, 3) := by decide +kernel
theorem dX3_lacks_13 : decode cX3_lacks 13 = .ok (.if_icmp .gt 13, 3) := by decide +kernel
theorem dX3_lacks_16 : decode cX3_lacks 16 = .ok (.iload_n 2, 1) := by decide +kernel
theorem dX3_lacks_17 : decode cX3_lacks 17 = .ok (.aload_n 0, 1) := by decide +kernel
theorem dX3_lacks_18 : decode cX3_lacks 18 = .ok (.getfield 19, 3) := by decide +kernel
theorem dX3_lacks_21 : decode cX3_lacks 21 = .ok (.iload_n 1, 1) := by decide +kernel
theorem dX3_lacks_22 : decode cX3_lacks 22 = .ok (.isub, 1) := by decide +kernel
theorem dX3_lacks_23 : decode cX3_lacks 23 = .ok (.if_icmp .le 7, 3) := by decide +kernel
theorem dX3_lacks_26 : decode cX3_lacks 26 = .ok (.iconst 1, 1) := by decide +kernel
theorem dX3_lacks_27 : decode cX3_lacks 27 = .ok (.goto 4, 3) := by decide +kernel
theorem dX3_lacks_30 : decode cX3_lacks 30 = .ok (.iconst 0, 1) := by decide +kernel
theorem dX3_lacks_31 : decode cX3_lacks 31 = .ok (.ireturn, 1) := by decide +kernel
set_option maxRecDepth 100000 in
set_option maxHeartbeats 4000000 in
theorem c_X3_lacks (Z : ZZ) (l : Launch) (t : Nat) (a1 : Int32) (a2 : Int32) (h : HP) {v : Int32} {h1 : HP} (ho : f_X3_lacks t a1 a2 h = some (v, h1)) : MetP Z l yX3_lacks cX3_lacks 3 (some .boolean) 0 0 [.ref (zb Z + t), .int a1, .int a2] h (some (.int v)) h1 := by
  refine MetP_of ho (by decide +kernel) (Nat.le_of_ble_eq_true rfl) [(0, .ref (zb Z + t)), (1, .int a1), (2, .int a2)] rfl (own := RX3) rfl (nm := "lacks") rfl ?_
  unfold f_X3_lacks
  refine S_iload_n dX3_lacks_0 rfl 1 rfl (pc' := 1) rfl ?_
  refine S_if_lt dX3_lacks_1 26 rfl (pc' := 4) rfl (fun g1 => ?_) (fun g1 => ?_)
  · refine S_iconst dX3_lacks_26 (v := 1) rfl (pc' := 27) rfl ?_
    refine S_goto dX3_lacks_27 31 rfl ?_
    exact S_zret rfl dX3_lacks_31
  · refine S_iload_n dX3_lacks_4 rfl 2 rfl (pc' := 5) rfl ?_
    refine S_if_lt dX3_lacks_5 26 rfl (pc' := 8) rfl (fun g5 => ?_) (fun g5 => ?_)
    · refine S_iconst dX3_lacks_26 (v := 1) rfl (pc' := 27) rfl ?_
      refine S_goto dX3_lacks_27 31 rfl ?_
      exact S_zret rfl dX3_lacks_31
    · refine S_iload_n dX3_lacks_8 rfl 1 rfl (pc' := 9) rfl ?_
      refine S_aload_n dX3_lacks_9 rfl 0 rfl (pc' := 10) rfl ?_
      refine S_getI fl_X3_19 rfl dX3_lacks_10 (pc' := 13) rfl (fun x10 => ?_)
      refine S_icmp_gt dX3_lacks_13 26 rfl (pc' := 16) rfl (fun g13 => ?_) (fun g13 => ?_)
      · refine S_iconst dX3_lacks_26 (v := 1) rfl (pc' := 27) rfl ?_
        refine S_goto dX3_lacks_27 31 rfl ?_
        exact S_zret rfl dX3_lacks_31
      · refine S_iload_n dX3_lacks_16 rfl 2 rfl (pc' := 17) rfl ?_
        refine S_aload_n dX3_lacks_17 rfl 0 rfl (pc' := 18) rfl ?_
        refine S_getI fl_X3_19 rfl dX3_lacks_18 (pc' := 21) rfl (fun x18 => ?_)
        refine S_iload_n dX3_lacks_21 rfl 1 rfl (pc' := 22) rfl ?_
        refine S_isub dX3_lacks_22 (pc' := 23) rfl ?_
        refine S_icmp_le dX3_lacks_23 30 rfl (pc' := 26) rfl (fun g23 => ?_) (fun g23 => ?_)
        · refine S_iconst dX3_lacks_30 (v := 0) rfl (pc' := 31) rfl ?_
          exact S_zret rfl dX3_lacks_31
        · refine S_iconst dX3_lacks_26 (v := 1) rfl (pc' := 27) rfl ?_
          refine S_goto dX3_lacks_27 31 rfl ?_
          exact S_zret rfl dX3_lacks_31
theorem dX3_put_0 : decode cX3_put 0 = .ok (.aload_n 0, 1) := by decide +kernel
theorem dX3_put_1 : decode cX3_put 1 = .ok (.getfield 9, 3) := by decide +kernel
theorem dX3_put_4 : decode cX3_put 4 = .ok (.tableswitch 94 0 4 #[36, 49, 62, 94, 74], 36) := by decide +kernel
theorem dX3_put_40 : decode cX3_put 40 = .ok (.aload_n 0, 1) := by decide +kernel
theorem dX3_put_41 : decode cX3_put 41 = .ok (.getfield 15, 3) := by decide +kernel
theorem dX3_put_44 : decode cX3_put 44 = .ok (.iload_n 1, 1) := by decide +kernel
theorem dX3_put_45 : decode cX3_put 45 = .ok (.lload_n 2, 1) := by decide +kernel
theorem dX3_put_46 : decode cX3_put 46 = .ok (.l2i, 1) := by decide +kernel
theorem dX3_put_47 : decode cX3_put 47 = .ok (.i2b, 1) := by decide +kernel
theorem dX3_put_48 : decode cX3_put 48 = .ok (.i2l, 1) := by decide +kernel
theorem dX3_put_49 : decode cX3_put 49 = .ok (.lastore, 1) := by decide +kernel
theorem dX3_put_50 : decode cX3_put 50 = .ok (.goto 55, 3) := by decide +kernel
theorem dX3_put_53 : decode cX3_put 53 = .ok (.aload_n 0, 1) := by decide +kernel
theorem dX3_put_54 : decode cX3_put 54 = .ok (.getfield 15, 3) := by decide +kernel
theorem dX3_put_57 : decode cX3_put 57 = .ok (.iload_n 1, 1) := by decide +kernel
theorem dX3_put_58 : decode cX3_put 58 = .ok (.lload_n 2, 1) := by decide +kernel
theorem dX3_put_59 : decode cX3_put 59 = .ok (.l2i, 1) := by decide +kernel
theorem dX3_put_60 : decode cX3_put 60 = .ok (.i2s, 1) := by decide +kernel
theorem dX3_put_61 : decode cX3_put 61 = .ok (.i2l, 1) := by decide +kernel
theorem dX3_put_62 : decode cX3_put 62 = .ok (.lastore, 1) := by decide +kernel
theorem dX3_put_63 : decode cX3_put 63 = .ok (.goto 42, 3) := by decide +kernel
theorem dX3_put_66 : decode cX3_put 66 = .ok (.aload_n 0, 1) := by decide +kernel
theorem dX3_put_67 : decode cX3_put 67 = .ok (.getfield 15, 3) := by decide +kernel
theorem dX3_put_70 : decode cX3_put 70 = .ok (.iload_n 1, 1) := by decide +kernel
theorem dX3_put_71 : decode cX3_put 71 = .ok (.lload_n 2, 1) := by decide +kernel
theorem dX3_put_72 : decode cX3_put 72 = .ok (.l2i, 1) := by decide +kernel
theorem dX3_put_73 : decode cX3_put 73 = .ok (.i2l, 1) := by decide +kernel
theorem dX3_put_74 : decode cX3_put 74 = .ok (.lastore, 1) := by decide +kernel
theorem dX3_put_75 : decode cX3_put 75 = .ok (.goto 30, 3) := by decide +kernel
theorem dX3_put_78 : decode cX3_put 78 = .ok (.aload_n 0, 1) := by decide +kernel
theorem dX3_put_79 : decode cX3_put 79 = .ok (.getfield 15, 3) := by decide +kernel
theorem dX3_put_82 : decode cX3_put 82 = .ok (.iload_n 1, 1) := by decide +kernel
theorem dX3_put_83 : decode cX3_put 83 = .ok (.lload_n 2, 1) := by decide +kernel
theorem dX3_put_84 : decode cX3_put 84 = .ok (.lconst 0, 1) := by decide +kernel
theorem dX3_put_85 : decode cX3_put 85 = .ok (.lcmp, 1) := by decide +kernel
theorem dX3_put_86 : decode cX3_put 86 = .ok (.ifCond .eq 7, 3) := by decide +kernel
theorem dX3_put_89 : decode cX3_put 89 = .ok (.lconst 1, 1) := by decide +kernel
theorem dX3_put_90 : decode cX3_put 90 = .ok (.goto 4, 3) := by decide +kernel
theorem dX3_put_93 : decode cX3_put 93 = .ok (.lconst 0, 1) := by decide +kernel
theorem dX3_put_94 : decode cX3_put 94 = .ok (.lastore, 1) := by decide +kernel
theorem dX3_put_95 : decode cX3_put 95 = .ok (.goto 10, 3) := by decide +kernel
theorem dX3_put_98 : decode cX3_put 98 = .ok (.aload_n 0, 1) := by decide +kernel
theorem dX3_put_99 : decode cX3_put 99 = .ok (.getfield 15, 3) := by decide +kernel
theorem dX3_put_102 : decode cX3_put 102 = .ok (.iload_n 1, 1) := by decide +kernel
theorem dX3_put_103 : decode cX3_put 103 = .ok (.lload_n 2, 1) := by decide +kernel
theorem dX3_put_104 : decode cX3_put 104 = .ok (.lastore, 1) := by decide +kernel
theorem dX3_put_105 : decode cX3_put 105 = .ok (.return_, 1) := by decide +kernel
set_option maxRecDepth 100000 in
set_option maxHeartbeats 4000000 in
theorem c_X3_put (Z : ZZ) (l : Launch) (t : Nat) (a1 : Int32) (a2 : Int64) (h : HP) {v : Unit} {h1 : HP} (ho : f_X3_put t a1 a2 h = some (v, h1)) : MetP Z l yX3_put cX3_put 4 (none) 0 0 [.ref (zb Z + t), .int a1, .long a2] h (none) h1 := by
  refine MetP_of ho (by decide +kernel) (Nat.le_of_ble_eq_true rfl) [(0, .ref (zb Z + t)), (1, .int a1), (2, .long a2)] rfl (own := RX3) rfl (nm := "put") rfl ?_
  unfold f_X3_put
  refine S_aload_n dX3_put_0 rfl 0 rfl (pc' := 1) rfl ?_
  refine S_getI fl_X3_9 rfl dX3_put_1 (pc' := 4) rfl (fun x1 => ?_)
  refine Sim.ite (fun g4_0 => ?_) (fun g4_0 => ?_)
  · refine S_tabIn dX3_put_4 g4_0 0 rfl (by decide) (off := 36) rfl 40 rfl ?_
    refine S_aload_n dX3_put_40 rfl 0 rfl (pc' := 41) rfl ?_
    refine S_getR fl_X3_15 rfl dX3_put_41 (pc' := 44) rfl (fun x41 => ?_)
    refine S_iload_n dX3_put_44 rfl 1 rfl (pc' := 45) rfl ?_
    refine S_lload_n dX3_put_45 rfl 2 rfl (pc' := 46) rfl ?_
    refine S_l2i dX3_put_46 (pc' := 47) rfl ?_
    refine S_i2b dX3_put_47 (pc' := 48) rfl ?_
    refine S_i2l dX3_put_48 (pc' := 49) rfl ?_
    refine S_lastore dX3_put_49 (pc' := 50) rfl (fun h49 => ?_)
    refine S_goto dX3_put_50 105 rfl ?_
    exact S_vret rfl dX3_put_105
  refine Sim.ite (fun g4_1 => ?_) (fun g4_1 => ?_)
  · refine S_tabIn dX3_put_4 g4_1 1 rfl (by decide) (off := 49) rfl 53 rfl ?_
    refine S_aload_n dX3_put_53 rfl 0 rfl (pc' := 54) rfl ?_
    refine S_getR fl_X3_15 rfl dX3_put_54 (pc' := 57) rfl (fun x54 => ?_)
    refine S_iload_n dX3_put_57 rfl 1 rfl (pc' := 58) rfl ?_
    refine S_lload_n dX3_put_58 rfl 2 rfl (pc' := 59) rfl ?_
    refine S_l2i dX3_put_59 (pc' := 60) rfl ?_
    refine S_i2s dX3_put_60 (pc' := 61) rfl ?_
    refine S_i2l dX3_put_61 (pc' := 62) rfl ?_
    refine S_lastore dX3_put_62 (pc' := 63) rfl (fun h62 => ?_)
    refine S_goto dX3_put_63 105 rfl ?_
    exact S_vret rfl dX3_put_105
  refine Sim.ite (fun g4_2 => ?_) (fun g4_2 => ?_)
  · refine S_tabIn dX3_put_4 g4_2 2 rfl (by decide) (off := 62) rfl 66 rfl ?_
    refine S_aload_n dX3_put_66 rfl 0 rfl (pc' := 67) rfl ?_
    refine S_getR fl_X3_15 rfl dX3_put_67 (pc' := 70) rfl (fun x67 => ?_)
    refine S_iload_n dX3_put_70 rfl 1 rfl (pc' := 71) rfl ?_
    refine S_lload_n dX3_put_71 rfl 2 rfl (pc' := 72) rfl ?_
    refine S_l2i dX3_put_72 (pc' := 73) rfl ?_
    refine S_i2l dX3_put_73 (pc' := 74) rfl ?_
    refine S_lastore dX3_put_74 (pc' := 75) rfl (fun h74 => ?_)
    refine S_goto dX3_put_75 105 rfl ?_
    exact S_vret rfl dX3_put_105
  refine Sim.ite (fun g4_3 => ?_) (fun g4_3 => ?_)
  · refine S_tabIn dX3_put_4 g4_3 3 rfl (by decide) (off := 94) rfl 98 rfl ?_
    refine S_aload_n dX3_put_98 rfl 0 rfl (pc' := 99) rfl ?_
    refine S_getR fl_X3_15 rfl dX3_put_99 (pc' := 102) rfl (fun x99 => ?_)
    refine S_iload_n dX3_put_102 rfl 1 rfl (pc' := 103) rfl ?_
    refine S_lload_n dX3_put_103 rfl 2 rfl (pc' := 104) rfl ?_
    refine S_lastore dX3_put_104 (pc' := 105) rfl (fun h104 => ?_)
    exact S_vret rfl dX3_put_105
  refine Sim.ite (fun g4_4 => ?_) (fun g4_4 => ?_)
  · refine S_tabIn dX3_put_4 g4_4 4 rfl (by decide) (off := 74) rfl 78 rfl ?_
    refine S_aload_n dX3_put_78 rfl 0 rfl (pc' := 79) rfl ?_
    refine S_getR fl_X3_15 rfl dX3_put_79 (pc' := 82) rfl (fun x79 => ?_)
    refine S_iload_n dX3_put_82 rfl 1 rfl (pc' := 83) rfl ?_
    refine S_lload_n dX3_put_83 rfl 2 rfl (pc' := 84) rfl ?_
    refine S_lconst dX3_put_84 (v := 0) rfl (pc' := 85) rfl ?_
    refine S_lcmp dX3_put_85 (pc' := 86) rfl ?_
    refine S_if_eq dX3_put_86 93 rfl (pc' := 89) rfl (fun g86 => ?_) (fun g86 => ?_)
    · refine S_lconst dX3_put_93 (v := 0) rfl (pc' := 94) rfl ?_
      refine S_lastore dX3_put_94 (pc' := 95) rfl (fun h94 => ?_)
      refine S_goto dX3_put_95 105 rfl ?_
      exact S_vret rfl dX3_put_105
    · refine S_lconst dX3_put_89 (v := 1) rfl (pc' := 90) rfl ?_
      refine S_goto dX3_put_90 94 rfl ?_
      refine S_lastore dX3_put_94 (pc' := 95) rfl (fun h94 => ?_)
      refine S_goto dX3_put_95 105 rfl ?_
      exact S_vret rfl dX3_put_105
  refine S_tabOut dX3_put_4 (by
      have q0 := i32_ne g4_0
      have q1 := i32_ne g4_1
      have q2 := i32_ne g4_2
      have q3 := i32_ne g4_3
      have q4 := i32_ne g4_4
      simp only [show Int32.toInt 0 = 0 from rfl, show Int32.toInt 1 = 1 from rfl, show Int32.toInt 2 = 2 from rfl, show Int32.toInt 3 = 3 from rfl, show Int32.toInt 4 = 4 from rfl] at q0 q1 q2 q3 q4
      omega) 98 rfl ?_
  refine S_aload_n dX3_put_98 rfl 0 rfl (pc' := 99) rfl ?_
  refine S_getR fl_X3_15 rfl dX3_put_99 (pc' := 102) rfl (fun x99 => ?_)
  refine S_iload_n dX3_put_102 rfl 1 rfl (pc' := 103) rfl ?_
  refine S_lload_n dX3_put_103 rfl 2 rfl (pc' := 104) rfl ?_
  refine S_lastore dX3_put_104 (pc' := 105) rfl (fun h104 => ?_)
  exact S_vret rfl dX3_put_105
theorem dX4_init_0 : decode cX4_init 0 = .ok (.aload_n 0, 1) := by decide +kernel
theorem dX4_init_1 : decode cX4_init 1 = .ok (.invokespecial 3, 3) := by decide +kernel
theorem dX4_init_4 : decode cX4_init 4 = .ok (.aload_n 0, 1) := by decide +kernel
theorem dX4_init_5 : decode cX4_init 5 = .ok (.bipush 8, 2) := by decide +kernel
theorem dX4_init_7 : decode cX4_init 7 = .ok (.newarray .int, 2) := by decide +kernel
theorem dX4_init_9 : decode cX4_init 9 = .ok (.putfield 9, 3) := by decide +kernel
theorem dX4_init_12 : decode cX4_init 12 = .ok (.aload_n 0, 1) := by decide +kernel
theorem dX4_init_13 : decode cX4_init 13 = .ok (.bipush 9, 2) := by decide +kernel
theorem dX4_init_15 : decode cX4_init 15 = .ok (.newarray .int, 2) := by decide +kernel
theorem dX4_init_17 : decode cX4_init 17 = .ok (.putfield 15, 3) := by decide +kernel
theorem dX4_init_20 : decode cX4_init 20 = .ok (.return_, 1) := by decide +kernel
set_option maxRecDepth 100000 in
set_option maxHeartbeats 4000000 in
theorem c_X4_init (Z : ZZ) (l : Launch) (t : Nat) (h : HP) {v : Unit} {h1 : HP} (ho : f_X4_init t h = some (v, h1)) : MetP Z l yX4_init cX4_init 1 (none) 1 20 [.ref (zb Z + t)] h (none) h1 := by
  refine MetP_of ho (by decide +kernel) (Nat.le_of_ble_eq_true rfl) [(0, .ref (zb Z + t))] rfl (own := RX4) rfl (nm := "<init>") rfl ?_
  unfold f_X4_init
  refine S_aload_n dX4_init_0 rfl 0 rfl (pc' := 1) rfl ?_
  refine S_obj ob_X4_3 ob_i ob_c dX4_init_1 ⟨Nat.le_of_ble_eq_true rfl, Nat.le_of_ble_eq_true rfl⟩ (pc' := 4) rfl ?_
  refine S_aload_n dX4_init_4 rfl 0 rfl (pc' := 5) rfl ?_
  refine S_bipush dX4_init_5 (v := 8) rfl (pc' := 7) rfl ?_
  refine S_newarr 7 0 .int rfl (Or.inl ⟨rfl, rfl⟩) ac_int dX4_init_7 (pc' := 9) rfl (fun x7 h7 => ?_)
  refine S_putR fl_X4_9 (Or.inr ⟨_, rfl⟩) (fun _ => ⟨rfl, rfl, _, _, rfl⟩) (by decide) rfl dX4_init_9 (pc' := 12) rfl (fun h9 => ?_)
  refine S_aload_n dX4_init_12 rfl 0 rfl (pc' := 13) rfl ?_
  refine S_bipush dX4_init_13 (v := 9) rfl (pc' := 15) rfl ?_
  refine S_newarr 7 0 .int rfl (Or.inl ⟨rfl, rfl⟩) ac_int dX4_init_15 (pc' := 17) rfl (fun x15 h15 => ?_)
  refine S_putR fl_X4_15 (Or.inr ⟨_, rfl⟩) (fun _ => ⟨rfl, rfl, _, _, rfl⟩) (by decide) rfl dX4_init_17 (pc' := 20) rfl (fun h17 => ?_)
  exact S_vret rfl dX4_init_20
theorem dX4_listenToSong_0 : decode cX4_listenToSong 0 = .ok (.aload_n 0, 1) := by decide +kernel
theorem dX4_listenToSong_1 : decode cX4_listenToSong 1 = .ok (.bipush 8, 2) := by decide +kernel
theorem dX4_listenToSong_3 : decode cX4_listenToSong 3 = .ok (.putfield 18, 3) := by decide +kernel
theorem dX4_listenToSong_6 : decode cX4_listenToSong 6 = .ok (.aload_n 1, 1) := by decide +kernel
theorem dX4_listenToSong_7 : decode cX4_listenToSong 7 = .ok (.getfield 22, 3) := by decide +kernel
theorem dX4_listenToSong_10 : decode cX4_listenToSong 10 = .ok (.iload_n 2, 1) := by decide +kernel
theorem dX4_listenToSong_11 : decode cX4_listenToSong 11 = .ok (.bipush 8, 2) := by decide +kernel
theorem dX4_listenToSong_13 : decode cX4_listenToSong 13 = .ok (.imul, 1) := by decide +kernel
theorem dX4_listenToSong_14 : decode cX4_listenToSong 14 = .ok (.aload_n 0, 1) := by decide +kernel
theorem dX4_listenToSong_15 : decode cX4_listenToSong 15 = .ok (.getfield 9, 3) := by decide +kernel
theorem dX4_listenToSong_18 : decode cX4_listenToSong 18 = .ok (.iconst 0, 1) := by decide +kernel
theorem dX4_listenToSong_19 : decode cX4_listenToSong 19 = .ok (.bipush 8, 2) := by decide +kernel
theorem dX4_listenToSong_21 : decode cX4_listenToSong 21 = .ok (.invokestatic 27, 3) := by decide +kernel
theorem dX4_listenToSong_24 : decode cX4_listenToSong 24 = .ok (.return_, 1) := by decide +kernel
set_option maxRecDepth 100000 in
set_option maxHeartbeats 4000000 in
theorem c_X4_listenToSong (Z : ZZ) (l : Launch) (t : Nat) (a1 : Nat) (a2 : Int32) (h : HP) {v : Unit} {h1 : HP} (ho : f_X4_listenToSong t a1 a2 h = some (v, h1)) : MetP Z l yX4_listenToSong cX4_listenToSong 3 (none) 1 26 [.ref (zb Z + t), .ref (zb Z + a1), .int a2] h (none) h1 := by
  refine MetP_of ho (by decide +kernel) (Nat.le_of_ble_eq_true rfl) [(0, .ref (zb Z + t)), (1, .ref (zb Z + a1)), (2, .int a2)] rfl (own := RX4) rfl (nm := "listenToSong") rfl ?_
  unfold f_X4_listenToSong
  refine S_aload_n dX4_listenToSong_0 rfl 0 rfl (pc' := 1) rfl ?_
  refine S_bipush dX4_listenToSong_1 (v := 8) rfl (pc' := 3) rfl ?_
  refine S_putI fl_X4_18 (by decide) rfl dX4_listenToSong_3 (pc' := 6) rfl (fun h3 => ?_)
  refine S_aload_n dX4_listenToSong_6 rfl 1 rfl (pc' := 7) rfl ?_
  refine S_getR fl_X4_22 rfl dX4_listenToSong_7 (pc' := 10) rfl (fun x7 => ?_)
  refine S_iload_n dX4_listenToSong_10 rfl 2 rfl (pc' := 11) rfl ?_
  refine S_bipush dX4_listenToSong_11 (v := 8) rfl (pc' := 13) rfl ?_
  refine S_imul dX4_listenToSong_13 (pc' := 14) rfl ?_
  refine S_aload_n dX4_listenToSong_14 rfl 0 rfl (pc' := 15) rfl ?_
  refine S_getR fl_X4_9 rfl dX4_listenToSong_15 (pc' := 18) rfl (fun x15 => ?_)
  refine S_iconst dX4_listenToSong_18 (v := 0) rfl (pc' := 19) rfl ?_
  refine S_bipush dX4_listenToSong_19 (v := 8) rfl (pc' := 21) rfl ?_
  refine S_copyI cp_X4_27 dX4_listenToSong_21 ⟨Nat.le_of_ble_eq_true rfl, Nat.le_of_ble_eq_true rfl⟩ (pc' := 24) rfl (fun h21 => ?_)
  exact S_vret rfl dX4_listenToSong_24
theorem dX4_listenToRow_0 : decode cX4_listenToRow 0 = .ok (.aload_n 0, 1) := by decide +kernel
theorem dX4_listenToRow_1 : decode cX4_listenToRow 1 = .ok (.iload_n 2, 1) := by decide +kernel
theorem dX4_listenToRow_2 : decode cX4_listenToRow 2 = .ok (.putfield 18, 3) := by decide +kernel
theorem dX4_listenToRow_5 : decode cX4_listenToRow 5 = .ok (.iconst 0, 1) := by decide +kernel
theorem dX4_listenToRow_6 : decode cX4_listenToRow 6 = .ok (.istore_n 3, 1) := by decide +kernel
theorem dX4_listenToRow_7 : decode cX4_listenToRow 7 = .ok (.iload_n 3, 1) := by decide +kernel
theorem dX4_listenToRow_8 : decode cX4_listenToRow 8 = .ok (.iload_n 2, 1) := by decide +kernel
theorem dX4_listenToRow_9 : decode cX4_listenToRow 9 = .ok (.if_icmp .ge 44, 3) := by decide +kernel
theorem dX4_listenToRow_12 : decode cX4_listenToRow 12 = .ok (.aload_n 1, 1) := by decide +kernel
theorem dX4_listenToRow_13 : decode cX4_listenToRow 13 = .ok (.getfield 33, 3) := by decide +kernel
theorem dX4_listenToRow_16 : decode cX4_listenToRow 16 = .ok (.iload_n 3, 1) := by decide +kernel
theorem dX4_listenToRow_17 : decode cX4_listenToRow 17 = .ok (.laload, 1) := by decide +kernel
theorem dX4_listenToRow_18 : decode cX4_listenToRow 18 = .ok (.lstore 4, 2) := by decide +kernel
theorem dX4_listenToRow_20 : decode cX4_listenToRow 20 = .ok (.lload 4, 2) := by decide +kernel
theorem dX4_listenToRow_22 : decode cX4_listenToRow 22 = .ok (.lconst 0, 1) := by decide +kernel
theorem dX4_listenToRow_23 : decode cX4_listenToRow 23 = .ok (.lcmp, 1) := by decide +kernel
theorem dX4_listenToRow_24 : decode cX4_listenToRow 24 = .ok (.ifCond .lt 12, 3) := by decide +kernel
theorem dX4_listenToRow_27 : decode cX4_listenToRow 27 = .ok (.lload 4, 2) := by decide +kernel
theorem dX4_listenToRow_29 : decode cX4_listenToRow 29 = .ok (.ldc2_w 39, 3) := by decide +kernel
theorem dX4_listenToRow_32 : decode cX4_listenToRow 32 = .ok (.lcmp, 1) := by decide +kernel
theorem dX4_listenToRow_33 : decode cX4_listenToRow 33 = .ok (.ifCond .lt 5, 3) := by decide +kernel
theorem dX4_listenToRow_36 : decode cX4_listenToRow 36 = .ok (.iconst 0, 1) := by decide +kernel
theorem dX4_listenToRow_37 : decode cX4_listenToRow 37 = .ok (.ireturn, 1) := by decide +kernel
theorem dX4_listenToRow_38 : decode cX4_listenToRow 38 = .ok (.aload_n 0, 1) := by decide +kernel
theorem dX4_listenToRow_39 : decode cX4_listenToRow 39 = .ok (.getfield 9, 3) := by decide +kernel
theorem dX4_listenToRow_42 : decode cX4_listenToRow 42 = .ok (.iload_n 3, 1) := by decide +kernel
theorem dX4_listenToRow_43 : decode cX4_listenToRow 43 = .ok (.lload 4, 2) := by decide +kernel
theorem dX4_listenToRow_45 : decode cX4_listenToRow 45 = .ok (.l2i, 1) := by decide +kernel
theorem dX4_listenToRow_46 : decode cX4_listenToRow 46 = .ok (.iastore, 1) := by decide +kernel
theorem dX4_listenToRow_47 : decode cX4_listenToRow 47 = .ok (.iinc 3 1, 3) := by decide +kernel
theorem dX4_listenToRow_50 : decode cX4_listenToRow 50 = .ok (.goto (-43), 3) := by decide +kernel
theorem dX4_listenToRow_53 : decode cX4_listenToRow 53 = .ok (.iconst 1, 1) := by decide +kernel
theorem dX4_listenToRow_54 : decode cX4_listenToRow 54 = .ok (.ireturn, 1) := by decide +kernel
set_option maxRecDepth 100000 in
set_option maxHeartbeats 4000000 in
theorem lc_X4_listenToRow_7 (Z : ZZ) (l : Launch) (a0 : Nat) (a1 : Nat) (a2 : Int32) {args : Array Value} {h0 h1 : HP} {v0 : Int32} (K : HP → Option (Int32 × HP)) (F : Int32 → HP → Option (Int32 × HP))
    (hK : ∀ (h : HP), Sim Z l cX4_listenToRow RX4 6 0 0 (some .boolean) "listenToRow" args (Mq Z args h0 h1 (some (.int v0))) h0 h1 v0 53 [] [] h (K h))
    (hF : ∀ (b3 : Int32) (h : HP), Sim Z l cX4_listenToRow RX4 6 0 0 (some .boolean) "listenToRow" args (Mq Z args h0 h1 (some (.int v0))) h0 h1 v0 7 [(0, .ref (zb Z + a0)), (1, .ref (zb Z + a1)), (2, .int a2), (3, .int b3)] [] h (F b3 h)) :
    ∀ (b3 : Int32) (h : HP), Sim Z l cX4_listenToRow RX4 6 0 0 (some .boolean) "listenToRow" args (Mq Z args h0 h1 (some (.int v0))) h0 h1 v0 7 [(0, .ref (zb Z + a0)), (1, .ref (zb Z + a1)), (2, .int a2), (3, .int b3)] [] h (lb_X4_listenToRow_7 a0 a1 a2 K F b3 h) := by
  intro b3 h
  unfold lb_X4_listenToRow_7
  refine S_iload_n dX4_listenToRow_7 rfl 3 rfl (pc' := 8) rfl ?_
  refine S_iload_n dX4_listenToRow_8 rfl 2 rfl (pc' := 9) rfl ?_
  refine S_icmp_ge dX4_listenToRow_9 53 rfl (pc' := 12) rfl (fun g9 => ?_) (fun g9 => ?_)
  · refine Sim.sub [] rfl ?_
    exact hK _
  · refine S_aload_n dX4_listenToRow_12 rfl 1 rfl (pc' := 13) rfl ?_
    refine S_getR fl_X4_33 rfl dX4_listenToRow_13 (pc' := 16) rfl (fun x13 => ?_)
    refine S_iload_n dX4_listenToRow_16 rfl 3 rfl (pc' := 17) rfl ?_
    refine S_laload dX4_listenToRow_17 (pc' := 18) rfl (fun x17 => ?_)
    refine S_lstore dX4_listenToRow_18 (by decide) (lo' := [(4, .long x17), (0, .ref (zb Z + a0)), (1, .ref (zb Z + a1)), (2, .int a2), (3, .int b3)]) rfl (pc' := 20) rfl ?_
    refine S_lload dX4_listenToRow_20 0 rfl (pc' := 22) rfl ?_
    refine S_lconst dX4_listenToRow_22 (v := 0) rfl (pc' := 23) rfl ?_
    refine S_lcmp dX4_listenToRow_23 (pc' := 24) rfl ?_
    refine S_if_lt dX4_listenToRow_24 36 rfl (pc' := 27) rfl (fun g24 => ?_) (fun g24 => ?_)
    · refine S_iconst dX4_listenToRow_36 (v := 0) rfl (pc' := 37) rfl ?_
      exact S_zret rfl dX4_listenToRow_37
    · refine S_lload dX4_listenToRow_27 0 rfl (pc' := 29) rfl ?_
      refine S_ldc2 dX4_listenToRow_29 kc_X4_39 (pc' := 32) rfl ?_
      refine S_lcmp dX4_listenToRow_32 (pc' := 33) rfl ?_
      refine S_if_lt dX4_listenToRow_33 38 rfl (pc' := 36) rfl (fun g33 => ?_) (fun g33 => ?_)
      · refine S_aload_n dX4_listenToRow_38 rfl 1 rfl (pc' := 39) rfl ?_
        refine S_getR fl_X4_9 rfl dX4_listenToRow_39 (pc' := 42) rfl (fun x39 => ?_)
        refine S_iload_n dX4_listenToRow_42 rfl 4 rfl (pc' := 43) rfl ?_
        refine S_lload dX4_listenToRow_43 0 rfl (pc' := 45) rfl ?_
        refine S_l2i dX4_listenToRow_45 (pc' := 46) rfl ?_
        refine S_iastore dX4_listenToRow_46 (pc' := 47) rfl (fun h46 => ?_)
        refine S_iinc dX4_listenToRow_47 (q := 4) rfl (v := b3 + 1) rfl (by decide) (lo' := [(3, .int (b3 + 1)), (4, .long x17), (0, .ref (zb Z + a0)), (1, .ref (zb Z + a1)), (2, .int a2)]) rfl (pc' := 50) rfl ?_
        refine S_goto dX4_listenToRow_50 7 rfl ?_
        refine Sim.sub [2, 3, 4, 0] rfl ?_
        exact hF _ _
      · refine S_iconst dX4_listenToRow_36 (v := 0) rfl (pc' := 37) rfl ?_
        exact S_zret rfl dX4_listenToRow_37
theorem lq_X4_listenToRow_7 (Z : ZZ) (l : Launch) (a0 : Nat) (a1 : Nat) (a2 : Int32) {args : Array Value} {h0 h1 : HP} {v0 : Int32} (K : HP → Option (Int32 × HP))
    (hK : ∀ (h : HP), Sim Z l cX4_listenToRow RX4 6 0 0 (some .boolean) "listenToRow" args (Mq Z args h0 h1 (some (.int v0))) h0 h1 v0 53 [] [] h (K h)) :
    ∀ (k : Nat) (b3 : Int32) (h : HP), Sim Z l cX4_listenToRow RX4 6 0 0 (some .boolean) "listenToRow" args (Mq Z args h0 h1 (some (.int v0))) h0 h1 v0 7 [(0, .ref (zb Z + a0)), (1, .ref (zb Z + a1)), (2, .int a2), (3, .int b3)] [] h (lp_X4_listenToRow_7 a0 a1 a2 K k b3 h) := by
  intro k
  induction k with
  | zero => exact fun _ _ => Sim.none
  | succ k ih => exact lc_X4_listenToRow_7 Z l a0 a1 a2 K _ hK ih
set_option maxRecDepth 100000 in
set_option maxHeartbeats 4000000 in
theorem c_X4_listenToRow (Z : ZZ) (l : Launch) (t : Nat) (a1 : Nat) (a2 : Int32) (h : HP) {v : Int32} {h1 : HP} (ho : f_X4_listenToRow t a1 a2 h = some (v, h1)) : MetP Z l yX4_listenToRow cX4_listenToRow 6 (some .boolean) 0 0 [.ref (zb Z + t), .ref (zb Z + a1), .int a2] h (some (.int v)) h1 := by
  refine MetP_of ho (by decide +kernel) (Nat.le_of_ble_eq_true rfl) [(0, .ref (zb Z + t)), (1, .ref (zb Z + a1)), (2, .int a2)] rfl (own := RX4) rfl (nm := "listenToRow") rfl ?_
  unfold f_X4_listenToRow
  refine S_aload_n dX4_listenToRow_0 rfl 0 rfl (pc' := 1) rfl ?_
  refine S_iload_n dX4_listenToRow_1 rfl 2 rfl (pc' := 2) rfl ?_
  refine S_putI fl_X4_18 (by decide) rfl dX4_listenToRow_2 (pc' := 5) rfl (fun h2 => ?_)
  refine S_iconst dX4_listenToRow_5 (v := 0) rfl (pc' := 6) rfl ?_
  refine S_istore_n dX4_listenToRow_6 rfl (by decide) (lo' := [(3, .int 0), (0, .ref (zb Z + t)), (1, .ref (zb Z + a1)), (2, .int a2)]) rfl (pc' := 7) rfl ?_
  refine Sim.sub [1, 2, 3, 0] rfl ?_
  refine lq_X4_listenToRow_7 Z l t a1 a2 _ ?_ 1000 _ _
  intro h7_
  refine S_iconst dX4_listenToRow_53 (v := 1) rfl (pc' := 54) rfl ?_
  exact S_zret rfl dX4_listenToRow_54
theorem dX4_changesTo_0 : decode cX4_changesTo 0 = .ok (.iconst 0, 1) := by decide +kernel
theorem dX4_changesTo_1 : decode cX4_changesTo 1 = .ok (.istore_n 3, 1) := by decide +kernel
theorem dX4_changesTo_2 : decode cX4_changesTo 2 = .ok (.iload_n 3, 1) := by decide +kernel
theorem dX4_changesTo_3 : decode cX4_changesTo 3 = .ok (.bipush 8, 2) := by decide +kernel
theorem dX4_changesTo_5 : decode cX4_changesTo 5 = .ok (.if_icmp .gt 16, 3) := by decide +kernel
theorem dX4_changesTo_8 : decode cX4_changesTo 8 = .ok (.aload_n 0, 1) := by decide +kernel
theorem dX4_changesTo_9 : decode cX4_changesTo 9 = .ok (.getfield 15, 3) := by decide +kernel
theorem dX4_changesTo_12 : decode cX4_changesTo 12 = .ok (.iload_n 3, 1) := by decide +kernel
theorem dX4_changesTo_13 : decode cX4_changesTo 13 = .ok (.iload_n 3, 1) := by decide +kernel
theorem dX4_changesTo_14 : decode cX4_changesTo 14 = .ok (.iastore, 1) := by decide +kernel
theorem dX4_changesTo_15 : decode cX4_changesTo 15 = .ok (.iinc 3 1, 3) := by decide +kernel
theorem dX4_changesTo_18 : decode cX4_changesTo 18 = .ok (.goto (-16), 3) := by decide +kernel
theorem dX4_changesTo_21 : decode cX4_changesTo 21 = .ok (.iconst 0, 1) := by decide +kernel
theorem dX4_changesTo_22 : decode cX4_changesTo 22 = .ok (.istore_n 3, 1) := by decide +kernel
theorem dX4_changesTo_23 : decode cX4_changesTo 23 = .ok (.iload_n 3, 1) := by decide +kernel
theorem dX4_changesTo_24 : decode cX4_changesTo 24 = .ok (.aload_n 0, 1) := by decide +kernel
theorem dX4_changesTo_25 : decode cX4_changesTo 25 = .ok (.getfield 18, 3) := by decide +kernel
theorem dX4_changesTo_28 : decode cX4_changesTo 28 = .ok (.if_icmp .ge 116, 3) := by decide +kernel
theorem dX4_changesTo_31 : decode cX4_changesTo 31 = .ok (.aload_n 0, 1) := by decide +kernel
theorem dX4_changesTo_32 : decode cX4_changesTo 32 = .ok (.getfield 15, 3) := by decide +kernel
theorem dX4_changesTo_35 : decode cX4_changesTo 35 = .ok (.iconst 0, 1) := by decide +kernel
theorem dX4_changesTo_36 : decode cX4_changesTo 36 = .ok (.iaload, 1) := by decide +kernel
theorem dX4_changesTo_37 : decode cX4_changesTo 37 = .ok (.istore 4, 2) := by decide +kernel
theorem dX4_changesTo_39 : decode cX4_changesTo 39 = .ok (.aload_n 0, 1) := by decide +kernel
theorem dX4_changesTo_40 : decode cX4_changesTo 40 = .ok (.getfield 15, 3) := by decide +kernel
theorem dX4_changesTo_43 : decode cX4_changesTo 43 = .ok (.iconst 0, 1) := by decide +kernel
theorem dX4_changesTo_44 : decode cX4_changesTo 44 = .ok (.iload_n 3, 1) := by decide +kernel
theorem dX4_changesTo_45 : decode cX4_changesTo 45 = .ok (.iconst 1, 1) := by decide +kernel
theorem dX4_changesTo_46 : decode cX4_changesTo 46 = .ok (.iadd, 1) := by decide +kernel
theorem dX4_changesTo_47 : decode cX4_changesTo 47 = .ok (.iastore, 1) := by decide +kernel
theorem dX4_changesTo_48 : decode cX4_changesTo 48 = .ok (.iconst 1, 1) := by decide +kernel
theorem dX4_changesTo_49 : decode cX4_changesTo 49 = .ok (.istore 5, 2) := by decide +kernel
theorem dX4_changesTo_51 : decode cX4_changesTo 51 = .ok (.iload 5, 2) := by decide +kernel
theorem dX4_changesTo_53 : decode cX4_changesTo 53 = .ok (.bipush 8, 2) := by decide +kernel
theorem dX4_changesTo_55 : decode cX4_changesTo 55 = .ok (.if_icmp .gt 83, 3) := by decide +kernel
theorem dX4_changesTo_58 : decode cX4_changesTo 58 = .ok (.aload_n 0, 1) := by decide +kernel
theorem dX4_changesTo_59 : decode cX4_changesTo 59 = .ok (.getfield 15, 3) := by decide +kernel
theorem dX4_changesTo_62 : decode cX4_changesTo 62 = .ok (.iload 5, 2) := by decide +kernel
theorem dX4_changesTo_64 : decode cX4_changesTo 64 = .ok (.iaload, 1) := by decide +kernel
theorem dX4_changesTo_65 : decode cX4_changesTo 65 = .ok (.istore 6, 2) := by decide +kernel
theorem dX4_changesTo_67 : decode cX4_changesTo 67 = .ok (.iload 4, 2) := by decide +kernel
theorem dX4_changesTo_69 : decode cX4_changesTo 69 = .ok (.aload_n 0, 1) := by decide +kernel
theorem dX4_changesTo_70 : decode cX4_changesTo 70 = .ok (.getfield 9, 3) := by decide +kernel
theorem dX4_changesTo_73 : decode cX4_changesTo 73 = .ok (.iload_n 3, 1) := by decide +kernel
theorem dX4_changesTo_74 : decode cX4_changesTo 74 = .ok (.iaload, 1) := by decide +kernel
theorem dX4_changesTo_75 : decode cX4_changesTo 75 = .ok (.aload_n 1, 1) := by decide +kernel
theorem dX4_changesTo_76 : decode cX4_changesTo 76 = .ok (.getfield 22, 3) := by decide +kernel
theorem dX4_changesTo_79 : decode cX4_changesTo 79 = .ok (.iload_n 2, 1) := by decide +kernel
theorem dX4_changesTo_80 : decode cX4_changesTo 80 = .ok (.bipush 8, 2) := by decide +kernel
theorem dX4_changesTo_82 : decode cX4_changesTo 82 = .ok (.imul, 1) := by decide +kernel
theorem dX4_changesTo_83 : decode cX4_changesTo 83 = .ok (.iload 5, 2) := by decide +kernel
theorem dX4_changesTo_85 : decode cX4_changesTo 85 = .ok (.iadd, 1) := by decide +kernel
theorem dX4_changesTo_86 : decode cX4_changesTo 86 = .ok (.iconst 1, 1) := by decide +kernel
theorem dX4_changesTo_87 : decode cX4_changesTo 87 = .ok (.isub, 1) := by decide +kernel
theorem dX4_changesTo_88 : decode cX4_changesTo 88 = .ok (.iaload, 1) := by decide +kernel
theorem dX4_changesTo_89 : decode cX4_changesTo 89 = .ok (.if_icmp .ne 7, 3) := by decide +kernel
theorem dX4_changesTo_92 : decode cX4_changesTo 92 = .ok (.iconst 0, 1) := by decide +kernel
theorem dX4_changesTo_93 : decode cX4_changesTo 93 = .ok (.goto 4, 3) := by decide +kernel
theorem dX4_changesTo_96 : decode cX4_changesTo 96 = .ok (.iconst 1, 1) := by decide +kernel
theorem dX4_changesTo_97 : decode cX4_changesTo 97 = .ok (.iadd, 1) := by decide +kernel
theorem dX4_changesTo_98 : decode cX4_changesTo 98 = .ok (.istore 7, 2) := by decide +kernel
theorem dX4_changesTo_100 : decode cX4_changesTo 100 = .ok (.aload_n 0, 1) := by decide +kernel
theorem dX4_changesTo_101 : decode cX4_changesTo 101 = .ok (.getfield 15, 3) := by decide +kernel
theorem dX4_changesTo_104 : decode cX4_changesTo 104 = .ok (.iload 5, 2) := by decide +kernel
theorem dX4_changesTo_106 : decode cX4_changesTo 106 = .ok (.iload 7, 2) := by decide +kernel
theorem dX4_changesTo_108 : decode cX4_changesTo 108 = .ok (.iload 6, 2) := by decide +kernel
theorem dX4_changesTo_110 : decode cX4_changesTo 110 = .ok (.aload_n 0, 1) := by decide +kernel
theorem dX4_changesTo_111 : decode cX4_changesTo 111 = .ok (.getfield 15, 3) := by decide +kernel
theorem dX4_changesTo_114 : decode cX4_changesTo 114 = .ok (.iload 5, 2) := by decide +kernel
theorem dX4_changesTo_116 : decode cX4_changesTo 116 = .ok (.iconst 1, 1) := by decide +kernel
theorem dX4_changesTo_117 : decode cX4_changesTo 117 = .ok (.isub, 1) := by decide +kernel
theorem dX4_changesTo_118 : decode cX4_changesTo 118 = .ok (.iaload, 1) := by decide +kernel
theorem dX4_changesTo_119 : decode cX4_changesTo 119 = .ok (.invokestatic 41, 3) := by decide +kernel
theorem dX4_changesTo_122 : decode cX4_changesTo 122 = .ok (.iconst 1, 1) := by decide +kernel
theorem dX4_changesTo_123 : decode cX4_changesTo 123 = .ok (.iadd, 1) := by decide +kernel
theorem dX4_changesTo_124 : decode cX4_changesTo 124 = .ok (.invokestatic 41, 3) := by decide +kernel
theorem dX4_changesTo_127 : decode cX4_changesTo 127 = .ok (.iastore, 1) := by decide +kernel
theorem dX4_changesTo_128 : decode cX4_changesTo 128 = .ok (.iload 6, 2) := by decide +kernel
theorem dX4_changesTo_130 : decode cX4_changesTo 130 = .ok (.istore 4, 2) := by decide +kernel
theorem dX4_changesTo_132 : decode cX4_changesTo 132 = .ok (.iinc 5 1, 3) := by decide +kernel
theorem dX4_changesTo_135 : decode cX4_changesTo 135 = .ok (.goto (-84), 3) := by decide +kernel
theorem dX4_changesTo_138 : decode cX4_changesTo 138 = .ok (.iinc 3 1, 3) := by decide +kernel
theorem dX4_changesTo_141 : decode cX4_changesTo 141 = .ok (.goto (-118), 3) := by decide +kernel
theorem dX4_changesTo_144 : decode cX4_changesTo 144 = .ok (.aload_n 0, 1) := by decide +kernel
theorem dX4_changesTo_145 : decode cX4_changesTo 145 = .ok (.getfield 15, 3) := by decide +kernel
theorem dX4_changesTo_148 : decode cX4_changesTo 148 = .ok (.bipush 8, 2) := by decide +kernel
theorem dX4_changesTo_150 : decode cX4_changesTo 150 = .ok (.iaload, 1) := by decide +kernel
theorem dX4_changesTo_151 : decode cX4_changesTo 151 = .ok (.ireturn, 1) := by decide +kernel
set_option maxRecDepth 100000 in
set_option maxHeartbeats 4000000 in
theorem lc_X4_changesTo_2 (Z : ZZ) (l : Launch) (a0 : Nat) (a1 : Nat) (a2 : Int32) {args : Array Value} {h0 h1 : HP} {v0 : Int32} (K : HP → Option (Int32 × HP)) (F : Int32 → HP → Option (Int32 × HP))
    (hK : ∀ (h : HP), Sim Z l cX4_changesTo RX4 8 1 21 (some .int) "changesTo" args (Mq Z args h0 h1 (some (.int v0))) h0 h1 v0 21 [(0, .ref (zb Z + a0)), (1, .ref (zb Z + a1)), (2, .int a2)] [] h (K h))
    (hF : ∀ (b3 : Int32) (h : HP), Sim Z l cX4_changesTo RX4 8 1 21 (some .int) "changesTo" args (Mq Z args h0 h1 (some (.int v0))) h0 h1 v0 2 [(0, .ref (zb Z + a0)), (1, .ref (zb Z + a1)), (2, .int a2), (3, .int b3)] [] h (F b3 h)) :
    ∀ (b3 : Int32) (h : HP), Sim Z l cX4_changesTo RX4 8 1 21 (some .int) "changesTo" args (Mq Z args h0 h1 (some (.int v0))) h0 h1 v0 2 [(0, .ref (zb Z + a0)), (1, .ref (zb Z + a1)), (2, .int a2), (3, .int b3)] [] h (lb_X4_changesTo_2 a0 a1 a2 K F b3 h) := by
  intro b3 h
  unfold lb_X4_changesTo_2
  refine S_iload_n dX4_changesTo_2 rfl 3 rfl (pc' := 3) rfl ?_
  refine S_bipush dX4_changesTo_3 (v := 8) rfl (pc' := 5) rfl ?_
  refine S_icmp_gt dX4_changesTo_5 21 rfl (pc' := 8) rfl (fun g5 => ?_) (fun g5 => ?_)
  · refine Sim.sub [0, 1, 2] rfl ?_
    exact hK _
  · refine S_aload_n dX4_changesTo_8 rfl 0 rfl (pc' := 9) rfl ?_
    refine S_getR fl_X4_15 rfl dX4_changesTo_9 (pc' := 12) rfl (fun x9 => ?_)
    refine S_iload_n dX4_changesTo_12 rfl 3 rfl (pc' := 13) rfl ?_
    refine S_iload_n dX4_changesTo_13 rfl 3 rfl (pc' := 14) rfl ?_
    refine S_iastore dX4_changesTo_14 (pc' := 15) rfl (fun h14 => ?_)
    refine S_iinc dX4_changesTo_15 (q := 3) rfl (v := b3 + 1) rfl (by decide) (lo' := [(3, .int (b3 + 1)), (0, .ref (zb Z + a0)), (1, .ref (zb Z + a1)), (2, .int a2)]) rfl (pc' := 18) rfl ?_
    refine S_goto dX4_changesTo_18 2 rfl ?_
    refine Sim.sub [1, 2, 3, 0] rfl ?_
    exact hF _ _
theorem lq_X4_changesTo_2 (Z : ZZ) (l : Launch) (a0 : Nat) (a1 : Nat) (a2 : Int32) {args : Array Value} {h0 h1 : HP} {v0 : Int32} (K : HP → Option (Int32 × HP))
    (hK : ∀ (h : HP), Sim Z l cX4_changesTo RX4 8 1 21 (some .int) "changesTo" args (Mq Z args h0 h1 (some (.int v0))) h0 h1 v0 21 [(0, .ref (zb Z + a0)), (1, .ref (zb Z + a1)), (2, .int a2)] [] h (K h)) :
    ∀ (k : Nat) (b3 : Int32) (h : HP), Sim Z l cX4_changesTo RX4 8 1 21 (some .int) "changesTo" args (Mq Z args h0 h1 (some (.int v0))) h0 h1 v0 2 [(0, .ref (zb Z + a0)), (1, .ref (zb Z + a1)), (2, .int a2), (3, .int b3)] [] h (lp_X4_changesTo_2 a0 a1 a2 K k b3 h) := by
  intro k
  induction k with
  | zero => exact fun _ _ => Sim.none
  | succ k ih => exact lc_X4_changesTo_2 Z l a0 a1 a2 K _ hK ih
set_option maxRecDepth 100000 in
set_option maxHeartbeats 4000000 in
theorem lc_X4_changesTo_51 (Z : ZZ) (l : Launch) (a0 : Nat) (a1 : Nat) (a2 : Int32) (a3 : Int32) {args : Array Value} {h0 h1 : HP} {v0 : Int32} (K : HP → Option (Int32 × HP)) (F : Int32 → Int32 → HP → Option (Int32 × HP))
    (hK : ∀ (h : HP), Sim Z l cX4_changesTo RX4 8 1 21 (some .int) "changesTo" args (Mq Z args h0 h1 (some (.int v0))) h0 h1 v0 138 [(0, .ref (zb Z + a0)), (1, .ref (zb Z + a1)), (2, .int a2), (3, .int a3)] [] h (K h))
    (hF : ∀ (b4 : Int32) (b5 : Int32) (h : HP), Sim Z l cX4_changesTo RX4 8 1 21 (some .int) "changesTo" args (Mq Z args h0 h1 (some (.int v0))) h0 h1 v0 51 [(0, .ref (zb Z + a0)), (1, .ref (zb Z + a1)), (2, .int a2), (3, .int a3), (4, .int b4), (5, .int b5)] [] h (F b4 b5 h)) :
    ∀ (b4 : Int32) (b5 : Int32) (h : HP), Sim Z l cX4_changesTo RX4 8 1 21 (some .int) "changesTo" args (Mq Z args h0 h1 (some (.int v0))) h0 h1 v0 51 [(0, .ref (zb Z + a0)), (1, .ref (zb Z + a1)), (2, .int a2), (3, .int a3), (4, .int b4), (5, .int b5)] [] h (lb_X4_changesTo_51 a0 a1 a2 a3 K F b4 b5 h) := by
  intro b4 b5 h
  unfold lb_X4_changesTo_51
  refine S_iload dX4_changesTo_51 5 rfl (pc' := 53) rfl ?_
  refine S_bipush dX4_changesTo_53 (v := 8) rfl (pc' := 55) rfl ?_
  refine S_icmp_gt dX4_changesTo_55 138 rfl (pc' := 58) rfl (fun g55 => ?_) (fun g55 => ?_)
  · refine Sim.sub [0, 1, 2, 3] rfl ?_
    exact hK _
  · refine S_aload_n dX4_changesTo_58 rfl 0 rfl (pc' := 59) rfl ?_
    refine S_getR fl_X4_15 rfl dX4_changesTo_59 (pc' := 62) rfl (fun x59 => ?_)
    refine S_iload dX4_changesTo_62 5 rfl (pc' := 64) rfl ?_
    refine S_iaload dX4_changesTo_64 (pc' := 65) rfl (fun x64 => ?_)
    refine S_istore dX4_changesTo_65 (by decide) (lo' := [(6, .int x64), (0, .ref (zb Z + a0)), (1, .ref (zb Z + a1)), (2, .int a2), (3, .int a3), (4, .int b4), (5, .int b5)]) rfl (pc' := 67) rfl ?_
    refine S_iload dX4_changesTo_67 5 rfl (pc' := 69) rfl ?_
    refine S_aload_n dX4_changesTo_69 rfl 1 rfl (pc' := 70) rfl ?_
    refine S_getR fl_X4_9 rfl dX4_changesTo_70 (pc' := 73) rfl (fun x70 => ?_)
    refine S_iload_n dX4_changesTo_73 rfl 4 rfl (pc' := 74) rfl ?_
    refine S_iaload dX4_changesTo_74 (pc' := 75) rfl (fun x74 => ?_)
    refine S_aload_n dX4_changesTo_75 rfl 2 rfl (pc' := 76) rfl ?_
    refine S_getR fl_X4_22 rfl dX4_changesTo_76 (pc' := 79) rfl (fun x76 => ?_)
    refine S_iload_n dX4_changesTo_79 rfl 3 rfl (pc' := 80) rfl ?_
    refine S_bipush dX4_changesTo_80 (v := 8) rfl (pc' := 82) rfl ?_
    refine S_imul dX4_changesTo_82 (pc' := 83) rfl ?_
    refine S_iload dX4_changesTo_83 6 rfl (pc' := 85) rfl ?_
    refine S_iadd dX4_changesTo_85 (pc' := 86) rfl ?_
    refine S_iconst dX4_changesTo_86 (v := 1) rfl (pc' := 87) rfl ?_
    refine S_isub dX4_changesTo_87 (pc' := 88) rfl ?_
    refine S_iaload dX4_changesTo_88 (pc' := 89) rfl (fun x88 => ?_)
    refine S_icmp_ne dX4_changesTo_89 96 rfl (pc' := 92) rfl (fun g89 => ?_) (fun g89 => ?_)
    · refine S_iconst dX4_changesTo_96 (v := 1) rfl (pc' := 97) rfl ?_
      refine S_iadd dX4_changesTo_97 (pc' := 98) rfl ?_
      refine S_istore dX4_changesTo_98 (by decide) (lo' := [(7, .int (b4 + 1)), (6, .int x64), (0, .ref (zb Z + a0)), (1, .ref (zb Z + a1)), (2, .int a2), (3, .int a3), (4, .int b4), (5, .int b5)]) rfl (pc' := 100) rfl ?_
      refine S_aload_n dX4_changesTo_100 rfl 2 rfl (pc' := 101) rfl ?_
      refine S_getR fl_X4_15 rfl dX4_changesTo_101 (pc' := 104) rfl (fun x101 => ?_)
      refine S_iload dX4_changesTo_104 7 rfl (pc' := 106) rfl ?_
      refine S_iload dX4_changesTo_106 0 rfl (pc' := 108) rfl ?_
      refine S_iload dX4_changesTo_108 1 rfl (pc' := 110) rfl ?_
      refine S_aload_n dX4_changesTo_110 rfl 2 rfl (pc' := 111) rfl ?_
      refine S_getR fl_X4_15 rfl dX4_changesTo_111 (pc' := 114) rfl (fun x111 => ?_)
      refine S_iload dX4_changesTo_114 7 rfl (pc' := 116) rfl ?_
      refine S_iconst dX4_changesTo_116 (v := 1) rfl (pc' := 117) rfl ?_
      refine S_isub dX4_changesTo_117 (pc' := 118) rfl ?_
      refine S_iaload dX4_changesTo_118 (pc' := 119) rfl (fun x118 => ?_)
      refine S_stai ml_X4_41 ms_J9_min_7cf53 dX4_changesTo_119 [.int x64, .int x118] rfl (fun v h2 q => c_J9_min_7cf53 Z l _ _ _ q) ⟨Nat.le_of_ble_eq_true rfl, Nat.le_of_ble_eq_true rfl⟩ (rest := [.int (b4 + 1), .int b5, .ref (zb Z + x101)]) (Nat.le_of_ble_eq_true rfl) rfl (pc' := 122) rfl (fun x119 h119 => ?_)
      refine S_iconst dX4_changesTo_122 (v := 1) rfl (pc' := 123) rfl ?_
      refine S_iadd dX4_changesTo_123 (pc' := 124) rfl ?_
      refine S_stai ml_X4_41 ms_J9_min_7cf53 dX4_changesTo_124 [.int (b4 + 1), .int (x119 + 1)] rfl (fun v h2 q => c_J9_min_7cf53 Z l _ _ _ q) ⟨Nat.le_of_ble_eq_true rfl, Nat.le_of_ble_eq_true rfl⟩ (rest := [.int b5, .ref (zb Z + x101)]) (Nat.le_of_ble_eq_true rfl) rfl (pc' := 127) rfl (fun x124 h124 => ?_)
      refine S_iastore dX4_changesTo_127 (pc' := 128) rfl (fun h127 => ?_)
      refine S_iload dX4_changesTo_128 1 rfl (pc' := 130) rfl ?_
      refine S_istore dX4_changesTo_130 (by decide) (lo' := [(4, .int x64), (7, .int (b4 + 1)), (6, .int x64), (0, .ref (zb Z + a0)), (1, .ref (zb Z + a1)), (2, .int a2), (3, .int a3), (5, .int b5)]) rfl (pc' := 132) rfl ?_
      refine S_iinc dX4_changesTo_132 (q := 7) rfl (v := b5 + 1) rfl (by decide) (lo' := [(5, .int (b5 + 1)), (4, .int x64), (7, .int (b4 + 1)), (6, .int x64), (0, .ref (zb Z + a0)), (1, .ref (zb Z + a1)), (2, .int a2), (3, .int a3)]) rfl (pc' := 135) rfl ?_
      refine S_goto dX4_changesTo_135 51 rfl ?_
      refine Sim.sub [4, 5, 6, 7, 1, 0] rfl ?_
      exact hF _ _ _
    · refine S_iconst dX4_changesTo_92 (v := 0) rfl (pc' := 93) rfl ?_
      refine S_goto dX4_changesTo_93 97 rfl ?_
      refine S_iadd dX4_changesTo_97 (pc' := 98) rfl ?_
      refine S_istore dX4_changesTo_98 (by decide) (lo' := [(7, .int (b4 + 0)), (6, .int x64), (0, .ref (zb Z + a0)), (1, .ref (zb Z + a1)), (2, .int a2), (3, .int a3), (4, .int b4), (5, .int b5)]) rfl (pc' := 100) rfl ?_
      refine S_aload_n dX4_changesTo_100 rfl 2 rfl (pc' := 101) rfl ?_
      refine S_getR fl_X4_15 rfl dX4_changesTo_101 (pc' := 104) rfl (fun x101 => ?_)
      refine S_iload dX4_changesTo_104 7 rfl (pc' := 106) rfl ?_
      refine S_iload dX4_changesTo_106 0 rfl (pc' := 108) rfl ?_
      refine S_iload dX4_changesTo_108 1 rfl (pc' := 110) rfl ?_
      refine S_aload_n dX4_changesTo_110 rfl 2 rfl (pc' := 111) rfl ?_
      refine S_getR fl_X4_15 rfl dX4_changesTo_111 (pc' := 114) rfl (fun x111 => ?_)
      refine S_iload dX4_changesTo_114 7 rfl (pc' := 116) rfl ?_
      refine S_iconst dX4_changesTo_116 (v := 1) rfl (pc' := 117) rfl ?_
      refine S_isub dX4_changesTo_117 (pc' := 118) rfl ?_
      refine S_iaload dX4_changesTo_118 (pc' := 119) rfl (fun x118 => ?_)
      refine S_stai ml_X4_41 ms_J9_min_7cf53 dX4_changesTo_119 [.int x64, .int x118] rfl (fun v h2 q => c_J9_min_7cf53 Z l _ _ _ q) ⟨Nat.le_of_ble_eq_true rfl, Nat.le_of_ble_eq_true rfl⟩ (rest := [.int (b4 + 0), .int b5, .ref (zb Z + x101)]) (Nat.le_of_ble_eq_true rfl) rfl (pc' := 122) rfl (fun x119 h119 => ?_)
      refine S_iconst dX4_changesTo_122 (v := 1) rfl (pc' := 123) rfl ?_
      refine S_iadd dX4_changesTo_123 (pc' := 124) rfl ?_
      refine S_stai ml_X4_41 ms_J9_min_7cf53 dX4_changesTo_124 [.int (b4 + 0), .int (x119 + 1)] rfl (fun v h2 q => c_J9_min_7cf53 Z l _ _ _ q) ⟨Nat.le_of_ble_eq_true rfl, Nat.le_of_ble_eq_true rfl⟩ (rest := [.int b5, .ref (zb Z + x101)]) (Nat.le_of_ble_eq_true rfl) rfl (pc' := 127) rfl (fun x124 h124 => ?_)
      refine S_iastore dX4_changesTo_127 (pc' := 128) rfl (fun h127 => ?_)
      refine S_iload dX4_changesTo_128 1 rfl (pc' := 130) rfl ?_
      refine S_istore dX4_changesTo_130 (by decide) (lo' := [(4, .int x64), (7, .int (b4 + 0)), (6, .int x64), (0, .ref (zb Z + a0)), (1, .ref (zb Z + a1)), (2, .int a2), (3, .int a3), (5, .int b5)]) rfl (pc' := 132) rfl ?_
      refine S_iinc dX4_changesTo_132 (q := 7) rfl (v := b5 + 1) rfl (by decide) (lo' := [(5, .int (b5 + 1)), (4, .int x64), (7, .int (b4 + 0)), (6, .int x64), (0, .ref (zb Z + a0)), (1, .ref (zb Z + a1)), (2, .int a2), (3, .int a3)]) rfl (pc' := 135) rfl ?_
      refine S_goto dX4_changesTo_135 51 rfl ?_
      refine Sim.sub [4, 5, 6, 7, 1, 0] rfl ?_
      exact hF _ _ _
theorem lq_X4_changesTo_51 (Z : ZZ) (l : Launch) (a0 : Nat) (a1 : Nat) (a2 : Int32) (a3 : Int32) {args : Array Value} {h0 h1 : HP} {v0 : Int32} (K : HP → Option (Int32 × HP))
    (hK : ∀ (h : HP), Sim Z l cX4_changesTo RX4 8 1 21 (some .int) "changesTo" args (Mq Z args h0 h1 (some (.int v0))) h0 h1 v0 138 [(0, .ref (zb Z + a0)), (1, .ref (zb Z + a1)), (2, .int a2), (3, .int a3)] [] h (K h)) :
    ∀ (k : Nat) (b4 : Int32) (b5 : Int32) (h : HP), Sim Z l cX4_changesTo RX4 8 1 21 (some .int) "changesTo" args (Mq Z args h0 h1 (some (.int v0))) h0 h1 v0 51 [(0, .ref (zb Z + a0)), (1, .ref (zb Z + a1)), (2, .int a2), (3, .int a3), (4, .int b4), (5, .int b5)] [] h (lp_X4_changesTo_51 a0 a1 a2 a3 K k b4 b5 h) := by
  intro k
  induction k with
  | zero => exact fun _ _ _ => Sim.none
  | succ k ih => exact lc_X4_changesTo_51 Z l a0 a1 a2 a3 K _ hK ih
set_option maxRecDepth 100000 in
set_option maxHeartbeats 4000000 in
theorem lc_X4_changesTo_23 (Z : ZZ) (l : Launch) (a0 : Nat) (a1 : Nat) (a2 : Int32) {args : Array Value} {h0 h1 : HP} {v0 : Int32} (K : HP → Option (Int32 × HP)) (F : Int32 → HP → Option (Int32 × HP))
    (hK : ∀ (h : HP), Sim Z l cX4_changesTo RX4 8 1 21 (some .int) "changesTo" args (Mq Z args h0 h1 (some (.int v0))) h0 h1 v0 144 [(0, .ref (zb Z + a0))] [] h (K h))
    (hF : ∀ (b3 : Int32) (h : HP), Sim Z l cX4_changesTo RX4 8 1 21 (some .int) "changesTo" args (Mq Z args h0 h1 (some (.int v0))) h0 h1 v0 23 [(0, .ref (zb Z + a0)), (1, .ref (zb Z + a1)), (2, .int a2), (3, .int b3)] [] h (F b3 h)) :
    ∀ (b3 : Int32) (h : HP), Sim Z l cX4_changesTo RX4 8 1 21 (some .int) "changesTo" args (Mq Z args h0 h1 (some (.int v0))) h0 h1 v0 23 [(0, .ref (zb Z + a0)), (1, .ref (zb Z + a1)), (2, .int a2), (3, .int b3)] [] h (lb_X4_changesTo_23 a0 a1 a2 K F b3 h) := by
  intro b3 h
  unfold lb_X4_changesTo_23
  refine S_iload_n dX4_changesTo_23 rfl 3 rfl (pc' := 24) rfl ?_
  refine S_aload_n dX4_changesTo_24 rfl 0 rfl (pc' := 25) rfl ?_
  refine S_getI fl_X4_18 rfl dX4_changesTo_25 (pc' := 28) rfl (fun x25 => ?_)
  refine S_icmp_ge dX4_changesTo_28 144 rfl (pc' := 31) rfl (fun g28 => ?_) (fun g28 => ?_)
  · refine Sim.sub [0] rfl ?_
    exact hK _
  · refine S_aload_n dX4_changesTo_31 rfl 0 rfl (pc' := 32) rfl ?_
    refine S_getR fl_X4_15 rfl dX4_changesTo_32 (pc' := 35) rfl (fun x32 => ?_)
    refine S_iconst dX4_changesTo_35 (v := 0) rfl (pc' := 36) rfl ?_
    refine S_iaload dX4_changesTo_36 (pc' := 37) rfl (fun x36 => ?_)
    refine S_istore dX4_changesTo_37 (by decide) (lo' := [(4, .int x36), (0, .ref (zb Z + a0)), (1, .ref (zb Z + a1)), (2, .int a2), (3, .int b3)]) rfl (pc' := 39) rfl ?_
    refine S_aload_n dX4_changesTo_39 rfl 1 rfl (pc' := 40) rfl ?_
    refine S_getR fl_X4_15 rfl dX4_changesTo_40 (pc' := 43) rfl (fun x40 => ?_)
    refine S_iconst dX4_changesTo_43 (v := 0) rfl (pc' := 44) rfl ?_
    refine S_iload_n dX4_changesTo_44 rfl 4 rfl (pc' := 45) rfl ?_
    refine S_iconst dX4_changesTo_45 (v := 1) rfl (pc' := 46) rfl ?_
    refine S_iadd dX4_changesTo_46 (pc' := 47) rfl ?_
    refine S_iastore dX4_changesTo_47 (pc' := 48) rfl (fun h47 => ?_)
    refine S_iconst dX4_changesTo_48 (v := 1) rfl (pc' := 49) rfl ?_
    refine S_istore dX4_changesTo_49 (by decide) (lo' := [(5, .int 1), (4, .int x36), (0, .ref (zb Z + a0)), (1, .ref (zb Z + a1)), (2, .int a2), (3, .int b3)]) rfl (pc' := 51) rfl ?_
    refine Sim.sub [2, 3, 4, 5, 1, 0] rfl ?_
    refine lq_X4_changesTo_51 Z l a0 a1 a2 b3 _ ?_ 1000 _ _ _
    intro h51_
    refine S_iinc dX4_changesTo_138 (q := 3) rfl (v := b3 + 1) rfl (by decide) (lo' := [(3, .int (b3 + 1)), (0, .ref (zb Z + a0)), (1, .ref (zb Z + a1)), (2, .int a2)]) rfl (pc' := 141) rfl ?_
    refine S_goto dX4_changesTo_141 23 rfl ?_
    refine Sim.sub [1, 2, 3, 0] rfl ?_
    exact hF _ _
theorem lq_X4_changesTo_23 (Z : ZZ) (l : Launch) (a0 : Nat) (a1 : Nat) (a2 : Int32) {args : Array Value} {h0 h1 : HP} {v0 : Int32} (K : HP → Option (Int32 × HP))
    (hK : ∀ (h : HP), Sim Z l cX4_changesTo RX4 8 1 21 (some .int) "changesTo" args (Mq Z args h0 h1 (some (.int v0))) h0 h1 v0 144 [(0, .ref (zb Z + a0))] [] h (K h)) :
    ∀ (k : Nat) (b3 : Int32) (h : HP), Sim Z l cX4_changesTo RX4 8 1 21 (some .int) "changesTo" args (Mq Z args h0 h1 (some (.int v0))) h0 h1 v0 23 [(0, .ref (zb Z + a0)), (1, .ref (zb Z + a1)), (2, .int a2), (3, .int b3)] [] h (lp_X4_changesTo_23 a0 a1 a2 K k b3 h) := by
  intro k
  induction k with
  | zero => exact fun _ _ => Sim.none
  | succ k ih => exact lc_X4_changesTo_23 Z l a0 a1 a2 K _ hK ih
set_option maxRecDepth 100000 in
set_option maxHeartbeats 4000000 in
theorem c_X4_changesTo (Z : ZZ) (l : Launch) (t : Nat) (a1 : Nat) (a2 : Int32) (h : HP) {v : Int32} {h1 : HP} (ho : f_X4_changesTo t a1 a2 h = some (v, h1)) : MetP Z l yX4_changesTo cX4_changesTo 8 (some .int) 1 21 [.ref (zb Z + t), .ref (zb Z + a1), .int a2] h (some (.int v)) h1 := by
  refine MetP_of ho (by decide +kernel) (Nat.le_of_ble_eq_true rfl) [(0, .ref (zb Z + t)), (1, .ref (zb Z + a1)), (2, .int a2)] rfl (own := RX4) rfl (nm := "changesTo") rfl ?_
  unfold f_X4_changesTo
  refine S_iconst dX4_changesTo_0 (v := 0) rfl (pc' := 1) rfl ?_
  refine S_istore_n dX4_changesTo_1 rfl (by decide) (lo' := [(3, .int 0), (0, .ref (zb Z + t)), (1, .ref (zb Z + a1)), (2, .int a2)]) rfl (pc' := 2) rfl ?_
  refine Sim.sub [1, 2, 3, 0] rfl ?_
  refine lq_X4_changesTo_2 Z l t a1 a2 _ ?_ 1000 _ _
  intro h2_
  refine S_iconst dX4_changesTo_21 (v := 0) rfl (pc' := 22) rfl ?_
  refine S_istore_n dX4_changesTo_22 rfl (by decide) (lo' := [(3, .int 0), (0, .ref (zb Z + t)), (1, .ref (zb Z + a1)), (2, .int a2)]) rfl (pc' := 23) rfl ?_
  refine Sim.sub [1, 2, 3, 0] rfl ?_
  refine lq_X4_changesTo_23 Z l t a1 a2 _ ?_ 1000 _ _
  intro h23_
  refine S_aload_n dX4_changesTo_144 rfl 0 rfl (pc' := 145) rfl ?_
  refine S_getR fl_X4_15 rfl dX4_changesTo_145 (pc' := 148) rfl (fun x145 => ?_)
  refine S_bipush dX4_changesTo_148 (v := 8) rfl (pc' := 150) rfl ?_
  refine S_iaload dX4_changesTo_150 (pc' := 151) rfl (fun x150 => ?_)
  exact S_iret rfl dX4_changesTo_151
theorem dX4_nearestSong_0 : decode cX4_nearestSong 0 = .ok (.iconst (-1), 1) := by decide +kernel
theorem dX4_nearestSong_1 : decode cX4_nearestSong 1 = .ok (.istore_n 2, 1) := by decide +kernel
theorem dX4_nearestSong_2 : decode cX4_nearestSong 2 = .ok (.bipush 16, 2) := by decide +kernel
theorem dX4_nearestSong_4 : decode cX4_nearestSong 4 = .ok (.istore_n 3, 1) := by decide +kernel
theorem dX4_nearestSong_5 : decode cX4_nearestSong 5 = .ok (.iconst 0, 1) := by decide +kernel
theorem dX4_nearestSong_6 : decode cX4_nearestSong 6 = .ok (.istore 4, 2) := by decide +kernel
theorem dX4_nearestSong_8 : decode cX4_nearestSong 8 = .ok (.iload 4, 2) := by decide +kernel
theorem dX4_nearestSong_10 : decode cX4_nearestSong 10 = .ok (.aload_n 1, 1) := by decide +kernel
theorem dX4_nearestSong_11 : decode cX4_nearestSong 11 = .ok (.getfield 47, 3) := by decide +kernel
theorem dX4_nearestSong_14 : decode cX4_nearestSong 14 = .ok (.if_icmp .ge 30, 3) := by decide +kernel
theorem dX4_nearestSong_17 : decode cX4_nearestSong 17 = .ok (.aload_n 0, 1) := by decide +kernel
theorem dX4_nearestSong_18 : decode cX4_nearestSong 18 = .ok (.aload_n 1, 1) := by decide +kernel
theorem dX4_nearestSong_19 : decode cX4_nearestSong 19 = .ok (.iload 4, 2) := by decide +kernel
theorem dX4_nearestSong_21 : decode cX4_nearestSong 21 = .ok (.invokevirtual 50, 3) := by decide +kernel
theorem dX4_nearestSong_24 : decode cX4_nearestSong 24 = .ok (.istore 5, 2) := by decide +kernel
theorem dX4_nearestSong_26 : decode cX4_nearestSong 26 = .ok (.iload 5, 2) := by decide +kernel
theorem dX4_nearestSong_28 : decode cX4_nearestSong 28 = .ok (.iload_n 3, 1) := by decide +kernel
theorem dX4_nearestSong_29 : decode cX4_nearestSong 29 = .ok (.if_icmp .ge 9, 3) := by decide +kernel
theorem dX4_nearestSong_32 : decode cX4_nearestSong 32 = .ok (.iload 4, 2) := by decide +kernel
theorem dX4_nearestSong_34 : decode cX4_nearestSong 34 = .ok (.istore_n 2, 1) := by decide +kernel
theorem dX4_nearestSong_35 : decode cX4_nearestSong 35 = .ok (.iload 5, 2) := by decide +kernel
theorem dX4_nearestSong_37 : decode cX4_nearestSong 37 = .ok (.istore_n 3, 1) := by decide +kernel
theorem dX4_nearestSong_38 : decode cX4_nearestSong 38 = .ok (.iinc 4 1, 3) := by decide +kernel
theorem dX4_nearestSong_41 : decode cX4_nearestSong 41 = .ok (.goto (-33), 3) := by decide +kernel
theorem dX4_nearestSong_44 : decode cX4_nearestSong 44 = .ok (.iload_n 2, 1) := by decide +kernel
theorem dX4_nearestSong_45 : decode cX4_nearestSong 45 = .ok (.ireturn, 1) := by decide +kernel
set_option maxRecDepth 100000 in
set_option maxHeartbeats 4000000 in
theorem lc_X4_nearestSong_8 (Z : ZZ) (l : Launch) (a0 : Nat) (a1 : Nat) {args : Array Value} {h0 h1 : HP} {v0 : Int32} (K : Int32 → HP → Option (Int32 × HP)) (F : Int32 → Int32 → Int32 → HP → Option (Int32 × HP))
    (hK : ∀ (b2 : Int32) (h : HP), Sim Z l cX4_nearestSong RX4 6 2 48 (some .int) "nearestSong" args (Mq Z args h0 h1 (some (.int v0))) h0 h1 v0 44 [(2, .int b2)] [] h (K b2 h))
    (hF : ∀ (b2 : Int32) (b3 : Int32) (b4 : Int32) (h : HP), Sim Z l cX4_nearestSong RX4 6 2 48 (some .int) "nearestSong" args (Mq Z args h0 h1 (some (.int v0))) h0 h1 v0 8 [(0, .ref (zb Z + a0)), (1, .ref (zb Z + a1)), (2, .int b2), (3, .int b3), (4, .int b4)] [] h (F b2 b3 b4 h)) :
    ∀ (b2 : Int32) (b3 : Int32) (b4 : Int32) (h : HP), Sim Z l cX4_nearestSong RX4 6 2 48 (some .int) "nearestSong" args (Mq Z args h0 h1 (some (.int v0))) h0 h1 v0 8 [(0, .ref (zb Z + a0)), (1, .ref (zb Z + a1)), (2, .int b2), (3, .int b3), (4, .int b4)] [] h (lb_X4_nearestSong_8 a0 a1 K F b2 b3 b4 h) := by
  intro b2 b3 b4 h
  unfold lb_X4_nearestSong_8
  refine S_iload dX4_nearestSong_8 4 rfl (pc' := 10) rfl ?_
  refine S_aload_n dX4_nearestSong_10 rfl 1 rfl (pc' := 11) rfl ?_
  refine S_getI fl_X4_47 rfl dX4_nearestSong_11 (pc' := 14) rfl (fun x11 => ?_)
  refine S_icmp_ge dX4_nearestSong_14 44 rfl (pc' := 17) rfl (fun g14 => ?_) (fun g14 => ?_)
  · refine Sim.sub [2] rfl ?_
    exact hK _ _
  · refine S_aload_n dX4_nearestSong_17 rfl 0 rfl (pc' := 18) rfl ?_
    refine S_aload_n dX4_nearestSong_18 rfl 1 rfl (pc' := 19) rfl ?_
    refine S_iload dX4_nearestSong_19 4 rfl (pc' := 21) rfl ?_
    refine S_invi ml_X4_50 mi_X4_changesTo (ci := 4) ⟨_, rfl, rfl⟩ (by decide) dX4_nearestSong_21 [.ref (zb Z + a1), .int b4] rfl (fun v h2 q => c_X4_changesTo Z l _ _ _ _ q) ⟨Nat.le_of_ble_eq_true rfl, Nat.le_of_ble_eq_true rfl⟩ (rest := []) (Nat.le_of_ble_eq_true rfl) rfl (pc' := 24) rfl (fun x21 h21 => ?_)
    refine S_istore dX4_nearestSong_24 (by decide) (lo' := [(5, .int x21), (0, .ref (zb Z + a0)), (1, .ref (zb Z + a1)), (2, .int b2), (3, .int b3), (4, .int b4)]) rfl (pc' := 26) rfl ?_
    refine S_iload dX4_nearestSong_26 0 rfl (pc' := 28) rfl ?_
    refine S_iload_n dX4_nearestSong_28 rfl 4 rfl (pc' := 29) rfl ?_
    refine S_icmp_ge dX4_nearestSong_29 38 rfl (pc' := 32) rfl (fun g29 => ?_) (fun g29 => ?_)
    · refine S_iinc dX4_nearestSong_38 (q := 5) rfl (v := b4 + 1) rfl (by decide) (lo' := [(4, .int (b4 + 1)), (5, .int x21), (0, .ref (zb Z + a0)), (1, .ref (zb Z + a1)), (2, .int b2), (3, .int b3)]) rfl (pc' := 41) rfl ?_
      refine S_goto dX4_nearestSong_41 8 rfl ?_
      refine Sim.sub [2, 3, 4, 5, 0] rfl ?_
      exact hF _ _ _ _
    · refine S_iload dX4_nearestSong_32 5 rfl (pc' := 34) rfl ?_
      refine S_istore_n dX4_nearestSong_34 rfl (by decide) (lo' := [(2, .int b4), (5, .int x21), (0, .ref (zb Z + a0)), (1, .ref (zb Z + a1)), (3, .int b3), (4, .int b4)]) rfl (pc' := 35) rfl ?_
      refine S_iload dX4_nearestSong_35 1 rfl (pc' := 37) rfl ?_
      refine S_istore_n dX4_nearestSong_37 rfl (by decide) (lo' := [(3, .int x21), (2, .int b4), (5, .int x21), (0, .ref (zb Z + a0)), (1, .ref (zb Z + a1)), (4, .int b4)]) rfl (pc' := 38) rfl ?_
      refine S_iinc dX4_nearestSong_38 (q := 5) rfl (v := b4 + 1) rfl (by decide) (lo' := [(4, .int (b4 + 1)), (3, .int x21), (2, .int b4), (5, .int x21), (0, .ref (zb Z + a0)), (1, .ref (zb Z + a1))]) rfl (pc' := 41) rfl ?_
      refine S_goto dX4_nearestSong_41 8 rfl ?_
      refine Sim.sub [4, 5, 2, 1, 0] rfl ?_
      exact hF _ _ _ _
theorem lq_X4_nearestSong_8 (Z : ZZ) (l : Launch) (a0 : Nat) (a1 : Nat) {args : Array Value} {h0 h1 : HP} {v0 : Int32} (K : Int32 → HP → Option (Int32 × HP))
    (hK : ∀ (b2 : Int32) (h : HP), Sim Z l cX4_nearestSong RX4 6 2 48 (some .int) "nearestSong" args (Mq Z args h0 h1 (some (.int v0))) h0 h1 v0 44 [(2, .int b2)] [] h (K b2 h)) :
    ∀ (k : Nat) (b2 : Int32) (b3 : Int32) (b4 : Int32) (h : HP), Sim Z l cX4_nearestSong RX4 6 2 48 (some .int) "nearestSong" args (Mq Z args h0 h1 (some (.int v0))) h0 h1 v0 8 [(0, .ref (zb Z + a0)), (1, .ref (zb Z + a1)), (2, .int b2), (3, .int b3), (4, .int b4)] [] h (lp_X4_nearestSong_8 a0 a1 K k b2 b3 b4 h) := by
  intro k
  induction k with
  | zero => exact fun _ _ _ _ => Sim.none
  | succ k ih => exact lc_X4_nearestSong_8 Z l a0 a1 K _ hK ih
set_option maxRecDepth 100000 in
set_option maxHeartbeats 4000000 in
theorem c_X4_nearestSong (Z : ZZ) (l : Launch) (t : Nat) (a1 : Nat) (h : HP) {v : Int32} {h1 : HP} (ho : f_X4_nearestSong t a1 h = some (v, h1)) : MetP Z l yX4_nearestSong cX4_nearestSong 6 (some .int) 2 48 [.ref (zb Z + t), .ref (zb Z + a1)] h (some (.int v)) h1 := by
  refine MetP_of ho (by decide +kernel) (Nat.le_of_ble_eq_true rfl) [(0, .ref (zb Z + t)), (1, .ref (zb Z + a1))] rfl (own := RX4) rfl (nm := "nearestSong") rfl ?_
  unfold f_X4_nearestSong
  refine S_iconst dX4_nearestSong_0 (v := (-1)) rfl (pc' := 1) rfl ?_
  refine S_istore_n dX4_nearestSong_1 rfl (by decide) (lo' := [(2, .int (-1)), (0, .ref (zb Z + t)), (1, .ref (zb Z + a1))]) rfl (pc' := 2) rfl ?_
  refine S_bipush dX4_nearestSong_2 (v := 16) rfl (pc' := 4) rfl ?_
  refine S_istore_n dX4_nearestSong_4 rfl (by decide) (lo' := [(3, .int 16), (2, .int (-1)), (0, .ref (zb Z + t)), (1, .ref (zb Z + a1))]) rfl (pc' := 5) rfl ?_
  refine S_iconst dX4_nearestSong_5 (v := 0) rfl (pc' := 6) rfl ?_
  refine S_istore dX4_nearestSong_6 (by decide) (lo' := [(4, .int 0), (3, .int 16), (2, .int (-1)), (0, .ref (zb Z + t)), (1, .ref (zb Z + a1))]) rfl (pc' := 8) rfl ?_
  refine Sim.sub [3, 4, 2, 1, 0] rfl ?_
  refine lq_X4_nearestSong_8 Z l t a1 _ ?_ 1000 _ _ _ _
  intro b2_8 h8_
  refine S_iload_n dX4_nearestSong_44 rfl 0 rfl (pc' := 45) rfl ?_
  exact S_iret rfl dX4_nearestSong_45
theorem dX4_endBegins_0 : decode cX4_endBegins 0 = .ok (.iload 4, 2) := by decide +kernel
theorem dX4_endBegins_2 : decode cX4_endBegins 2 = .ok (.istore 5, 2) := by decide +kernel
theorem dX4_endBegins_4 : decode cX4_endBegins 4 = .ok (.iload 5, 2) := by decide +kernel
theorem dX4_endBegins_6 : decode cX4_endBegins 6 = .ok (.bipush 8, 2) := by decide +kernel
theorem dX4_endBegins_8 : decode cX4_endBegins 8 = .ok (.if_icmp .ge 41, 3) := by decide +kernel
theorem dX4_endBegins_11 : decode cX4_endBegins 11 = .ok (.aload_n 1, 1) := by decide +kernel
theorem dX4_endBegins_12 : decode cX4_endBegins 12 = .ok (.getfield 22, 3) := by decide +kernel
theorem dX4_endBegins_15 : decode cX4_endBegins 15 = .ok (.iload_n 2, 1) := by decide +kernel
theorem dX4_endBegins_16 : decode cX4_endBegins 16 = .ok (.bipush 8, 2) := by decide +kernel
theorem dX4_endBegins_18 : decode cX4_endBegins 18 = .ok (.imul, 1) := by decide +kernel
theorem dX4_endBegins_19 : decode cX4_endBegins 19 = .ok (.iload 5, 2) := by decide +kernel
theorem dX4_endBegins_21 : decode cX4_endBegins 21 = .ok (.iadd, 1) := by decide +kernel
theorem dX4_endBegins_22 : decode cX4_endBegins 22 = .ok (.iaload, 1) := by decide +kernel
theorem dX4_endBegins_23 : decode cX4_endBegins 23 = .ok (.aload_n 1, 1) := by decide +kernel
theorem dX4_endBegins_24 : decode cX4_endBegins 24 = .ok (.getfield 22, 3) := by decide +kernel
theorem dX4_endBegins_27 : decode cX4_endBegins 27 = .ok (.iload_n 3, 1) := by decide +kernel
theorem dX4_endBegins_28 : decode cX4_endBegins 28 = .ok (.bipush 8, 2) := by decide +kernel
theorem dX4_endBegins_30 : decode cX4_endBegins 30 = .ok (.imul, 1) := by decide +kernel
theorem dX4_endBegins_31 : decode cX4_endBegins 31 = .ok (.iload 5, 2) := by decide +kernel
theorem dX4_endBegins_33 : decode cX4_endBegins 33 = .ok (.iadd, 1) := by decide +kernel
theorem dX4_endBegins_34 : decode cX4_endBegins 34 = .ok (.iload 4, 2) := by decide +kernel
theorem dX4_endBegins_36 : decode cX4_endBegins 36 = .ok (.isub, 1) := by decide +kernel
theorem dX4_endBegins_37 : decode cX4_endBegins 37 = .ok (.iaload, 1) := by decide +kernel
theorem dX4_endBegins_38 : decode cX4_endBegins 38 = .ok (.if_icmp .eq 5, 3) := by decide +kernel
theorem dX4_endBegins_41 : decode cX4_endBegins 41 = .ok (.iconst 0, 1) := by decide +kernel
theorem dX4_endBegins_42 : decode cX4_endBegins 42 = .ok (.ireturn, 1) := by decide +kernel
theorem dX4_endBegins_43 : decode cX4_endBegins 43 = .ok (.iinc 5 1, 3) := by decide +kernel
theorem dX4_endBegins_46 : decode cX4_endBegins 46 = .ok (.goto (-42), 3) := by decide +kernel
theorem dX4_endBegins_49 : decode cX4_endBegins 49 = .ok (.iconst 1, 1) := by decide +kernel
theorem dX4_endBegins_50 : decode cX4_endBegins 50 = .ok (.ireturn, 1) := by decide +kernel
set_option maxRecDepth 100000 in
set_option maxHeartbeats 4000000 in
theorem lc_X4_endBegins_4 (Z : ZZ) (l : Launch) (a1 : Nat) (a2 : Int32) (a3 : Int32) (a4 : Int32) {args : Array Value} {h0 h1 : HP} {v0 : Int32} (K : HP → Option (Int32 × HP)) (F : Int32 → HP → Option (Int32 × HP))
    (hK : ∀ (h : HP), Sim Z l cX4_endBegins RX4 6 0 0 (some .boolean) "endBegins" args (Mq Z args h0 h1 (some (.int v0))) h0 h1 v0 49 [] [] h (K h))
    (hF : ∀ (b5 : Int32) (h : HP), Sim Z l cX4_endBegins RX4 6 0 0 (some .boolean) "endBegins" args (Mq Z args h0 h1 (some (.int v0))) h0 h1 v0 4 [(1, .ref (zb Z + a1)), (2, .int a2), (3, .int a3), (4, .int a4), (5, .int b5)] [] h (F b5 h)) :
    ∀ (b5 : Int32) (h : HP), Sim Z l cX4_endBegins RX4 6 0 0 (some .boolean) "endBegins" args (Mq Z args h0 h1 (some (.int v0))) h0 h1 v0 4 [(1, .ref (zb Z + a1)), (2, .int a2), (3, .int a3), (4, .int a4), (5, .int b5)] [] h (lb_X4_endBegins_4 a1 a2 a3 a4 K F b5 h) := by
  intro b5 h
  unfold lb_X4_endBegins_4
  refine S_iload dX4_endBegins_4 4 rfl (pc' := 6) rfl ?_
  refine S_bipush dX4_endBegins_6 (v := 8) rfl (pc' := 8) rfl ?_
  refine S_icmp_ge dX4_endBegins_8 49 rfl (pc' := 11) rfl (fun g8 => ?_) (fun g8 => ?_)
  · refine Sim.sub [] rfl ?_
    exact hK _
  · refine S_aload_n dX4_endBegins_11 rfl 0 rfl (pc' := 12) rfl ?_
    refine S_getR fl_X4_22 rfl dX4_endBegins_12 (pc' := 15) rfl (fun x12 => ?_)
    refine S_iload_n dX4_endBegins_15 rfl 1 rfl (pc' := 16) rfl ?_
    refine S_bipush dX4_endBegins_16 (v := 8) rfl (pc' := 18) rfl ?_
    refine S_imul dX4_endBegins_18 (pc' := 19) rfl ?_
    refine S_iload dX4_endBegins_19 4 rfl (pc' := 21) rfl ?_
    refine S_iadd dX4_endBegins_21 (pc' := 22) rfl ?_
    refine S_iaload dX4_endBegins_22 (pc' := 23) rfl (fun x22 => ?_)
    refine S_aload_n dX4_endBegins_23 rfl 0 rfl (pc' := 24) rfl ?_
    refine S_getR fl_X4_22 rfl dX4_endBegins_24 (pc' := 27) rfl (fun x24 => ?_)
    refine S_iload_n dX4_endBegins_27 rfl 2 rfl (pc' := 28) rfl ?_
    refine S_bipush dX4_endBegins_28 (v := 8) rfl (pc' := 30) rfl ?_
    refine S_imul dX4_endBegins_30 (pc' := 31) rfl ?_
    refine S_iload dX4_endBegins_31 4 rfl (pc' := 33) rfl ?_
    refine S_iadd dX4_endBegins_33 (pc' := 34) rfl ?_
    refine S_iload dX4_endBegins_34 3 rfl (pc' := 36) rfl ?_
    refine S_isub dX4_endBegins_36 (pc' := 37) rfl ?_
    refine S_iaload dX4_endBegins_37 (pc' := 38) rfl (fun x37 => ?_)
    refine S_icmp_eq dX4_endBegins_38 43 rfl (pc' := 41) rfl (fun g38 => ?_) (fun g38 => ?_)
    · refine S_iinc dX4_endBegins_43 (q := 4) rfl (v := b5 + 1) rfl (by decide) (lo' := [(5, .int (b5 + 1)), (1, .ref (zb Z + a1)), (2, .int a2), (3, .int a3), (4, .int a4)]) rfl (pc' := 46) rfl ?_
      refine S_goto dX4_endBegins_46 4 rfl ?_
      refine Sim.sub [1, 2, 3, 4, 0] rfl ?_
      exact hF _ _
    · refine S_iconst dX4_endBegins_41 (v := 0) rfl (pc' := 42) rfl ?_
      exact S_zret rfl dX4_endBegins_42
theorem lq_X4_endBegins_4 (Z : ZZ) (l : Launch) (a1 : Nat) (a2 : Int32) (a3 : Int32) (a4 : Int32) {args : Array Value} {h0 h1 : HP} {v0 : Int32} (K : HP → Option (Int32 × HP))
    (hK : ∀ (h : HP), Sim Z l cX4_endBegins RX4 6 0 0 (some .boolean) "endBegins" args (Mq Z args h0 h1 (some (.int v0))) h0 h1 v0 49 [] [] h (K h)) :
    ∀ (k : Nat) (b5 : Int32) (h : HP), Sim Z l cX4_endBegins RX4 6 0 0 (some .boolean) "endBegins" args (Mq Z args h0 h1 (some (.int v0))) h0 h1 v0 4 [(1, .ref (zb Z + a1)), (2, .int a2), (3, .int a3), (4, .int a4), (5, .int b5)] [] h (lp_X4_endBegins_4 a1 a2 a3 a4 K k b5 h) := by
  intro k
  induction k with
  | zero => exact fun _ _ => Sim.none
  | succ k ih => exact lc_X4_endBegins_4 Z l a1 a2 a3 a4 K _ hK ih
set_option maxRecDepth 100000 in
set_option maxHeartbeats 4000000 in
theorem c_X4_endBegins (Z : ZZ) (l : Launch) (t : Nat) (a1 : Nat) (a2 : Int32) (a3 : Int32) (a4 : Int32) (h : HP) {v : Int32} {h1 : HP} (ho : f_X4_endBegins t a1 a2 a3 a4 h = some (v, h1)) : MetP Z l yX4_endBegins cX4_endBegins 6 (some .boolean) 0 0 [.ref (zb Z + t), .ref (zb Z + a1), .int a2, .int a3, .int a4] h (some (.int v)) h1 := by
  refine MetP_of ho (by decide +kernel) (Nat.le_of_ble_eq_true rfl) [(0, .ref (zb Z + t)), (1, .ref (zb Z + a1)), (2, .int a2), (3, .int a3), (4, .int a4)] rfl (own := RX4) rfl (nm := "endBegins") rfl ?_
  unfold f_X4_endBegins
  refine S_iload dX4_endBegins_0 4 rfl (pc' := 2) rfl ?_
  refine S_istore dX4_endBegins_2 (by decide) (lo' := [(5, .int a4), (0, .ref (zb Z + t)), (1, .ref (zb Z + a1)), (2, .int a2), (3, .int a3), (4, .int a4)]) rfl (pc' := 4) rfl ?_
  refine Sim.sub [2, 3, 4, 5, 0] rfl ?_
  refine lq_X4_endBegins_4 Z l a1 a2 a3 a4 _ ?_ 1000 _ _
  intro h4_
  refine S_iconst dX4_endBegins_49 (v := 1) rfl (pc' := 50) rfl ?_
  exact S_zret rfl dX4_endBegins_50
theorem dX4_joined_0 : decode cX4_joined 0 = .ok (.iconst 0, 1) := by decide +kernel
theorem dX4_joined_1 : decode cX4_joined 1 = .ok (.istore 4, 2) := by decide +kernel
theorem dX4_joined_3 : decode cX4_joined 3 = .ok (.iload 4, 2) := by decide +kernel
theorem dX4_joined_5 : decode cX4_joined 5 = .ok (.bipush 8, 2) := by decide +kernel
theorem dX4_joined_7 : decode cX4_joined 7 = .ok (.if_icmp .ge 27, 3) := by decide +kernel
theorem dX4_joined_10 : decode cX4_joined 10 = .ok (.aload_n 0, 1) := by decide +kernel
theorem dX4_joined_11 : decode cX4_joined 11 = .ok (.aload_n 1, 1) := by decide +kernel
theorem dX4_joined_12 : decode cX4_joined 12 = .ok (.iload_n 2, 1) := by decide +kernel
theorem dX4_joined_13 : decode cX4_joined 13 = .ok (.iload_n 3, 1) := by decide +kernel
theorem dX4_joined_14 : decode cX4_joined 14 = .ok (.iload 4, 2) := by decide +kernel
theorem dX4_joined_16 : decode cX4_joined 16 = .ok (.invokevirtual 54, 3) := by decide +kernel
theorem dX4_joined_19 : decode cX4_joined 19 = .ok (.ifCond .eq 9, 3) := by decide +kernel
theorem dX4_joined_22 : decode cX4_joined 22 = .ok (.iload 4, 2) := by decide +kernel
theorem dX4_joined_24 : decode cX4_joined 24 = .ok (.bipush 8, 2) := by decide +kernel
theorem dX4_joined_26 : decode cX4_joined 26 = .ok (.iadd, 1) := by decide +kernel
theorem dX4_joined_27 : decode cX4_joined 27 = .ok (.ireturn, 1) := by decide +kernel
theorem dX4_joined_28 : decode cX4_joined 28 = .ok (.iinc 4 1, 3) := by decide +kernel
theorem dX4_joined_31 : decode cX4_joined 31 = .ok (.goto (-28), 3) := by decide +kernel
theorem dX4_joined_34 : decode cX4_joined 34 = .ok (.bipush 16, 2) := by decide +kernel
theorem dX4_joined_36 : decode cX4_joined 36 = .ok (.ireturn, 1) := by decide +kernel
set_option maxRecDepth 100000 in
set_option maxHeartbeats 4000000 in
theorem lc_X4_joined_3 (Z : ZZ) (l : Launch) (a0 : Nat) (a1 : Nat) (a2 : Int32) (a3 : Int32) {args : Array Value} {h0 h1 : HP} {v0 : Int32} (K : HP → Option (Int32 × HP)) (F : Int32 → HP → Option (Int32 × HP))
    (hK : ∀ (h : HP), Sim Z l cX4_joined RX4 5 1 25 (some .int) "joined" args (Mq Z args h0 h1 (some (.int v0))) h0 h1 v0 34 [] [] h (K h))
    (hF : ∀ (b4 : Int32) (h : HP), Sim Z l cX4_joined RX4 5 1 25 (some .int) "joined" args (Mq Z args h0 h1 (some (.int v0))) h0 h1 v0 3 [(0, .ref (zb Z + a0)), (1, .ref (zb Z + a1)), (2, .int a2), (3, .int a3), (4, .int b4)] [] h (F b4 h)) :
    ∀ (b4 : Int32) (h : HP), Sim Z l cX4_joined RX4 5 1 25 (some .int) "joined" args (Mq Z args h0 h1 (some (.int v0))) h0 h1 v0 3 [(0, .ref (zb Z + a0)), (1, .ref (zb Z + a1)), (2, .int a2), (3, .int a3), (4, .int b4)] [] h (lb_X4_joined_3 a0 a1 a2 a3 K F b4 h) := by
  intro b4 h
  unfold lb_X4_joined_3
  refine S_iload dX4_joined_3 4 rfl (pc' := 5) rfl ?_
  refine S_bipush dX4_joined_5 (v := 8) rfl (pc' := 7) rfl ?_
  refine S_icmp_ge dX4_joined_7 34 rfl (pc' := 10) rfl (fun g7 => ?_) (fun g7 => ?_)
  · refine Sim.sub [] rfl ?_
    exact hK _
  · refine S_aload_n dX4_joined_10 rfl 0 rfl (pc' := 11) rfl ?_
    refine S_aload_n dX4_joined_11 rfl 1 rfl (pc' := 12) rfl ?_
    refine S_iload_n dX4_joined_12 rfl 2 rfl (pc' := 13) rfl ?_
    refine S_iload_n dX4_joined_13 rfl 3 rfl (pc' := 14) rfl ?_
    refine S_iload dX4_joined_14 4 rfl (pc' := 16) rfl ?_
    refine S_invi ml_X4_54 mi_X4_endBegins (ci := 4) ⟨_, rfl, rfl⟩ (by decide) dX4_joined_16 [.ref (zb Z + a1), .int a2, .int a3, .int b4] rfl (fun v h2 q => c_X4_endBegins Z l _ _ _ _ _ _ q) ⟨Nat.le_of_ble_eq_true rfl, Nat.le_of_ble_eq_true rfl⟩ (rest := []) (Nat.le_of_ble_eq_true rfl) rfl (pc' := 19) rfl (fun x16 h16 => ?_)
    refine S_if_eq dX4_joined_19 28 rfl (pc' := 22) rfl (fun g19 => ?_) (fun g19 => ?_)
    · refine S_iinc dX4_joined_28 (q := 4) rfl (v := b4 + 1) rfl (by decide) (lo' := [(4, .int (b4 + 1)), (0, .ref (zb Z + a0)), (1, .ref (zb Z + a1)), (2, .int a2), (3, .int a3)]) rfl (pc' := 31) rfl ?_
      refine S_goto dX4_joined_31 3 rfl ?_
      refine Sim.sub [1, 2, 3, 4, 0] rfl ?_
      exact hF _ _
    · refine S_iload dX4_joined_22 4 rfl (pc' := 24) rfl ?_
      refine S_bipush dX4_joined_24 (v := 8) rfl (pc' := 26) rfl ?_
      refine S_iadd dX4_joined_26 (pc' := 27) rfl ?_
      exact S_iret rfl dX4_joined_27
theorem lq_X4_joined_3 (Z : ZZ) (l : Launch) (a0 : Nat) (a1 : Nat) (a2 : Int32) (a3 : Int32) {args : Array Value} {h0 h1 : HP} {v0 : Int32} (K : HP → Option (Int32 × HP))
    (hK : ∀ (h : HP), Sim Z l cX4_joined RX4 5 1 25 (some .int) "joined" args (Mq Z args h0 h1 (some (.int v0))) h0 h1 v0 34 [] [] h (K h)) :
    ∀ (k : Nat) (b4 : Int32) (h : HP), Sim Z l cX4_joined RX4 5 1 25 (some .int) "joined" args (Mq Z args h0 h1 (some (.int v0))) h0 h1 v0 3 [(0, .ref (zb Z + a0)), (1, .ref (zb Z + a1)), (2, .int a2), (3, .int a3), (4, .int b4)] [] h (lp_X4_joined_3 a0 a1 a2 a3 K k b4 h) := by
  intro k
  induction k with
  | zero => exact fun _ _ => Sim.none
  | succ k ih => exact lc_X4_joined_3 Z l a0 a1 a2 a3 K _ hK ih
set_option maxRecDepth 100000 in
set_option maxHeartbeats 4000000 in
theorem c_X4_joined (Z : ZZ) (l : Launch) (t : Nat) (a1 : Nat) (a2 : Int32) (a3 : Int32) (h : HP) {v : Int32} {h1 : HP} (ho : f_X4_joined t a1 a2 a3 h = some (v, h1)) : MetP Z l yX4_joined cX4_joined 5 (some .int) 1 25 [.ref (zb Z + t), .ref (zb Z + a1), .int a2, .int a3] h (some (.int v)) h1 := by
  refine MetP_of ho (by decide +kernel) (Nat.le_of_ble_eq_true rfl) [(0, .ref (zb Z + t)), (1, .ref (zb Z + a1)), (2, .int a2), (3, .int a3)] rfl (own := RX4) rfl (nm := "joined") rfl ?_
  unfold f_X4_joined
  refine S_iconst dX4_joined_0 (v := 0) rfl (pc' := 1) rfl ?_
  refine S_istore dX4_joined_1 (by decide) (lo' := [(4, .int 0), (0, .ref (zb Z + t)), (1, .ref (zb Z + a1)), (2, .int a2), (3, .int a3)]) rfl (pc' := 3) rfl ?_
  refine Sim.sub [1, 2, 3, 4, 0] rfl ?_
  refine lq_X4_joined_3 Z l t a1 a2 a3 _ ?_ 1000 _ _
  intro h3_
  refine S_bipush dX4_joined_34 (v := 16) rfl (pc' := 36) rfl ?_
  exact S_iret rfl dX4_joined_36
theorem dX4_alike_0 : decode cX4_alike 0 = .ok (.iconst 0, 1) := by decide +kernel
theorem dX4_alike_1 : decode cX4_alike 1 = .ok (.istore 4, 2) := by decide +kernel
theorem dX4_alike_3 : decode cX4_alike 3 = .ok (.iconst 0, 1) := by decide +kernel
theorem dX4_alike_4 : decode cX4_alike 4 = .ok (.istore 5, 2) := by decide +kernel
theorem dX4_alike_6 : decode cX4_alike 6 = .ok (.iload 5, 2) := by decide +kernel
theorem dX4_alike_8 : decode cX4_alike 8 = .ok (.bipush 8, 2) := by decide +kernel
theorem dX4_alike_10 : decode cX4_alike 10 = .ok (.if_icmp .ge 39, 3) := by decide +kernel
theorem dX4_alike_13 : decode cX4_alike 13 = .ok (.aload_n 1, 1) := by decide +kernel
theorem dX4_alike_14 : decode cX4_alike 14 = .ok (.getfield 22, 3) := by decide +kernel
theorem dX4_alike_17 : decode cX4_alike 17 = .ok (.iload_n 2, 1) := by decide +kernel
theorem dX4_alike_18 : decode cX4_alike 18 = .ok (.bipush 8, 2) := by decide +kernel
theorem dX4_alike_20 : decode cX4_alike 20 = .ok (.imul, 1) := by decide +kernel
theorem dX4_alike_21 : decode cX4_alike 21 = .ok (.iload 5, 2) := by decide +kernel
theorem dX4_alike_23 : decode cX4_alike 23 = .ok (.iadd, 1) := by decide +kernel
theorem dX4_alike_24 : decode cX4_alike 24 = .ok (.iaload, 1) := by decide +kernel
theorem dX4_alike_25 : decode cX4_alike 25 = .ok (.aload_n 1, 1) := by decide +kernel
theorem dX4_alike_26 : decode cX4_alike 26 = .ok (.getfield 22, 3) := by decide +kernel
theorem dX4_alike_29 : decode cX4_alike 29 = .ok (.iload_n 3, 1) := by decide +kernel
theorem dX4_alike_30 : decode cX4_alike 30 = .ok (.bipush 8, 2) := by decide +kernel
theorem dX4_alike_32 : decode cX4_alike 32 = .ok (.imul, 1) := by decide +kernel
theorem dX4_alike_33 : decode cX4_alike 33 = .ok (.iload 5, 2) := by decide +kernel
theorem dX4_alike_35 : decode cX4_alike 35 = .ok (.iadd, 1) := by decide +kernel
theorem dX4_alike_36 : decode cX4_alike 36 = .ok (.iaload, 1) := by decide +kernel
theorem dX4_alike_37 : decode cX4_alike 37 = .ok (.if_icmp .ne 6, 3) := by decide +kernel
theorem dX4_alike_40 : decode cX4_alike 40 = .ok (.iinc 4 1, 3) := by decide +kernel
theorem dX4_alike_43 : decode cX4_alike 43 = .ok (.iinc 5 1, 3) := by decide +kernel
theorem dX4_alike_46 : decode cX4_alike 46 = .ok (.goto (-40), 3) := by decide +kernel
theorem dX4_alike_49 : decode cX4_alike 49 = .ok (.iload 4, 2) := by decide +kernel
theorem dX4_alike_51 : decode cX4_alike 51 = .ok (.ireturn, 1) := by decide +kernel
set_option maxRecDepth 100000 in
set_option maxHeartbeats 4000000 in
theorem lc_X4_alike_6 (Z : ZZ) (l : Launch) (a1 : Nat) (a2 : Int32) (a3 : Int32) {args : Array Value} {h0 h1 : HP} {v0 : Int32} (K : Int32 → HP → Option (Int32 × HP)) (F : Int32 → Int32 → HP → Option (Int32 × HP))
    (hK : ∀ (b4 : Int32) (h : HP), Sim Z l cX4_alike RX4 6 0 0 (some .int) "alike" args (Mq Z args h0 h1 (some (.int v0))) h0 h1 v0 49 [(4, .int b4)] [] h (K b4 h))
    (hF : ∀ (b4 : Int32) (b5 : Int32) (h : HP), Sim Z l cX4_alike RX4 6 0 0 (some .int) "alike" args (Mq Z args h0 h1 (some (.int v0))) h0 h1 v0 6 [(1, .ref (zb Z + a1)), (2, .int a2), (3, .int a3), (4, .int b4), (5, .int b5)] [] h (F b4 b5 h)) :
    ∀ (b4 : Int32) (b5 : Int32) (h : HP), Sim Z l cX4_alike RX4 6 0 0 (some .int) "alike" args (Mq Z args h0 h1 (some (.int v0))) h0 h1 v0 6 [(1, .ref (zb Z + a1)), (2, .int a2), (3, .int a3), (4, .int b4), (5, .int b5)] [] h (lb_X4_alike_6 a1 a2 a3 K F b4 b5 h) := by
  intro b4 b5 h
  unfold lb_X4_alike_6
  refine S_iload dX4_alike_6 4 rfl (pc' := 8) rfl ?_
  refine S_bipush dX4_alike_8 (v := 8) rfl (pc' := 10) rfl ?_
  refine S_icmp_ge dX4_alike_10 49 rfl (pc' := 13) rfl (fun g10 => ?_) (fun g10 => ?_)
  · refine Sim.sub [3] rfl ?_
    exact hK _ _
  · refine S_aload_n dX4_alike_13 rfl 0 rfl (pc' := 14) rfl ?_
    refine S_getR fl_X4_22 rfl dX4_alike_14 (pc' := 17) rfl (fun x14 => ?_)
    refine S_iload_n dX4_alike_17 rfl 1 rfl (pc' := 18) rfl ?_
    refine S_bipush dX4_alike_18 (v := 8) rfl (pc' := 20) rfl ?_
    refine S_imul dX4_alike_20 (pc' := 21) rfl ?_
    refine S_iload dX4_alike_21 4 rfl (pc' := 23) rfl ?_
    refine S_iadd dX4_alike_23 (pc' := 24) rfl ?_
    refine S_iaload dX4_alike_24 (pc' := 25) rfl (fun x24 => ?_)
    refine S_aload_n dX4_alike_25 rfl 0 rfl (pc' := 26) rfl ?_
    refine S_getR fl_X4_22 rfl dX4_alike_26 (pc' := 29) rfl (fun x26 => ?_)
    refine S_iload_n dX4_alike_29 rfl 2 rfl (pc' := 30) rfl ?_
    refine S_bipush dX4_alike_30 (v := 8) rfl (pc' := 32) rfl ?_
    refine S_imul dX4_alike_32 (pc' := 33) rfl ?_
    refine S_iload dX4_alike_33 4 rfl (pc' := 35) rfl ?_
    refine S_iadd dX4_alike_35 (pc' := 36) rfl ?_
    refine S_iaload dX4_alike_36 (pc' := 37) rfl (fun x36 => ?_)
    refine S_icmp_ne dX4_alike_37 43 rfl (pc' := 40) rfl (fun g37 => ?_) (fun g37 => ?_)
    · refine S_iinc dX4_alike_43 (q := 4) rfl (v := b5 + 1) rfl (by decide) (lo' := [(5, .int (b5 + 1)), (1, .ref (zb Z + a1)), (2, .int a2), (3, .int a3), (4, .int b4)]) rfl (pc' := 46) rfl ?_
      refine S_goto dX4_alike_46 6 rfl ?_
      refine Sim.sub [1, 2, 3, 4, 0] rfl ?_
      exact hF _ _ _
    · refine S_iinc dX4_alike_40 (q := 3) rfl (v := b4 + 1) rfl (by decide) (lo' := [(4, .int (b4 + 1)), (1, .ref (zb Z + a1)), (2, .int a2), (3, .int a3), (5, .int b5)]) rfl (pc' := 43) rfl ?_
      refine S_iinc dX4_alike_43 (q := 4) rfl (v := b5 + 1) rfl (by decide) (lo' := [(5, .int (b5 + 1)), (4, .int (b4 + 1)), (1, .ref (zb Z + a1)), (2, .int a2), (3, .int a3)]) rfl (pc' := 46) rfl ?_
      refine S_goto dX4_alike_46 6 rfl ?_
      refine Sim.sub [2, 3, 4, 1, 0] rfl ?_
      exact hF _ _ _
theorem lq_X4_alike_6 (Z : ZZ) (l : Launch) (a1 : Nat) (a2 : Int32) (a3 : Int32) {args : Array Value} {h0 h1 : HP} {v0 : Int32} (K : Int32 → HP → Option (Int32 × HP))
    (hK : ∀ (b4 : Int32) (h : HP), Sim Z l cX4_alike RX4 6 0 0 (some .int) "alike" args (Mq Z args h0 h1 (some (.int v0))) h0 h1 v0 49 [(4, .int b4)] [] h (K b4 h)) :
    ∀ (k : Nat) (b4 : Int32) (b5 : Int32) (h : HP), Sim Z l cX4_alike RX4 6 0 0 (some .int) "alike" args (Mq Z args h0 h1 (some (.int v0))) h0 h1 v0 6 [(1, .ref (zb Z + a1)), (2, .int a2), (3, .int a3), (4, .int b4), (5, .int b5)] [] h (lp_X4_alike_6 a1 a2 a3 K k b4 b5 h) := by
  intro k
  induction k with
  | zero => exact fun _ _ _ => Sim.none
  | succ k ih => exact lc_X4_alike_6 Z l a1 a2 a3 K _ hK ih
set_option maxRecDepth 100000 in
set_option maxHeartbeats 4000000 in
theorem c_X4_alike (Z : ZZ) (l : Launch) (t : Nat) (a1 : Nat) (a2 : Int32) (a3 : Int32) (h : HP) {v : Int32} {h1 : HP} (ho : f_X4_alike t a1 a2 a3 h = some (v, h1)) : MetP Z l yX4_alike cX4_alike 6 (some .int) 0 0 [.ref (zb Z + t), .ref (zb Z + a1), .int a2, .int a3] h (some (.int v)) h1 := by
  refine MetP_of ho (by decide +kernel) (Nat.le_of_ble_eq_true rfl) [(0, .ref (zb Z + t)), (1, .ref (zb Z + a1)), (2, .int a2), (3, .int a3)] rfl (own := RX4) rfl (nm := "alike") rfl ?_
  unfold f_X4_alike
  refine S_iconst dX4_alike_0 (v := 0) rfl (pc' := 1) rfl ?_
  refine S_istore dX4_alike_1 (by decide) (lo' := [(4, .int 0), (0, .ref (zb Z + t)), (1, .ref (zb Z + a1)), (2, .int a2), (3, .int a3)]) rfl (pc' := 3) rfl ?_
  refine S_iconst dX4_alike_3 (v := 0) rfl (pc' := 4) rfl ?_
  refine S_istore dX4_alike_4 (by decide) (lo' := [(5, .int 0), (4, .int 0), (0, .ref (zb Z + t)), (1, .ref (zb Z + a1)), (2, .int a2), (3, .int a3)]) rfl (pc' := 6) rfl ?_
  refine Sim.sub [3, 4, 5, 1, 0] rfl ?_
  refine lq_X4_alike_6 Z l a1 a2 a3 _ ?_ 1000 _ _ _
  intro b4_6 h6_
  refine S_iload dX4_alike_49 0 rfl (pc' := 51) rfl ?_
  exact S_iret rfl dX4_alike_51
theorem dX4_asDigits_0 : decode cX4_asDigits 0 = .ok (.iconst 0, 1) := by decide +kernel
theorem dX4_asDigits_1 : decode cX4_asDigits 1 = .ok (.istore_n 3, 1) := by decide +kernel
theorem dX4_asDigits_2 : decode cX4_asDigits 2 = .ok (.iconst 0, 1) := by decide +kernel
theorem dX4_asDigits_3 : decode cX4_asDigits 3 = .ok (.istore 4, 2) := by decide +kernel
theorem dX4_asDigits_5 : decode cX4_asDigits 5 = .ok (.iload 4, 2) := by decide +kernel
theorem dX4_asDigits_7 : decode cX4_asDigits 7 = .ok (.bipush 8, 2) := by decide +kernel
theorem dX4_asDigits_9 : decode cX4_asDigits 9 = .ok (.if_icmp .ge 27, 3) := by decide +kernel
theorem dX4_asDigits_12 : decode cX4_asDigits 12 = .ok (.iload_n 3, 1) := by decide +kernel
theorem dX4_asDigits_13 : decode cX4_asDigits 13 = .ok (.bipush 10, 2) := by decide +kernel
theorem dX4_asDigits_15 : decode cX4_asDigits 15 = .ok (.imul, 1) := by decide +kernel
theorem dX4_asDigits_16 : decode cX4_asDigits 16 = .ok (.aload_n 1, 1) := by decide +kernel
theorem dX4_asDigits_17 : decode cX4_asDigits 17 = .ok (.getfield 22, 3) := by decide +kernel
theorem dX4_asDigits_20 : decode cX4_asDigits 20 = .ok (.iload_n 2, 1) := by decide +kernel
theorem dX4_asDigits_21 : decode cX4_asDigits 21 = .ok (.bipush 8, 2) := by decide +kernel
theorem dX4_asDigits_23 : decode cX4_asDigits 23 = .ok (.imul, 1) := by decide +kernel
theorem dX4_asDigits_24 : decode cX4_asDigits 24 = .ok (.iload 4, 2) := by decide +kernel
theorem dX4_asDigits_26 : decode cX4_asDigits 26 = .ok (.iadd, 1) := by decide +kernel
theorem dX4_asDigits_27 : decode cX4_asDigits 27 = .ok (.iaload, 1) := by decide +kernel
theorem dX4_asDigits_28 : decode cX4_asDigits 28 = .ok (.iadd, 1) := by decide +kernel
theorem dX4_asDigits_29 : decode cX4_asDigits 29 = .ok (.istore_n 3, 1) := by decide +kernel
theorem dX4_asDigits_30 : decode cX4_asDigits 30 = .ok (.iinc 4 1, 3) := by decide +kernel
theorem dX4_asDigits_33 : decode cX4_asDigits 33 = .ok (.goto (-28), 3) := by decide +kernel
theorem dX4_asDigits_36 : decode cX4_asDigits 36 = .ok (.iload_n 3, 1) := by decide +kernel
theorem dX4_asDigits_37 : decode cX4_asDigits 37 = .ok (.ireturn, 1) := by decide +kernel
set_option maxRecDepth 100000 in
set_option maxHeartbeats 4000000 in
theorem lc_X4_asDigits_5 (Z : ZZ) (l : Launch) (a1 : Nat) (a2 : Int32) {args : Array Value} {h0 h1 : HP} {v0 : Int32} (K : Int32 → HP → Option (Int32 × HP)) (F : Int32 → Int32 → HP → Option (Int32 × HP))
    (hK : ∀ (b3 : Int32) (h : HP), Sim Z l cX4_asDigits RX4 5 0 0 (some .int) "asDigits" args (Mq Z args h0 h1 (some (.int v0))) h0 h1 v0 36 [(3, .int b3)] [] h (K b3 h))
    (hF : ∀ (b3 : Int32) (b4 : Int32) (h : HP), Sim Z l cX4_asDigits RX4 5 0 0 (some .int) "asDigits" args (Mq Z args h0 h1 (some (.int v0))) h0 h1 v0 5 [(1, .ref (zb Z + a1)), (2, .int a2), (3, .int b3), (4, .int b4)] [] h (F b3 b4 h)) :
    ∀ (b3 : Int32) (b4 : Int32) (h : HP), Sim Z l cX4_asDigits RX4 5 0 0 (some .int) "asDigits" args (Mq Z args h0 h1 (some (.int v0))) h0 h1 v0 5 [(1, .ref (zb Z + a1)), (2, .int a2), (3, .int b3), (4, .int b4)] [] h (lb_X4_asDigits_5 a1 a2 K F b3 b4 h) := by
  intro b3 b4 h
  unfold lb_X4_asDigits_5
  refine S_iload dX4_asDigits_5 3 rfl (pc' := 7) rfl ?_
  refine S_bipush dX4_asDigits_7 (v := 8) rfl (pc' := 9) rfl ?_
  refine S_icmp_ge dX4_asDigits_9 36 rfl (pc' := 12) rfl (fun g9 => ?_) (fun g9 => ?_)
  · refine Sim.sub [2] rfl ?_
    exact hK _ _
  · refine S_iload_n dX4_asDigits_12 rfl 2 rfl (pc' := 13) rfl ?_
    refine S_bipush dX4_asDigits_13 (v := 10) rfl (pc' := 15) rfl ?_
    refine S_imul dX4_asDigits_15 (pc' := 16) rfl ?_
    refine S_aload_n dX4_asDigits_16 rfl 0 rfl (pc' := 17) rfl ?_
    refine S_getR fl_X4_22 rfl dX4_asDigits_17 (pc' := 20) rfl (fun x17 => ?_)
    refine S_iload_n dX4_asDigits_20 rfl 1 rfl (pc' := 21) rfl ?_
    refine S_bipush dX4_asDigits_21 (v := 8) rfl (pc' := 23) rfl ?_
    refine S_imul dX4_asDigits_23 (pc' := 24) rfl ?_
    refine S_iload dX4_asDigits_24 3 rfl (pc' := 26) rfl ?_
    refine S_iadd dX4_asDigits_26 (pc' := 27) rfl ?_
    refine S_iaload dX4_asDigits_27 (pc' := 28) rfl (fun x27 => ?_)
    refine S_iadd dX4_asDigits_28 (pc' := 29) rfl ?_
    refine S_istore_n dX4_asDigits_29 rfl (by decide) (lo' := [(3, .int ((b3 * 10) + x27)), (1, .ref (zb Z + a1)), (2, .int a2), (4, .int b4)]) rfl (pc' := 30) rfl ?_
    refine S_iinc dX4_asDigits_30 (q := 3) rfl (v := b4 + 1) rfl (by decide) (lo' := [(4, .int (b4 + 1)), (3, .int ((b3 * 10) + x27)), (1, .ref (zb Z + a1)), (2, .int a2)]) rfl (pc' := 33) rfl ?_
    refine S_goto dX4_asDigits_33 5 rfl ?_
    refine Sim.sub [2, 3, 1, 0] rfl ?_
    exact hF _ _ _
theorem lq_X4_asDigits_5 (Z : ZZ) (l : Launch) (a1 : Nat) (a2 : Int32) {args : Array Value} {h0 h1 : HP} {v0 : Int32} (K : Int32 → HP → Option (Int32 × HP))
    (hK : ∀ (b3 : Int32) (h : HP), Sim Z l cX4_asDigits RX4 5 0 0 (some .int) "asDigits" args (Mq Z args h0 h1 (some (.int v0))) h0 h1 v0 36 [(3, .int b3)] [] h (K b3 h)) :
    ∀ (k : Nat) (b3 : Int32) (b4 : Int32) (h : HP), Sim Z l cX4_asDigits RX4 5 0 0 (some .int) "asDigits" args (Mq Z args h0 h1 (some (.int v0))) h0 h1 v0 5 [(1, .ref (zb Z + a1)), (2, .int a2), (3, .int b3), (4, .int b4)] [] h (lp_X4_asDigits_5 a1 a2 K k b3 b4 h) := by
  intro k
  induction k with
  | zero => exact fun _ _ _ => Sim.none
  | succ k ih => exact lc_X4_asDigits_5 Z l a1 a2 K _ hK ih
set_option maxRecDepth 100000 in
set_option maxHeartbeats 4000000 in
theorem c_X4_asDigits (Z : ZZ) (l : Launch) (t : Nat) (a1 : Nat) (a2 : Int32) (h : HP) {v : Int32} {h1 : HP} (ho : f_X4_asDigits t a1 a2 h = some (v, h1)) : MetP Z l yX4_asDigits cX4_asDigits 5 (some .int) 0 0 [.ref (zb Z + t), .ref (zb Z + a1), .int a2] h (some (.int v)) h1 := by
  refine MetP_of ho (by decide +kernel) (Nat.le_of_ble_eq_true rfl) [(0, .ref (zb Z + t)), (1, .ref (zb Z + a1)), (2, .int a2)] rfl (own := RX4) rfl (nm := "asDigits") rfl ?_
  unfold f_X4_asDigits
  refine S_iconst dX4_asDigits_0 (v := 0) rfl (pc' := 1) rfl ?_
  refine S_istore_n dX4_asDigits_1 rfl (by decide) (lo' := [(3, .int 0), (0, .ref (zb Z + t)), (1, .ref (zb Z + a1)), (2, .int a2)]) rfl (pc' := 2) rfl ?_
  refine S_iconst dX4_asDigits_2 (v := 0) rfl (pc' := 3) rfl ?_
  refine S_istore dX4_asDigits_3 (by decide) (lo' := [(4, .int 0), (3, .int 0), (0, .ref (zb Z + t)), (1, .ref (zb Z + a1)), (2, .int a2)]) rfl (pc' := 5) rfl ?_
  refine Sim.sub [3, 4, 1, 0] rfl ?_
  refine lq_X4_asDigits_5 Z l a1 a2 _ ?_ 1000 _ _ _
  intro b3_5 h5_
  refine S_iload_n dX4_asDigits_36 rfl 0 rfl (pc' := 37) rfl ?_
  exact S_iret rfl dX4_asDigits_37
