theorem dX6_init_0 : decode cX6_init 0 = .ok (.aload_n 0, 1) := by decide +kernel
theorem dX6_init_1 : decode cX6_init 1 = .ok (.invokespecial 1, 3) := by decide +kernel
theorem dX6_init_4 : decode cX6_init 4 = .ok (.aload_n 0, 1) := by decide +kernel
theorem dX6_init_5 : decode cX6_init 5 = .ok (.bipush 8, 2) := by decide +kernel
theorem dX6_init_7 : decode cX6_init 7 = .ok (.newarray .int, 2) := by decide +kernel
theorem dX6_init_9 : decode cX6_init 9 = .ok (.putfield 7, 3) := by decide +kernel
theorem dX6_init_12 : decode cX6_init 12 = .ok (.aload_n 0, 1) := by decide +kernel
theorem dX6_init_13 : decode cX6_init 13 = .ok (.bipush 8, 2) := by decide +kernel
theorem dX6_init_15 : decode cX6_init 15 = .ok (.newarray .int, 2) := by decide +kernel
theorem dX6_init_17 : decode cX6_init 17 = .ok (.putfield 13, 3) := by decide +kernel
theorem dX6_init_20 : decode cX6_init 20 = .ok (.aload_n 0, 1) := by decide +kernel
theorem dX6_init_21 : decode cX6_init 21 = .ok (.bipush 8, 2) := by decide +kernel
theorem dX6_init_23 : decode cX6_init 23 = .ok (.newarray .int, 2) := by decide +kernel
theorem dX6_init_25 : decode cX6_init 25 = .ok (.putfield 16, 3) := by decide +kernel
theorem dX6_init_28 : decode cX6_init 28 = .ok (.aload_n 0, 1) := by decide +kernel
theorem dX6_init_29 : decode cX6_init 29 = .ok (.bipush 8, 2) := by decide +kernel
theorem dX6_init_31 : decode cX6_init 31 = .ok (.bipush 40, 2) := by decide +kernel
theorem dX6_init_33 : decode cX6_init 33 = .ok (.multianewarray 19 2, 4) := by decide +kernel
theorem dX6_init_37 : decode cX6_init 37 = .ok (.putfield 21, 3) := by decide +kernel
theorem dX6_init_40 : decode cX6_init 40 = .ok (.aload_n 0, 1) := by decide +kernel
theorem dX6_init_41 : decode cX6_init 41 = .ok (.bipush 40, 2) := by decide +kernel
theorem dX6_init_43 : decode cX6_init 43 = .ok (.newarray .long, 2) := by decide +kernel
theorem dX6_init_45 : decode cX6_init 45 = .ok (.putfield 24, 3) := by decide +kernel
theorem dX6_init_48 : decode cX6_init 48 = .ok (.aload_n 0, 1) := by decide +kernel
theorem dX6_init_49 : decode cX6_init 49 = .ok (.bipush 8, 2) := by decide +kernel
theorem dX6_init_51 : decode cX6_init 51 = .ok (.newarray .int, 2) := by decide +kernel
theorem dX6_init_53 : decode cX6_init 53 = .ok (.putfield 28, 3) := by decide +kernel
theorem dX6_init_56 : decode cX6_init 56 = .ok (.aload_n 0, 1) := by decide +kernel
theorem dX6_init_57 : decode cX6_init 57 = .ok (.sipush 250, 3) := by decide +kernel
theorem dX6_init_60 : decode cX6_init 60 = .ok (.newarray .int, 2) := by decide +kernel
theorem dX6_init_62 : decode cX6_init 62 = .ok (.putfield 31, 3) := by decide +kernel
theorem dX6_init_65 : decode cX6_init 65 = .ok (.aload_n 0, 1) := by decide +kernel
theorem dX6_init_66 : decode cX6_init 66 = .ok (.bipush 8, 2) := by decide +kernel
theorem dX6_init_68 : decode cX6_init 68 = .ok (.newarray .int, 2) := by decide +kernel
theorem dX6_init_70 : decode cX6_init 70 = .ok (.putfield 34, 3) := by decide +kernel
theorem dX6_init_73 : decode cX6_init 73 = .ok (.aload_n 0, 1) := by decide +kernel
theorem dX6_init_74 : decode cX6_init 74 = .ok (.iconst 3, 1) := by decide +kernel
theorem dX6_init_75 : decode cX6_init 75 = .ok (.putfield 37, 3) := by decide +kernel
theorem dX6_init_78 : decode cX6_init 78 = .ok (.aload_n 0, 1) := by decide +kernel
theorem dX6_init_79 : decode cX6_init 79 = .ok (.bipush 8, 2) := by decide +kernel
theorem dX6_init_81 : decode cX6_init 81 = .ok (.newarray .int, 2) := by decide +kernel
theorem dX6_init_83 : decode cX6_init 83 = .ok (.putfield 41, 3) := by decide +kernel
theorem dX6_init_86 : decode cX6_init 86 = .ok (.aload_n 0, 1) := by decide +kernel
theorem dX6_init_87 : decode cX6_init 87 = .ok (.bipush 8, 2) := by decide +kernel
theorem dX6_init_89 : decode cX6_init 89 = .ok (.newarray .int, 2) := by decide +kernel
theorem dX6_init_91 : decode cX6_init 91 = .ok (.putfield 44, 3) := by decide +kernel
theorem dX6_init_94 : decode cX6_init 94 = .ok (.aload_n 0, 1) := by decide +kernel
theorem dX6_init_95 : decode cX6_init 95 = .ok (.bipush 8, 2) := by decide +kernel
theorem dX6_init_97 : decode cX6_init 97 = .ok (.newarray .int, 2) := by decide +kernel
theorem dX6_init_99 : decode cX6_init 99 = .ok (.putfield 47, 3) := by decide +kernel
theorem dX6_init_102 : decode cX6_init 102 = .ok (.aload_n 0, 1) := by decide +kernel
theorem dX6_init_103 : decode cX6_init 103 = .ok (.bipush 8, 2) := by decide +kernel
theorem dX6_init_105 : decode cX6_init 105 = .ok (.newarray .int, 2) := by decide +kernel
theorem dX6_init_107 : decode cX6_init 107 = .ok (.putfield 50, 3) := by decide +kernel
theorem dX6_init_110 : decode cX6_init 110 = .ok (.aload_n 0, 1) := by decide +kernel
theorem dX6_init_111 : decode cX6_init 111 = .ok (.bipush 8, 2) := by decide +kernel
theorem dX6_init_113 : decode cX6_init 113 = .ok (.newarray .int, 2) := by decide +kernel
theorem dX6_init_115 : decode cX6_init 115 = .ok (.putfield 53, 3) := by decide +kernel
theorem dX6_init_118 : decode cX6_init 118 = .ok (.aload_n 0, 1) := by decide +kernel
theorem dX6_init_119 : decode cX6_init 119 = .ok (.bipush 6, 2) := by decide +kernel
theorem dX6_init_121 : decode cX6_init 121 = .ok (.newarray .int, 2) := by decide +kernel
theorem dX6_init_123 : decode cX6_init 123 = .ok (.putfield 56, 3) := by decide +kernel
theorem dX6_init_126 : decode cX6_init 126 = .ok (.aload_n 0, 1) := by decide +kernel
theorem dX6_init_127 : decode cX6_init 127 = .ok (.bipush 6, 2) := by decide +kernel
theorem dX6_init_129 : decode cX6_init 129 = .ok (.newarray .int, 2) := by decide +kernel
theorem dX6_init_131 : decode cX6_init 131 = .ok (.putfield 59, 3) := by decide +kernel
theorem dX6_init_134 : decode cX6_init 134 = .ok (.aload_n 0, 1) := by decide +kernel
theorem dX6_init_135 : decode cX6_init 135 = .ok (.bipush 6, 2) := by decide +kernel
theorem dX6_init_137 : decode cX6_init 137 = .ok (.newarray .int, 2) := by decide +kernel
theorem dX6_init_139 : decode cX6_init 139 = .ok (.putfield 62, 3) := by decide +kernel
theorem dX6_init_142 : decode cX6_init 142 = .ok (.aload_n 0, 1) := by decide +kernel
theorem dX6_init_143 : decode cX6_init 143 = .ok (.bipush 48, 2) := by decide +kernel
theorem dX6_init_145 : decode cX6_init 145 = .ok (.newarray .int, 2) := by decide +kernel
theorem dX6_init_147 : decode cX6_init 147 = .ok (.putfield 65, 3) := by decide +kernel
theorem dX6_init_150 : decode cX6_init 150 = .ok (.aload_n 0, 1) := by decide +kernel
theorem dX6_init_151 : decode cX6_init 151 = .ok (.bipush 48, 2) := by decide +kernel
theorem dX6_init_153 : decode cX6_init 153 = .ok (.newarray .int, 2) := by decide +kernel
theorem dX6_init_155 : decode cX6_init 155 = .ok (.putfield 68, 3) := by decide +kernel
theorem dX6_init_158 : decode cX6_init 158 = .ok (.aload_n 0, 1) := by decide +kernel
theorem dX6_init_159 : decode cX6_init 159 = .ok (.iconst 1, 1) := by decide +kernel
theorem dX6_init_160 : decode cX6_init 160 = .ok (.putfield 71, 3) := by decide +kernel
theorem dX6_init_163 : decode cX6_init 163 = .ok (.aload_n 0, 1) := by decide +kernel
theorem dX6_init_164 : decode cX6_init 164 = .ok (.iconst 4, 1) := by decide +kernel
theorem dX6_init_165 : decode cX6_init 165 = .ok (.newarray .int, 2) := by decide +kernel
theorem dX6_init_167 : decode cX6_init 167 = .ok (.putfield 74, 3) := by decide +kernel
theorem dX6_init_170 : decode cX6_init 170 = .ok (.aload_n 0, 1) := by decide +kernel
theorem dX6_init_171 : decode cX6_init 171 = .ok (.bipush 8, 2) := by decide +kernel
theorem dX6_init_173 : decode cX6_init 173 = .ok (.newarray .int, 2) := by decide +kernel
theorem dX6_init_175 : decode cX6_init 175 = .ok (.putfield 77, 3) := by decide +kernel
theorem dX6_init_178 : decode cX6_init 178 = .ok (.aload_n 0, 1) := by decide +kernel
theorem dX6_init_179 : decode cX6_init 179 = .ok (.bipush 6, 2) := by decide +kernel
theorem dX6_init_181 : decode cX6_init 181 = .ok (.newarray .int, 2) := by decide +kernel
theorem dX6_init_183 : decode cX6_init 183 = .ok (.putfield 80, 3) := by decide +kernel
theorem dX6_init_186 : decode cX6_init 186 = .ok (.aload_n 0, 1) := by decide +kernel
theorem dX6_init_187 : decode cX6_init 187 = .ok (.bipush 8, 2) := by decide +kernel
theorem dX6_init_189 : decode cX6_init 189 = .ok (.newarray .int, 2) := by decide +kernel
theorem dX6_init_191 : decode cX6_init 191 = .ok (.putfield 83, 3) := by decide +kernel
theorem dX6_init_194 : decode cX6_init 194 = .ok (.aload_n 0, 1) := by decide +kernel
theorem dX6_init_195 : decode cX6_init 195 = .ok (.bipush 9, 2) := by decide +kernel
theorem dX6_init_197 : decode cX6_init 197 = .ok (.newarray .int, 2) := by decide +kernel
theorem dX6_init_199 : decode cX6_init 199 = .ok (.putfield 86, 3) := by decide +kernel
theorem dX6_init_202 : decode cX6_init 202 = .ok (.aload_n 0, 1) := by decide +kernel
theorem dX6_init_203 : decode cX6_init 203 = .ok (.bipush 9, 2) := by decide +kernel
theorem dX6_init_205 : decode cX6_init 205 = .ok (.newarray .int, 2) := by decide +kernel
theorem dX6_init_207 : decode cX6_init 207 = .ok (.putfield 89, 3) := by decide +kernel
theorem dX6_init_210 : decode cX6_init 210 = .ok (.iconst 0, 1) := by decide +kernel
theorem dX6_init_211 : decode cX6_init 211 = .ok (.istore_n 1, 1) := by decide +kernel
theorem dX6_init_212 : decode cX6_init 212 = .ok (.iload_n 1, 1) := by decide +kernel
theorem dX6_init_213 : decode cX6_init 213 = .ok (.bipush 48, 2) := by decide +kernel
theorem dX6_init_215 : decode cX6_init 215 = .ok (.if_icmp .ge 16, 3) := by decide +kernel
theorem dX6_init_218 : decode cX6_init 218 = .ok (.aload_n 0, 1) := by decide +kernel
theorem dX6_init_219 : decode cX6_init 219 = .ok (.getfield 68, 3) := by decide +kernel
theorem dX6_init_222 : decode cX6_init 222 = .ok (.iload_n 1, 1) := by decide +kernel
theorem dX6_init_223 : decode cX6_init 223 = .ok (.iconst (-1), 1) := by decide +kernel
theorem dX6_init_224 : decode cX6_init 224 = .ok (.iastore, 1) := by decide +kernel
theorem dX6_init_225 : decode cX6_init 225 = .ok (.iinc 1 1, 3) := by decide +kernel
theorem dX6_init_228 : decode cX6_init 228 = .ok (.goto (-16), 3) := by decide +kernel
theorem dX6_init_231 : decode cX6_init 231 = .ok (.return_, 1) := by decide +kernel
set_option maxRecDepth 100000 in
set_option maxHeartbeats 4000000 in
theorem lc_X6_init_212 (Z : ZZ) (l : Launch) (a0 : Nat) {args : Array Value} {h0 h1 : HP} {v0 : Unit} (K : HP → Option (Unit × HP)) (F : Int32 → HP → Option (Unit × HP))
    (hK : ∀ (h : HP), Sim Z l cX6_init RX6 2 1 20 (none) "<init>" args (Mq Z args h0 h1 (none)) h0 h1 v0 231 [] [] h (K h))
    (hF : ∀ (b1 : Int32) (h : HP), Sim Z l cX6_init RX6 2 1 20 (none) "<init>" args (Mq Z args h0 h1 (none)) h0 h1 v0 212 [(0, .ref (zb Z + a0)), (1, .int b1)] [] h (F b1 h)) :
    ∀ (b1 : Int32) (h : HP), Sim Z l cX6_init RX6 2 1 20 (none) "<init>" args (Mq Z args h0 h1 (none)) h0 h1 v0 212 [(0, .ref (zb Z + a0)), (1, .int b1)] [] h (lb_X6_init_212 a0 K F b1 h) := by
  intro b1 h
  unfold lb_X6_init_212
  refine S_iload_n dX6_init_212 rfl 1 rfl (pc' := 213) rfl ?_
  refine S_bipush dX6_init_213 (v := 48) rfl (pc' := 215) rfl ?_
  refine S_icmp_ge dX6_init_215 231 rfl (pc' := 218) rfl (fun g215 => ?_) (fun g215 => ?_)
  · refine Sim.sub [] rfl ?_
    exact hK _
  · refine S_aload_n dX6_init_218 rfl 0 rfl (pc' := 219) rfl ?_
    refine S_getR fl_X6_68 rfl dX6_init_219 (pc' := 222) rfl (fun x219 => ?_)
    refine S_iload_n dX6_init_222 rfl 1 rfl (pc' := 223) rfl ?_
    refine S_iconst dX6_init_223 (v := (-1)) rfl (pc' := 224) rfl ?_
    refine S_iastore dX6_init_224 (pc' := 225) rfl (fun h224 => ?_)
    refine S_iinc dX6_init_225 (q := 1) rfl (v := b1 + 1) rfl (by decide) (lo' := [(1, .int (b1 + 1)), (0, .ref (zb Z + a0))]) rfl (pc' := 228) rfl ?_
    refine S_goto dX6_init_228 212 rfl ?_
    refine Sim.sub [1, 0] rfl ?_
    exact hF _ _
theorem lq_X6_init_212 (Z : ZZ) (l : Launch) (a0 : Nat) {args : Array Value} {h0 h1 : HP} {v0 : Unit} (K : HP → Option (Unit × HP))
    (hK : ∀ (h : HP), Sim Z l cX6_init RX6 2 1 20 (none) "<init>" args (Mq Z args h0 h1 (none)) h0 h1 v0 231 [] [] h (K h)) :
    ∀ (k : Nat) (b1 : Int32) (h : HP), Sim Z l cX6_init RX6 2 1 20 (none) "<init>" args (Mq Z args h0 h1 (none)) h0 h1 v0 212 [(0, .ref (zb Z + a0)), (1, .int b1)] [] h (lp_X6_init_212 a0 K k b1 h) := by
  intro k
  induction k with
  | zero => exact fun _ _ => Sim.none
  | succ k ih => exact lc_X6_init_212 Z l a0 K _ hK ih
set_option maxRecDepth 100000 in
set_option maxHeartbeats 4000000 in
theorem c_X6_init (Z : ZZ) (l : Launch) (t : Nat) (h : HP) {v : Unit} {h1 : HP} (ho : f_X6_init t h = some (v, h1)) : MetP Z l yX6_init cX6_init 2 (none) 1 20 [.ref (zb Z + t)] h (none) h1 := by
  refine MetP_of ho (by decide +kernel) (Nat.le_of_ble_eq_true rfl) [(0, .ref (zb Z + t))] rfl (own := RX6) rfl (nm := "<init>") rfl ?_
  unfold f_X6_init
  refine S_aload_n dX6_init_0 rfl 0 rfl (pc' := 1) rfl ?_
  refine S_obj ob_X6_1 ob_i ob_c dX6_init_1 ⟨Nat.le_of_ble_eq_true rfl, Nat.le_of_ble_eq_true rfl⟩ (pc' := 4) rfl ?_
  refine S_aload_n dX6_init_4 rfl 0 rfl (pc' := 5) rfl ?_
  refine S_bipush dX6_init_5 (v := 8) rfl (pc' := 7) rfl ?_
  refine S_newarr 7 0 .int rfl (Or.inl ⟨rfl, rfl⟩) ac_int dX6_init_7 (pc' := 9) rfl (fun x7 h7 => ?_)
  refine S_putR fl_X6_7 (Or.inr ⟨_, rfl⟩) (fun _ => ⟨rfl, rfl, _, _, rfl⟩) (by decide) rfl dX6_init_9 (pc' := 12) rfl (fun h9 => ?_)
  refine S_aload_n dX6_init_12 rfl 0 rfl (pc' := 13) rfl ?_
  refine S_bipush dX6_init_13 (v := 8) rfl (pc' := 15) rfl ?_
  refine S_newarr 7 0 .int rfl (Or.inl ⟨rfl, rfl⟩) ac_int dX6_init_15 (pc' := 17) rfl (fun x15 h15 => ?_)
  refine S_putR fl_X6_13 (Or.inr ⟨_, rfl⟩) (fun _ => ⟨rfl, rfl, _, _, rfl⟩) (by decide) rfl dX6_init_17 (pc' := 20) rfl (fun h17 => ?_)
  refine S_aload_n dX6_init_20 rfl 0 rfl (pc' := 21) rfl ?_
  refine S_bipush dX6_init_21 (v := 8) rfl (pc' := 23) rfl ?_
  refine S_newarr 7 0 .int rfl (Or.inl ⟨rfl, rfl⟩) ac_int dX6_init_23 (pc' := 25) rfl (fun x23 h23 => ?_)
  refine S_putR fl_X6_16 (Or.inr ⟨_, rfl⟩) (fun _ => ⟨rfl, rfl, _, _, rfl⟩) (by decide) rfl dX6_init_25 (pc' := 28) rfl (fun h25 => ?_)
  refine S_aload_n dX6_init_28 rfl 0 rfl (pc' := 29) rfl ?_
  refine S_bipush dX6_init_29 (v := 8) rfl (pc' := 31) rfl ?_
  refine S_bipush dX6_init_31 (v := 40) rfl (pc' := 33) rfl ?_
  refine S_multi cl_X6_19 ac_long dX6_init_33 (pc' := 37) rfl (fun x33 h33 => ?_)
  refine S_putR fl_X6_21 (Or.inr ⟨_, rfl⟩) (fun _ => ⟨rfl, rfl, _, _, rfl⟩) (by decide) rfl dX6_init_37 (pc' := 40) rfl (fun h37 => ?_)
  refine S_aload_n dX6_init_40 rfl 0 rfl (pc' := 41) rfl ?_
  refine S_bipush dX6_init_41 (v := 40) rfl (pc' := 43) rfl ?_
  refine S_newarr 8 0 .long rfl (Or.inr ⟨rfl, rfl⟩) ac_long dX6_init_43 (pc' := 45) rfl (fun x43 h43 => ?_)
  refine S_putR fl_X6_24 (Or.inr ⟨_, rfl⟩) (fun _ => ⟨rfl, rfl, _, _, rfl⟩) (by decide) rfl dX6_init_45 (pc' := 48) rfl (fun h45 => ?_)
  refine S_aload_n dX6_init_48 rfl 0 rfl (pc' := 49) rfl ?_
  refine S_bipush dX6_init_49 (v := 8) rfl (pc' := 51) rfl ?_
  refine S_newarr 7 0 .int rfl (Or.inl ⟨rfl, rfl⟩) ac_int dX6_init_51 (pc' := 53) rfl (fun x51 h51 => ?_)
  refine S_putR fl_X6_28 (Or.inr ⟨_, rfl⟩) (fun _ => ⟨rfl, rfl, _, _, rfl⟩) (by decide) rfl dX6_init_53 (pc' := 56) rfl (fun h53 => ?_)
  refine S_aload_n dX6_init_56 rfl 0 rfl (pc' := 57) rfl ?_
  refine S_sipush dX6_init_57 (v := 250) rfl (pc' := 60) rfl ?_
  refine S_newarr 7 0 .int rfl (Or.inl ⟨rfl, rfl⟩) ac_int dX6_init_60 (pc' := 62) rfl (fun x60 h60 => ?_)
  refine S_putR fl_X6_31 (Or.inr ⟨_, rfl⟩) (fun _ => ⟨rfl, rfl, _, _, rfl⟩) (by decide) rfl dX6_init_62 (pc' := 65) rfl (fun h62 => ?_)
  refine S_aload_n dX6_init_65 rfl 0 rfl (pc' := 66) rfl ?_
  refine S_bipush dX6_init_66 (v := 8) rfl (pc' := 68) rfl ?_
  refine S_newarr 7 0 .int rfl (Or.inl ⟨rfl, rfl⟩) ac_int dX6_init_68 (pc' := 70) rfl (fun x68 h68 => ?_)
  refine S_putR fl_X6_34 (Or.inr ⟨_, rfl⟩) (fun _ => ⟨rfl, rfl, _, _, rfl⟩) (by decide) rfl dX6_init_70 (pc' := 73) rfl (fun h70 => ?_)
  refine S_aload_n dX6_init_73 rfl 0 rfl (pc' := 74) rfl ?_
  refine S_iconst dX6_init_74 (v := 3) rfl (pc' := 75) rfl ?_
  refine S_putI fl_X6_37 (by decide) rfl dX6_init_75 (pc' := 78) rfl (fun h75 => ?_)
  refine S_aload_n dX6_init_78 rfl 0 rfl (pc' := 79) rfl ?_
  refine S_bipush dX6_init_79 (v := 8) rfl (pc' := 81) rfl ?_
  refine S_newarr 7 0 .int rfl (Or.inl ⟨rfl, rfl⟩) ac_int dX6_init_81 (pc' := 83) rfl (fun x81 h81 => ?_)
  refine S_putR fl_X6_41 (Or.inr ⟨_, rfl⟩) (fun _ => ⟨rfl, rfl, _, _, rfl⟩) (by decide) rfl dX6_init_83 (pc' := 86) rfl (fun h83 => ?_)
  refine S_aload_n dX6_init_86 rfl 0 rfl (pc' := 87) rfl ?_
  refine S_bipush dX6_init_87 (v := 8) rfl (pc' := 89) rfl ?_
  refine S_newarr 7 0 .int rfl (Or.inl ⟨rfl, rfl⟩) ac_int dX6_init_89 (pc' := 91) rfl (fun x89 h89 => ?_)
  refine S_putR fl_X6_44 (Or.inr ⟨_, rfl⟩) (fun _ => ⟨rfl, rfl, _, _, rfl⟩) (by decide) rfl dX6_init_91 (pc' := 94) rfl (fun h91 => ?_)
  refine S_aload_n dX6_init_94 rfl 0 rfl (pc' := 95) rfl ?_
  refine S_bipush dX6_init_95 (v := 8) rfl (pc' := 97) rfl ?_
  refine S_newarr 7 0 .int rfl (Or.inl ⟨rfl, rfl⟩) ac_int dX6_init_97 (pc' := 99) rfl (fun x97 h97 => ?_)
  refine S_putR fl_X6_47 (Or.inr ⟨_, rfl⟩) (fun _ => ⟨rfl, rfl, _, _, rfl⟩) (by decide) rfl dX6_init_99 (pc' := 102) rfl (fun h99 => ?_)
  refine S_aload_n dX6_init_102 rfl 0 rfl (pc' := 103) rfl ?_
  refine S_bipush dX6_init_103 (v := 8) rfl (pc' := 105) rfl ?_
  refine S_newarr 7 0 .int rfl (Or.inl ⟨rfl, rfl⟩) ac_int dX6_init_105 (pc' := 107) rfl (fun x105 h105 => ?_)
  refine S_putR fl_X6_50 (Or.inr ⟨_, rfl⟩) (fun _ => ⟨rfl, rfl, _, _, rfl⟩) (by decide) rfl dX6_init_107 (pc' := 110) rfl (fun h107 => ?_)
  refine S_aload_n dX6_init_110 rfl 0 rfl (pc' := 111) rfl ?_
  refine S_bipush dX6_init_111 (v := 8) rfl (pc' := 113) rfl ?_
  refine S_newarr 7 0 .int rfl (Or.inl ⟨rfl, rfl⟩) ac_int dX6_init_113 (pc' := 115) rfl (fun x113 h113 => ?_)
  refine S_putR fl_X6_53 (Or.inr ⟨_, rfl⟩) (fun _ => ⟨rfl, rfl, _, _, rfl⟩) (by decide) rfl dX6_init_115 (pc' := 118) rfl (fun h115 => ?_)
  refine S_aload_n dX6_init_118 rfl 0 rfl (pc' := 119) rfl ?_
  refine S_bipush dX6_init_119 (v := 6) rfl (pc' := 121) rfl ?_
  refine S_newarr 7 0 .int rfl (Or.inl ⟨rfl, rfl⟩) ac_int dX6_init_121 (pc' := 123) rfl (fun x121 h121 => ?_)
  refine S_putR fl_X6_56 (Or.inr ⟨_, rfl⟩) (fun _ => ⟨rfl, rfl, _, _, rfl⟩) (by decide) rfl dX6_init_123 (pc' := 126) rfl (fun h123 => ?_)
  refine S_aload_n dX6_init_126 rfl 0 rfl (pc' := 127) rfl ?_
  refine S_bipush dX6_init_127 (v := 6) rfl (pc' := 129) rfl ?_
  refine S_newarr 7 0 .int rfl (Or.inl ⟨rfl, rfl⟩) ac_int dX6_init_129 (pc' := 131) rfl (fun x129 h129 => ?_)
  refine S_putR fl_X6_59 (Or.inr ⟨_, rfl⟩) (fun _ => ⟨rfl, rfl, _, _, rfl⟩) (by decide) rfl dX6_init_131 (pc' := 134) rfl (fun h131 => ?_)
  refine S_aload_n dX6_init_134 rfl 0 rfl (pc' := 135) rfl ?_
  refine S_bipush dX6_init_135 (v := 6) rfl (pc' := 137) rfl ?_
  refine S_newarr 7 0 .int rfl (Or.inl ⟨rfl, rfl⟩) ac_int dX6_init_137 (pc' := 139) rfl (fun x137 h137 => ?_)
  refine S_putR fl_X6_62 (Or.inr ⟨_, rfl⟩) (fun _ => ⟨rfl, rfl, _, _, rfl⟩) (by decide) rfl dX6_init_139 (pc' := 142) rfl (fun h139 => ?_)
  refine S_aload_n dX6_init_142 rfl 0 rfl (pc' := 143) rfl ?_
  refine S_bipush dX6_init_143 (v := 48) rfl (pc' := 145) rfl ?_
  refine S_newarr 7 0 .int rfl (Or.inl ⟨rfl, rfl⟩) ac_int dX6_init_145 (pc' := 147) rfl (fun x145 h145 => ?_)
  refine S_putR fl_X6_65 (Or.inr ⟨_, rfl⟩) (fun _ => ⟨rfl, rfl, _, _, rfl⟩) (by decide) rfl dX6_init_147 (pc' := 150) rfl (fun h147 => ?_)
  refine S_aload_n dX6_init_150 rfl 0 rfl (pc' := 151) rfl ?_
  refine S_bipush dX6_init_151 (v := 48) rfl (pc' := 153) rfl ?_
  refine S_newarr 7 0 .int rfl (Or.inl ⟨rfl, rfl⟩) ac_int dX6_init_153 (pc' := 155) rfl (fun x153 h153 => ?_)
  refine S_putR fl_X6_68 (Or.inr ⟨_, rfl⟩) (fun _ => ⟨rfl, rfl, _, _, rfl⟩) (by decide) rfl dX6_init_155 (pc' := 158) rfl (fun h155 => ?_)
  refine S_aload_n dX6_init_158 rfl 0 rfl (pc' := 159) rfl ?_
  refine S_iconst dX6_init_159 (v := 1) rfl (pc' := 160) rfl ?_
  refine S_putI fl_X6_71 (by decide) rfl dX6_init_160 (pc' := 163) rfl (fun h160 => ?_)
  refine S_aload_n dX6_init_163 rfl 0 rfl (pc' := 164) rfl ?_
  refine S_iconst dX6_init_164 (v := 4) rfl (pc' := 165) rfl ?_
  refine S_newarr 7 0 .int rfl (Or.inl ⟨rfl, rfl⟩) ac_int dX6_init_165 (pc' := 167) rfl (fun x165 h165 => ?_)
  refine S_putR fl_X6_74 (Or.inr ⟨_, rfl⟩) (fun _ => ⟨rfl, rfl, _, _, rfl⟩) (by decide) rfl dX6_init_167 (pc' := 170) rfl (fun h167 => ?_)
  refine S_aload_n dX6_init_170 rfl 0 rfl (pc' := 171) rfl ?_
  refine S_bipush dX6_init_171 (v := 8) rfl (pc' := 173) rfl ?_
  refine S_newarr 7 0 .int rfl (Or.inl ⟨rfl, rfl⟩) ac_int dX6_init_173 (pc' := 175) rfl (fun x173 h173 => ?_)
  refine S_putR fl_X6_77 (Or.inr ⟨_, rfl⟩) (fun _ => ⟨rfl, rfl, _, _, rfl⟩) (by decide) rfl dX6_init_175 (pc' := 178) rfl (fun h175 => ?_)
  refine S_aload_n dX6_init_178 rfl 0 rfl (pc' := 179) rfl ?_
  refine S_bipush dX6_init_179 (v := 6) rfl (pc' := 181) rfl ?_
  refine S_newarr 7 0 .int rfl (Or.inl ⟨rfl, rfl⟩) ac_int dX6_init_181 (pc' := 183) rfl (fun x181 h181 => ?_)
  refine S_putR fl_X6_80 (Or.inr ⟨_, rfl⟩) (fun _ => ⟨rfl, rfl, _, _, rfl⟩) (by decide) rfl dX6_init_183 (pc' := 186) rfl (fun h183 => ?_)
  refine S_aload_n dX6_init_186 rfl 0 rfl (pc' := 187) rfl ?_
  refine S_bipush dX6_init_187 (v := 8) rfl (pc' := 189) rfl ?_
  refine S_newarr 7 0 .int rfl (Or.inl ⟨rfl, rfl⟩) ac_int dX6_init_189 (pc' := 191) rfl (fun x189 h189 => ?_)
  refine S_putR fl_X6_83 (Or.inr ⟨_, rfl⟩) (fun _ => ⟨rfl, rfl, _, _, rfl⟩) (by decide) rfl dX6_init_191 (pc' := 194) rfl (fun h191 => ?_)
  refine S_aload_n dX6_init_194 rfl 0 rfl (pc' := 195) rfl ?_
  refine S_bipush dX6_init_195 (v := 9) rfl (pc' := 197) rfl ?_
  refine S_newarr 7 0 .int rfl (Or.inl ⟨rfl, rfl⟩) ac_int dX6_init_197 (pc' := 199) rfl (fun x197 h197 => ?_)
  refine S_putR fl_X6_86 (Or.inr ⟨_, rfl⟩) (fun _ => ⟨rfl, rfl, _, _, rfl⟩) (by decide) rfl dX6_init_199 (pc' := 202) rfl (fun h199 => ?_)
  refine S_aload_n dX6_init_202 rfl 0 rfl (pc' := 203) rfl ?_
  refine S_bipush dX6_init_203 (v := 9) rfl (pc' := 205) rfl ?_
  refine S_newarr 7 0 .int rfl (Or.inl ⟨rfl, rfl⟩) ac_int dX6_init_205 (pc' := 207) rfl (fun x205 h205 => ?_)
  refine S_putR fl_X6_89 (Or.inr ⟨_, rfl⟩) (fun _ => ⟨rfl, rfl, _, _, rfl⟩) (by decide) rfl dX6_init_207 (pc' := 210) rfl (fun h207 => ?_)
  refine S_iconst dX6_init_210 (v := 0) rfl (pc' := 211) rfl ?_
  refine S_istore_n dX6_init_211 rfl (by decide) (lo' := [(1, .int 0), (0, .ref (zb Z + t))]) rfl (pc' := 212) rfl ?_
  refine Sim.sub [1, 0] rfl ?_
  refine lq_X6_init_212 Z l t _ ?_ 1000 _ _
  intro h212_
  exact S_vret rfl dX6_init_231
theorem dX6_refuse_0 : decode cX6_refuse 0 = .ok (.aload_n 0, 1) := by decide +kernel
theorem dX6_refuse_1 : decode cX6_refuse 1 = .ok (.getfield 34, 3) := by decide +kernel
theorem dX6_refuse_4 : decode cX6_refuse 4 = .ok (.iload_n 1, 1) := by decide +kernel
theorem dX6_refuse_5 : decode cX6_refuse 5 = .ok (.ineg, 1) := by decide +kernel
theorem dX6_refuse_6 : decode cX6_refuse 6 = .ok (.dup2, 1) := by decide +kernel
theorem dX6_refuse_7 : decode cX6_refuse 7 = .ok (.iaload, 1) := by decide +kernel
theorem dX6_refuse_8 : decode cX6_refuse 8 = .ok (.iconst 1, 1) := by decide +kernel
theorem dX6_refuse_9 : decode cX6_refuse 9 = .ok (.iadd, 1) := by decide +kernel
theorem dX6_refuse_10 : decode cX6_refuse 10 = .ok (.iastore, 1) := by decide +kernel
theorem dX6_refuse_11 : decode cX6_refuse 11 = .ok (.iload_n 1, 1) := by decide +kernel
theorem dX6_refuse_12 : decode cX6_refuse 12 = .ok (.ireturn, 1) := by decide +kernel
set_option maxRecDepth 100000 in
set_option maxHeartbeats 4000000 in
theorem c_X6_refuse (Z : ZZ) (l : Launch) (t : Nat) (a1 : Int32) (h : HP) {v : Int32} {h1 : HP} (ho : f_X6_refuse t a1 h = some (v, h1)) : MetP Z l yX6_refuse cX6_refuse 2 (some .int) 0 0 [.ref (zb Z + t), .int a1] h (some (.int v)) h1 := by
  refine MetP_of ho (by decide +kernel) (Nat.le_of_ble_eq_true rfl) [(0, .ref (zb Z + t)), (1, .int a1)] rfl (own := RX6) rfl (nm := "refuse") rfl ?_
  unfold f_X6_refuse
  refine S_aload_n dX6_refuse_0 rfl 0 rfl (pc' := 1) rfl ?_
  refine S_getR fl_X6_34 rfl dX6_refuse_1 (pc' := 4) rfl (fun x1 => ?_)
  refine S_iload_n dX6_refuse_4 rfl 1 rfl (pc' := 5) rfl ?_
  refine S_ineg dX6_refuse_5 (pc' := 6) rfl ?_
  refine S_dup2 dX6_refuse_6 rfl rfl (pc' := 7) rfl ?_
  refine S_iaload dX6_refuse_7 (pc' := 8) rfl (fun x7 => ?_)
  refine S_iconst dX6_refuse_8 (v := 1) rfl (pc' := 9) rfl ?_
  refine S_iadd dX6_refuse_9 (pc' := 10) rfl ?_
  refine S_iastore dX6_refuse_10 (pc' := 11) rfl (fun h10 => ?_)
  refine S_iload_n dX6_refuse_11 rfl 1 rfl (pc' := 12) rfl ?_
  exact S_iret rfl dX6_refuse_12
theorem dX6_in_0 : decode cX6_in 0 = .ok (.lload_n 0, 1) := by decide +kernel
theorem dX6_in_1 : decode cX6_in 1 = .ok (.lload_n 2, 1) := by decide +kernel
theorem dX6_in_2 : decode cX6_in 2 = .ok (.lcmp, 1) := by decide +kernel
theorem dX6_in_3 : decode cX6_in 3 = .ok (.ifCond .lt 14, 3) := by decide +kernel
theorem dX6_in_6 : decode cX6_in 6 = .ok (.lload_n 0, 1) := by decide +kernel
theorem dX6_in_7 : decode cX6_in 7 = .ok (.lload 4, 2) := by decide +kernel
theorem dX6_in_9 : decode cX6_in 9 = .ok (.lcmp, 1) := by decide +kernel
theorem dX6_in_10 : decode cX6_in 10 = .ok (.ifCond .gt 7, 3) := by decide +kernel
theorem dX6_in_13 : decode cX6_in 13 = .ok (.iconst 1, 1) := by decide +kernel
theorem dX6_in_14 : decode cX6_in 14 = .ok (.goto 4, 3) := by decide +kernel
theorem dX6_in_17 : decode cX6_in 17 = .ok (.iconst 0, 1) := by decide +kernel
theorem dX6_in_18 : decode cX6_in 18 = .ok (.ireturn, 1) := by decide +kernel
set_option maxRecDepth 100000 in
set_option maxHeartbeats 4000000 in
theorem c_X6_in (Z : ZZ) (l : Launch) (a0 : Int64) (a2 : Int64) (a4 : Int64) (h : HP) {v : Int32} {h1 : HP} (ho : f_X6_in a0 a2 a4 h = some (v, h1)) : MetP Z l yX6_in cX6_in 6 (some .boolean) 0 0 [.long a0, .long a2, .long a4] h (some (.int v)) h1 := by
  refine MetP_of ho (by decide +kernel) (Nat.le_of_ble_eq_true rfl) [(0, .long a0), (2, .long a2), (4, .long a4)] rfl (own := RX6) rfl (nm := "in") rfl ?_
  unfold f_X6_in
  refine S_lload_n dX6_in_0 rfl 0 rfl (pc' := 1) rfl ?_
  refine S_lload_n dX6_in_1 rfl 1 rfl (pc' := 2) rfl ?_
  refine S_lcmp dX6_in_2 (pc' := 3) rfl ?_
  refine S_if_lt dX6_in_3 17 rfl (pc' := 6) rfl (fun g3 => ?_) (fun g3 => ?_)
  · refine S_iconst dX6_in_17 (v := 0) rfl (pc' := 18) rfl ?_
    exact S_zret rfl dX6_in_18
  · refine S_lload_n dX6_in_6 rfl 0 rfl (pc' := 7) rfl ?_
    refine S_lload dX6_in_7 2 rfl (pc' := 9) rfl ?_
    refine S_lcmp dX6_in_9 (pc' := 10) rfl ?_
    refine S_if_gt dX6_in_10 17 rfl (pc' := 13) rfl (fun g10 => ?_) (fun g10 => ?_)
    · refine S_iconst dX6_in_17 (v := 0) rfl (pc' := 18) rfl ?_
      exact S_zret rfl dX6_in_18
    · refine S_iconst dX6_in_13 (v := 1) rfl (pc' := 14) rfl ?_
      refine S_goto dX6_in_14 18 rfl ?_
      exact S_zret rfl dX6_in_18
theorem dX6_isPerson_0 : decode cX6_isPerson 0 = .ok (.iload_n 1, 1) := by decide +kernel
theorem dX6_isPerson_1 : decode cX6_isPerson 1 = .ok (.i2l, 1) := by decide +kernel
theorem dX6_isPerson_2 : decode cX6_isPerson 2 = .ok (.lconst 0, 1) := by decide +kernel
theorem dX6_isPerson_3 : decode cX6_isPerson 3 = .ok (.aload_n 0, 1) := by decide +kernel
theorem dX6_isPerson_4 : decode cX6_isPerson 4 = .ok (.getfield 92, 3) := by decide +kernel
theorem dX6_isPerson_7 : decode cX6_isPerson 7 = .ok (.iconst 1, 1) := by decide +kernel
theorem dX6_isPerson_8 : decode cX6_isPerson 8 = .ok (.isub, 1) := by decide +kernel
theorem dX6_isPerson_9 : decode cX6_isPerson 9 = .ok (.i2l, 1) := by decide +kernel
theorem dX6_isPerson_10 : decode cX6_isPerson 10 = .ok (.invokestatic 95, 3) := by decide +kernel
theorem dX6_isPerson_13 : decode cX6_isPerson 13 = .ok (.ireturn, 1) := by decide +kernel
set_option maxRecDepth 100000 in
set_option maxHeartbeats 4000000 in
theorem c_X6_isPerson (Z : ZZ) (l : Launch) (t : Nat) (a1 : Int32) (h : HP) {v : Int32} {h1 : HP} (ho : f_X6_isPerson t a1 h = some (v, h1)) : MetP Z l yX6_isPerson cX6_isPerson 2 (some .boolean) 1 25 [.ref (zb Z + t), .int a1] h (some (.int v)) h1 := by
  refine MetP_of ho (by decide +kernel) (Nat.le_of_ble_eq_true rfl) [(0, .ref (zb Z + t)), (1, .int a1)] rfl (own := RX6) rfl (nm := "isPerson") rfl ?_
  unfold f_X6_isPerson
  refine S_iload_n dX6_isPerson_0 rfl 1 rfl (pc' := 1) rfl ?_
  refine S_i2l dX6_isPerson_1 (pc' := 2) rfl ?_
  refine S_lconst dX6_isPerson_2 (v := 0) rfl (pc' := 3) rfl ?_
  refine S_aload_n dX6_isPerson_3 rfl 0 rfl (pc' := 4) rfl ?_
  refine S_getI fl_X6_92 rfl dX6_isPerson_4 (pc' := 7) rfl (fun x4 => ?_)
  refine S_iconst dX6_isPerson_7 (v := 1) rfl (pc' := 8) rfl ?_
  refine S_isub dX6_isPerson_8 (pc' := 9) rfl ?_
  refine S_i2l dX6_isPerson_9 (pc' := 10) rfl ?_
  refine S_stai ml_X6_95 ms_X6_in dX6_isPerson_10 [.long a1.toInt64, .long 0, .long ((x4 - 1).toInt64)] rfl (fun v h2 q => c_X6_in Z l _ _ _ _ q) ⟨Nat.le_of_ble_eq_true rfl, Nat.le_of_ble_eq_true rfl⟩ (rest := []) (Nat.le_of_ble_eq_true rfl) rfl (pc' := 13) rfl (fun x10 h10 => ?_)
  exact S_zret rfl dX6_isPerson_13
theorem dX6_isSong_0 : decode cX6_isSong 0 = .ok (.iload_n 1, 1) := by decide +kernel
theorem dX6_isSong_1 : decode cX6_isSong 1 = .ok (.i2l, 1) := by decide +kernel
theorem dX6_isSong_2 : decode cX6_isSong 2 = .ok (.lconst 0, 1) := by decide +kernel
theorem dX6_isSong_3 : decode cX6_isSong 3 = .ok (.aload_n 0, 1) := by decide +kernel
theorem dX6_isSong_4 : decode cX6_isSong 4 = .ok (.getfield 99, 3) := by decide +kernel
theorem dX6_isSong_7 : decode cX6_isSong 7 = .ok (.iconst 1, 1) := by decide +kernel
theorem dX6_isSong_8 : decode cX6_isSong 8 = .ok (.isub, 1) := by decide +kernel
theorem dX6_isSong_9 : decode cX6_isSong 9 = .ok (.i2l, 1) := by decide +kernel
theorem dX6_isSong_10 : decode cX6_isSong 10 = .ok (.invokestatic 95, 3) := by decide +kernel
theorem dX6_isSong_13 : decode cX6_isSong 13 = .ok (.ireturn, 1) := by decide +kernel
set_option maxRecDepth 100000 in
set_option maxHeartbeats 4000000 in
theorem c_X6_isSong (Z : ZZ) (l : Launch) (t : Nat) (a1 : Int32) (h : HP) {v : Int32} {h1 : HP} (ho : f_X6_isSong t a1 h = some (v, h1)) : MetP Z l yX6_isSong cX6_isSong 2 (some .boolean) 1 25 [.ref (zb Z + t), .int a1] h (some (.int v)) h1 := by
  refine MetP_of ho (by decide +kernel) (Nat.le_of_ble_eq_true rfl) [(0, .ref (zb Z + t)), (1, .int a1)] rfl (own := RX6) rfl (nm := "isSong") rfl ?_
  unfold f_X6_isSong
  refine S_iload_n dX6_isSong_0 rfl 1 rfl (pc' := 1) rfl ?_
  refine S_i2l dX6_isSong_1 (pc' := 2) rfl ?_
  refine S_lconst dX6_isSong_2 (v := 0) rfl (pc' := 3) rfl ?_
  refine S_aload_n dX6_isSong_3 rfl 0 rfl (pc' := 4) rfl ?_
  refine S_getI fl_X6_99 rfl dX6_isSong_4 (pc' := 7) rfl (fun x4 => ?_)
  refine S_iconst dX6_isSong_7 (v := 1) rfl (pc' := 8) rfl ?_
  refine S_isub dX6_isSong_8 (pc' := 9) rfl ?_
  refine S_i2l dX6_isSong_9 (pc' := 10) rfl ?_
  refine S_stai ml_X6_95 ms_X6_in dX6_isSong_10 [.long a1.toInt64, .long 0, .long ((x4 - 1).toInt64)] rfl (fun v h2 q => c_X6_in Z l _ _ _ _ q) ⟨Nat.le_of_ble_eq_true rfl, Nat.le_of_ble_eq_true rfl⟩ (rest := []) (Nat.le_of_ble_eq_true rfl) rfl (pc' := 13) rfl (fun x10 h10 => ?_)
  exact S_zret rfl dX6_isSong_13
theorem dX6_knowsIt_0 : decode cX6_knowsIt 0 = .ok (.aload_n 0, 1) := by decide +kernel
theorem dX6_knowsIt_1 : decode cX6_knowsIt 1 = .ok (.getfield 68, 3) := by decide +kernel
theorem dX6_knowsIt_4 : decode cX6_knowsIt 4 = .ok (.iload_n 1, 1) := by decide +kernel
theorem dX6_knowsIt_5 : decode cX6_knowsIt 5 = .ok (.bipush 6, 2) := by decide +kernel
theorem dX6_knowsIt_7 : decode cX6_knowsIt 7 = .ok (.imul, 1) := by decide +kernel
theorem dX6_knowsIt_8 : decode cX6_knowsIt 8 = .ok (.iload_n 2, 1) := by decide +kernel
theorem dX6_knowsIt_9 : decode cX6_knowsIt 9 = .ok (.iadd, 1) := by decide +kernel
theorem dX6_knowsIt_10 : decode cX6_knowsIt 10 = .ok (.iaload, 1) := by decide +kernel
theorem dX6_knowsIt_11 : decode cX6_knowsIt 11 = .ok (.ifCond .lt 7, 3) := by decide +kernel
theorem dX6_knowsIt_14 : decode cX6_knowsIt 14 = .ok (.iconst 1, 1) := by decide +kernel
theorem dX6_knowsIt_15 : decode cX6_knowsIt 15 = .ok (.goto 4, 3) := by decide +kernel
theorem dX6_knowsIt_18 : decode cX6_knowsIt 18 = .ok (.iconst 0, 1) := by decide +kernel
theorem dX6_knowsIt_19 : decode cX6_knowsIt 19 = .ok (.ireturn, 1) := by decide +kernel
set_option maxRecDepth 100000 in
set_option maxHeartbeats 4000000 in
theorem c_X6_knowsIt (Z : ZZ) (l : Launch) (t : Nat) (a1 : Int32) (a2 : Int32) (h : HP) {v : Int32} {h1 : HP} (ho : f_X6_knowsIt t a1 a2 h = some (v, h1)) : MetP Z l yX6_knowsIt cX6_knowsIt 3 (some .boolean) 0 0 [.ref (zb Z + t), .int a1, .int a2] h (some (.int v)) h1 := by
  refine MetP_of ho (by decide +kernel) (Nat.le_of_ble_eq_true rfl) [(0, .ref (zb Z + t)), (1, .int a1), (2, .int a2)] rfl (own := RX6) rfl (nm := "knowsIt") rfl ?_
  unfold f_X6_knowsIt
  refine S_aload_n dX6_knowsIt_0 rfl 0 rfl (pc' := 1) rfl ?_
  refine S_getR fl_X6_68 rfl dX6_knowsIt_1 (pc' := 4) rfl (fun x1 => ?_)
  refine S_iload_n dX6_knowsIt_4 rfl 1 rfl (pc' := 5) rfl ?_
  refine S_bipush dX6_knowsIt_5 (v := 6) rfl (pc' := 7) rfl ?_
  refine S_imul dX6_knowsIt_7 (pc' := 8) rfl ?_
  refine S_iload_n dX6_knowsIt_8 rfl 2 rfl (pc' := 9) rfl ?_
  refine S_iadd dX6_knowsIt_9 (pc' := 10) rfl ?_
  refine S_iaload dX6_knowsIt_10 (pc' := 11) rfl (fun x10 => ?_)
  refine S_if_lt dX6_knowsIt_11 18 rfl (pc' := 14) rfl (fun g11 => ?_) (fun g11 => ?_)
  · refine S_iconst dX6_knowsIt_18 (v := 0) rfl (pc' := 19) rfl ?_
    exact S_zret rfl dX6_knowsIt_19
  · refine S_iconst dX6_knowsIt_14 (v := 1) rfl (pc' := 15) rfl ?_
    refine S_goto dX6_knowsIt_15 19 rfl ?_
    exact S_zret rfl dX6_knowsIt_19
theorem dX6_bits_0 : decode cX6_bits 0 = .ok (.iconst 0, 1) := by decide +kernel
theorem dX6_bits_1 : decode cX6_bits 1 = .ok (.istore_n 1, 1) := by decide +kernel
theorem dX6_bits_2 : decode cX6_bits 2 = .ok (.iload_n 0, 1) := by decide +kernel
theorem dX6_bits_3 : decode cX6_bits 3 = .ok (.istore_n 2, 1) := by decide +kernel
theorem dX6_bits_4 : decode cX6_bits 4 = .ok (.iload_n 2, 1) := by decide +kernel
theorem dX6_bits_5 : decode cX6_bits 5 = .ok (.ifCond .eq 15, 3) := by decide +kernel
theorem dX6_bits_8 : decode cX6_bits 8 = .ok (.iinc 1 1, 3) := by decide +kernel
theorem dX6_bits_11 : decode cX6_bits 11 = .ok (.iload_n 2, 1) := by decide +kernel
theorem dX6_bits_12 : decode cX6_bits 12 = .ok (.iload_n 2, 1) := by decide +kernel
theorem dX6_bits_13 : decode cX6_bits 13 = .ok (.iconst 1, 1) := by decide +kernel
theorem dX6_bits_14 : decode cX6_bits 14 = .ok (.isub, 1) := by decide +kernel
theorem dX6_bits_15 : decode cX6_bits 15 = .ok (.iand, 1) := by decide +kernel
theorem dX6_bits_16 : decode cX6_bits 16 = .ok (.istore_n 2, 1) := by decide +kernel
theorem dX6_bits_17 : decode cX6_bits 17 = .ok (.goto (-13), 3) := by decide +kernel
theorem dX6_bits_20 : decode cX6_bits 20 = .ok (.iload_n 1, 1) := by decide +kernel
theorem dX6_bits_21 : decode cX6_bits 21 = .ok (.ireturn, 1) := by decide +kernel
set_option maxRecDepth 100000 in
set_option maxHeartbeats 4000000 in
theorem lc_X6_bits_4 (Z : ZZ) (l : Launch) {args : Array Value} {h0 h1 : HP} {v0 : Int32} (K : Int32 → HP → Option (Int32 × HP)) (F : Int32 → Int32 → HP → Option (Int32 × HP))
    (hK : ∀ (b1 : Int32) (h : HP), Sim Z l cX6_bits RX6 3 0 0 (some .int) "bits" args (Mq Z args h0 h1 (some (.int v0))) h0 h1 v0 20 [(1, .int b1)] [] h (K b1 h))
    (hF : ∀ (b1 : Int32) (b2 : Int32) (h : HP), Sim Z l cX6_bits RX6 3 0 0 (some .int) "bits" args (Mq Z args h0 h1 (some (.int v0))) h0 h1 v0 4 [(1, .int b1), (2, .int b2)] [] h (F b1 b2 h)) :
    ∀ (b1 : Int32) (b2 : Int32) (h : HP), Sim Z l cX6_bits RX6 3 0 0 (some .int) "bits" args (Mq Z args h0 h1 (some (.int v0))) h0 h1 v0 4 [(1, .int b1), (2, .int b2)] [] h (lb_X6_bits_4 K F b1 b2 h) := by
  intro b1 b2 h
  unfold lb_X6_bits_4
  refine S_iload_n dX6_bits_4 rfl 1 rfl (pc' := 5) rfl ?_
  refine S_if_eq dX6_bits_5 20 rfl (pc' := 8) rfl (fun g5 => ?_) (fun g5 => ?_)
  · refine Sim.sub [0] rfl ?_
    exact hK _ _
  · refine S_iinc dX6_bits_8 (q := 0) rfl (v := b1 + 1) rfl (by decide) (lo' := [(1, .int (b1 + 1)), (2, .int b2)]) rfl (pc' := 11) rfl ?_
    refine S_iload_n dX6_bits_11 rfl 1 rfl (pc' := 12) rfl ?_
    refine S_iload_n dX6_bits_12 rfl 1 rfl (pc' := 13) rfl ?_
    refine S_iconst dX6_bits_13 (v := 1) rfl (pc' := 14) rfl ?_
    refine S_isub dX6_bits_14 (pc' := 15) rfl ?_
    refine S_iand dX6_bits_15 (pc' := 16) rfl ?_
    refine S_istore_n dX6_bits_16 rfl (by decide) (lo' := [(2, .int (b2 &&& (b2 - 1))), (1, .int (b1 + 1))]) rfl (pc' := 17) rfl ?_
    refine S_goto dX6_bits_17 4 rfl ?_
    refine Sim.sub [1, 0] rfl ?_
    exact hF _ _ _
theorem lq_X6_bits_4 (Z : ZZ) (l : Launch) {args : Array Value} {h0 h1 : HP} {v0 : Int32} (K : Int32 → HP → Option (Int32 × HP))
    (hK : ∀ (b1 : Int32) (h : HP), Sim Z l cX6_bits RX6 3 0 0 (some .int) "bits" args (Mq Z args h0 h1 (some (.int v0))) h0 h1 v0 20 [(1, .int b1)] [] h (K b1 h)) :
    ∀ (k : Nat) (b1 : Int32) (b2 : Int32) (h : HP), Sim Z l cX6_bits RX6 3 0 0 (some .int) "bits" args (Mq Z args h0 h1 (some (.int v0))) h0 h1 v0 4 [(1, .int b1), (2, .int b2)] [] h (lp_X6_bits_4 K k b1 b2 h) := by
  intro k
  induction k with
  | zero => exact fun _ _ _ => Sim.none
  | succ k ih => exact lc_X6_bits_4 Z l K _ hK ih
set_option maxRecDepth 100000 in
set_option maxHeartbeats 4000000 in
theorem c_X6_bits (Z : ZZ) (l : Launch) (a0 : Int32) (h : HP) {v : Int32} {h1 : HP} (ho : f_X6_bits a0 h = some (v, h1)) : MetP Z l yX6_bits cX6_bits 3 (some .int) 0 0 [.int a0] h (some (.int v)) h1 := by
  refine MetP_of ho (by decide +kernel) (Nat.le_of_ble_eq_true rfl) [(0, .int a0)] rfl (own := RX6) rfl (nm := "bits") rfl ?_
  unfold f_X6_bits
  refine S_iconst dX6_bits_0 (v := 0) rfl (pc' := 1) rfl ?_
  refine S_istore_n dX6_bits_1 rfl (by decide) (lo' := [(1, .int 0), (0, .int a0)]) rfl (pc' := 2) rfl ?_
  refine S_iload_n dX6_bits_2 rfl 1 rfl (pc' := 3) rfl ?_
  refine S_istore_n dX6_bits_3 rfl (by decide) (lo' := [(2, .int a0), (1, .int 0), (0, .int a0)]) rfl (pc' := 4) rfl ?_
  refine Sim.sub [1, 0] rfl ?_
  refine lq_X6_bits_4 Z l _ ?_ 1000 _ _ _
  intro b1_4 h4_
  refine S_iload_n dX6_bits_20 rfl 0 rfl (pc' := 21) rfl ?_
  exact S_iret rfl dX6_bits_21
theorem dX6_row_0 : decode cX6_row 0 = .ok (.iload_n 1, 1) := by decide +kernel
theorem dX6_row_1 : decode cX6_row 1 = .ok (.i2l, 1) := by decide +kernel
theorem dX6_row_2 : decode cX6_row 2 = .ok (.lconst 0, 1) := by decide +kernel
theorem dX6_row_3 : decode cX6_row 3 = .ok (.ldc2_w 102, 3) := by decide +kernel
theorem dX6_row_6 : decode cX6_row 6 = .ok (.invokestatic 95, 3) := by decide +kernel
theorem dX6_row_9 : decode cX6_row 9 = .ok (.ifCond .eq 27, 3) := by decide +kernel
theorem dX6_row_12 : decode cX6_row 12 = .ok (.iload_n 2, 1) := by decide +kernel
theorem dX6_row_13 : decode cX6_row 13 = .ok (.i2l, 1) := by decide +kernel
theorem dX6_row_14 : decode cX6_row 14 = .ok (.lconst 0, 1) := by decide +kernel
theorem dX6_row_15 : decode cX6_row 15 = .ok (.ldc2_w 104, 3) := by decide +kernel
theorem dX6_row_18 : decode cX6_row 18 = .ok (.invokestatic 95, 3) := by decide +kernel
theorem dX6_row_21 : decode cX6_row 21 = .ok (.ifCond .eq 15, 3) := by decide +kernel
theorem dX6_row_24 : decode cX6_row 24 = .ok (.iload_n 3, 1) := by decide +kernel
theorem dX6_row_25 : decode cX6_row 25 = .ok (.i2l, 1) := by decide +kernel
theorem dX6_row_26 : decode cX6_row 26 = .ok (.lconst 0, 1) := by decide +kernel
theorem dX6_row_27 : decode cX6_row 27 = .ok (.ldc2_w 106, 3) := by decide +kernel
theorem dX6_row_30 : decode cX6_row 30 = .ok (.invokestatic 95, 3) := by decide +kernel
theorem dX6_row_33 : decode cX6_row 33 = .ok (.ifCond .ne 10, 3) := by decide +kernel
theorem dX6_row_36 : decode cX6_row 36 = .ok (.aload_n 0, 1) := by decide +kernel
theorem dX6_row_37 : decode cX6_row 37 = .ok (.bipush (-2), 2) := by decide +kernel
theorem dX6_row_39 : decode cX6_row 39 = .ok (.invokevirtual 108, 3) := by decide +kernel
theorem dX6_row_42 : decode cX6_row 42 = .ok (.ireturn, 1) := by decide +kernel
theorem dX6_row_43 : decode cX6_row 43 = .ok (.aload_n 0, 1) := by decide +kernel
theorem dX6_row_44 : decode cX6_row 44 = .ok (.getfield 7, 3) := by decide +kernel
theorem dX6_row_47 : decode cX6_row 47 = .ok (.iload_n 1, 1) := by decide +kernel
theorem dX6_row_48 : decode cX6_row 48 = .ok (.iconst 1, 1) := by decide +kernel
theorem dX6_row_49 : decode cX6_row 49 = .ok (.iastore, 1) := by decide +kernel
theorem dX6_row_50 : decode cX6_row 50 = .ok (.aload_n 0, 1) := by decide +kernel
theorem dX6_row_51 : decode cX6_row 51 = .ok (.getfield 13, 3) := by decide +kernel
theorem dX6_row_54 : decode cX6_row 54 = .ok (.iload_n 1, 1) := by decide +kernel
theorem dX6_row_55 : decode cX6_row 55 = .ok (.iload_n 2, 1) := by decide +kernel
theorem dX6_row_56 : decode cX6_row 56 = .ok (.iastore, 1) := by decide +kernel
theorem dX6_row_57 : decode cX6_row 57 = .ok (.aload_n 0, 1) := by decide +kernel
theorem dX6_row_58 : decode cX6_row 58 = .ok (.getfield 16, 3) := by decide +kernel
theorem dX6_row_61 : decode cX6_row 61 = .ok (.iload_n 1, 1) := by decide +kernel
theorem dX6_row_62 : decode cX6_row 62 = .ok (.iload_n 3, 1) := by decide +kernel
theorem dX6_row_63 : decode cX6_row 63 = .ok (.iastore, 1) := by decide +kernel
theorem dX6_row_64 : decode cX6_row 64 = .ok (.iconst 0, 1) := by decide +kernel
theorem dX6_row_65 : decode cX6_row 65 = .ok (.istore 4, 2) := by decide +kernel
theorem dX6_row_67 : decode cX6_row 67 = .ok (.iload 4, 2) := by decide +kernel
theorem dX6_row_69 : decode cX6_row 69 = .ok (.bipush 40, 2) := by decide +kernel
theorem dX6_row_71 : decode cX6_row 71 = .ok (.if_icmp .ge 19, 3) := by decide +kernel
theorem dX6_row_74 : decode cX6_row 74 = .ok (.aload_n 0, 1) := by decide +kernel
theorem dX6_row_75 : decode cX6_row 75 = .ok (.getfield 21, 3) := by decide +kernel
theorem dX6_row_78 : decode cX6_row 78 = .ok (.iload_n 1, 1) := by decide +kernel
theorem dX6_row_79 : decode cX6_row 79 = .ok (.aaload, 1) := by decide +kernel
theorem dX6_row_80 : decode cX6_row 80 = .ok (.iload 4, 2) := by decide +kernel
theorem dX6_row_82 : decode cX6_row 82 = .ok (.lconst 0, 1) := by decide +kernel
theorem dX6_row_83 : decode cX6_row 83 = .ok (.lastore, 1) := by decide +kernel
theorem dX6_row_84 : decode cX6_row 84 = .ok (.iinc 4 1, 3) := by decide +kernel
theorem dX6_row_87 : decode cX6_row 87 = .ok (.goto (-20), 3) := by decide +kernel
theorem dX6_row_90 : decode cX6_row 90 = .ok (.iconst 1, 1) := by decide +kernel
theorem dX6_row_91 : decode cX6_row 91 = .ok (.ireturn, 1) := by decide +kernel
set_option maxRecDepth 100000 in
set_option maxHeartbeats 4000000 in
theorem lc_X6_row_67 (Z : ZZ) (l : Launch) (a0 : Nat) (a1 : Int32) {args : Array Value} {h0 h1 : HP} {v0 : Int32} (K : HP → Option (Int32 × HP)) (F : Int32 → HP → Option (Int32 × HP))
    (hK : ∀ (h : HP), Sim Z l cX6_row RX6 5 1 25 (some .int) "row" args (Mq Z args h0 h1 (some (.int v0))) h0 h1 v0 90 [] [] h (K h))
    (hF : ∀ (b4 : Int32) (h : HP), Sim Z l cX6_row RX6 5 1 25 (some .int) "row" args (Mq Z args h0 h1 (some (.int v0))) h0 h1 v0 67 [(0, .ref (zb Z + a0)), (1, .int a1), (4, .int b4)] [] h (F b4 h)) :
    ∀ (b4 : Int32) (h : HP), Sim Z l cX6_row RX6 5 1 25 (some .int) "row" args (Mq Z args h0 h1 (some (.int v0))) h0 h1 v0 67 [(0, .ref (zb Z + a0)), (1, .int a1), (4, .int b4)] [] h (lb_X6_row_67 a0 a1 K F b4 h) := by
  intro b4 h
  unfold lb_X6_row_67
  refine S_iload dX6_row_67 2 rfl (pc' := 69) rfl ?_
  refine S_bipush dX6_row_69 (v := 40) rfl (pc' := 71) rfl ?_
  refine S_icmp_ge dX6_row_71 90 rfl (pc' := 74) rfl (fun g71 => ?_) (fun g71 => ?_)
  · refine Sim.sub [] rfl ?_
    exact hK _
  · refine S_aload_n dX6_row_74 rfl 0 rfl (pc' := 75) rfl ?_
    refine S_getR fl_X6_21 rfl dX6_row_75 (pc' := 78) rfl (fun x75 => ?_)
    refine S_iload_n dX6_row_78 rfl 1 rfl (pc' := 79) rfl ?_
    refine S_aaloadQ dX6_row_79 (pc' := 80) rfl (fun x79 => ?_)
    refine S_iload dX6_row_80 2 rfl (pc' := 82) rfl ?_
    refine S_lconst dX6_row_82 (v := 0) rfl (pc' := 83) rfl ?_
    refine S_lastore dX6_row_83 (pc' := 84) rfl (fun h83 => ?_)
    refine S_iinc dX6_row_84 (q := 2) rfl (v := b4 + 1) rfl (by decide) (lo' := [(4, .int (b4 + 1)), (0, .ref (zb Z + a0)), (1, .int a1)]) rfl (pc' := 87) rfl ?_
    refine S_goto dX6_row_87 67 rfl ?_
    refine Sim.sub [1, 2, 0] rfl ?_
    exact hF _ _
theorem lq_X6_row_67 (Z : ZZ) (l : Launch) (a0 : Nat) (a1 : Int32) {args : Array Value} {h0 h1 : HP} {v0 : Int32} (K : HP → Option (Int32 × HP))
    (hK : ∀ (h : HP), Sim Z l cX6_row RX6 5 1 25 (some .int) "row" args (Mq Z args h0 h1 (some (.int v0))) h0 h1 v0 90 [] [] h (K h)) :
    ∀ (k : Nat) (b4 : Int32) (h : HP), Sim Z l cX6_row RX6 5 1 25 (some .int) "row" args (Mq Z args h0 h1 (some (.int v0))) h0 h1 v0 67 [(0, .ref (zb Z + a0)), (1, .int a1), (4, .int b4)] [] h (lp_X6_row_67 a0 a1 K k b4 h) := by
  intro k
  induction k with
  | zero => exact fun _ _ => Sim.none
  | succ k ih => exact lc_X6_row_67 Z l a0 a1 K _ hK ih
set_option maxRecDepth 100000 in
set_option maxHeartbeats 4000000 in
theorem c_X6_row (Z : ZZ) (l : Launch) (t : Nat) (a1 : Int32) (a2 : Int32) (a3 : Int32) (h : HP) {v : Int32} {h1 : HP} (ho : f_X6_row t a1 a2 a3 h = some (v, h1)) : MetP Z l yX6_row cX6_row 5 (some .int) 1 25 [.ref (zb Z + t), .int a1, .int a2, .int a3] h (some (.int v)) h1 := by
  refine MetP_of ho (by decide +kernel) (Nat.le_of_ble_eq_true rfl) [(0, .ref (zb Z + t)), (1, .int a1), (2, .int a2), (3, .int a3)] rfl (own := RX6) rfl (nm := "row") rfl ?_
  unfold f_X6_row
  refine S_iload_n dX6_row_0 rfl 1 rfl (pc' := 1) rfl ?_
  refine S_i2l dX6_row_1 (pc' := 2) rfl ?_
  refine S_lconst dX6_row_2 (v := 0) rfl (pc' := 3) rfl ?_
  refine S_ldc2 dX6_row_3 kc_X6_102 (pc' := 6) rfl ?_
  refine S_stai ml_X6_95 ms_X6_in dX6_row_6 [.long a1.toInt64, .long 0, .long 7] rfl (fun v h2 q => c_X6_in Z l _ _ _ _ q) ⟨Nat.le_of_ble_eq_true rfl, Nat.le_of_ble_eq_true rfl⟩ (rest := []) (Nat.le_of_ble_eq_true rfl) rfl (pc' := 9) rfl (fun x6 h6 => ?_)
  refine S_if_eq dX6_row_9 36 rfl (pc' := 12) rfl (fun g9 => ?_) (fun g9 => ?_)
  · refine S_aload_n dX6_row_36 rfl 0 rfl (pc' := 37) rfl ?_
    refine S_bipush dX6_row_37 (v := (-2)) rfl (pc' := 39) rfl ?_
    refine S_invi ml_X6_108 mi_X6_refuse (ci := 6) ⟨_, rfl, rfl⟩ (by decide) dX6_row_39 [.int (-2)] rfl (fun v h2 q => c_X6_refuse Z l _ _ _ q) ⟨Nat.le_of_ble_eq_true rfl, Nat.le_of_ble_eq_true rfl⟩ (rest := []) (Nat.le_of_ble_eq_true rfl) rfl (pc' := 42) rfl (fun x39 h39 => ?_)
    exact S_iret rfl dX6_row_42
  · refine S_iload_n dX6_row_12 rfl 2 rfl (pc' := 13) rfl ?_
    refine S_i2l dX6_row_13 (pc' := 14) rfl ?_
    refine S_lconst dX6_row_14 (v := 0) rfl (pc' := 15) rfl ?_
    refine S_ldc2 dX6_row_15 kc_X6_104 (pc' := 18) rfl ?_
    refine S_stai ml_X6_95 ms_X6_in dX6_row_18 [.long a2.toInt64, .long 0, .long 4] rfl (fun v h2 q => c_X6_in Z l _ _ _ _ q) ⟨Nat.le_of_ble_eq_true rfl, Nat.le_of_ble_eq_true rfl⟩ (rest := []) (Nat.le_of_ble_eq_true rfl) rfl (pc' := 21) rfl (fun x18 h18 => ?_)
    refine S_if_eq dX6_row_21 36 rfl (pc' := 24) rfl (fun g21 => ?_) (fun g21 => ?_)
    · refine S_aload_n dX6_row_36 rfl 0 rfl (pc' := 37) rfl ?_
      refine S_bipush dX6_row_37 (v := (-2)) rfl (pc' := 39) rfl ?_
      refine S_invi ml_X6_108 mi_X6_refuse (ci := 6) ⟨_, rfl, rfl⟩ (by decide) dX6_row_39 [.int (-2)] rfl (fun v h2 q => c_X6_refuse Z l _ _ _ q) ⟨Nat.le_of_ble_eq_true rfl, Nat.le_of_ble_eq_true rfl⟩ (rest := []) (Nat.le_of_ble_eq_true rfl) rfl (pc' := 42) rfl (fun x39 h39 => ?_)
      exact S_iret rfl dX6_row_42
    · refine S_iload_n dX6_row_24 rfl 3 rfl (pc' := 25) rfl ?_
      refine S_i2l dX6_row_25 (pc' := 26) rfl ?_
      refine S_lconst dX6_row_26 (v := 0) rfl (pc' := 27) rfl ?_
      refine S_ldc2 dX6_row_27 kc_X6_106 (pc' := 30) rfl ?_
      refine S_stai ml_X6_95 ms_X6_in dX6_row_30 [.long a3.toInt64, .long 0, .long 40] rfl (fun v h2 q => c_X6_in Z l _ _ _ _ q) ⟨Nat.le_of_ble_eq_true rfl, Nat.le_of_ble_eq_true rfl⟩ (rest := []) (Nat.le_of_ble_eq_true rfl) rfl (pc' := 33) rfl (fun x30 h30 => ?_)
      refine S_if_ne dX6_row_33 43 rfl (pc' := 36) rfl (fun g33 => ?_) (fun g33 => ?_)
      · refine S_aload_n dX6_row_43 rfl 0 rfl (pc' := 44) rfl ?_
        refine S_getR fl_X6_7 rfl dX6_row_44 (pc' := 47) rfl (fun x44 => ?_)
        refine S_iload_n dX6_row_47 rfl 1 rfl (pc' := 48) rfl ?_
        refine S_iconst dX6_row_48 (v := 1) rfl (pc' := 49) rfl ?_
        refine S_iastore dX6_row_49 (pc' := 50) rfl (fun h49 => ?_)
        refine S_aload_n dX6_row_50 rfl 0 rfl (pc' := 51) rfl ?_
        refine S_getR fl_X6_13 rfl dX6_row_51 (pc' := 54) rfl (fun x51 => ?_)
        refine S_iload_n dX6_row_54 rfl 1 rfl (pc' := 55) rfl ?_
        refine S_iload_n dX6_row_55 rfl 2 rfl (pc' := 56) rfl ?_
        refine S_iastore dX6_row_56 (pc' := 57) rfl (fun h56 => ?_)
        refine S_aload_n dX6_row_57 rfl 0 rfl (pc' := 58) rfl ?_
        refine S_getR fl_X6_16 rfl dX6_row_58 (pc' := 61) rfl (fun x58 => ?_)
        refine S_iload_n dX6_row_61 rfl 1 rfl (pc' := 62) rfl ?_
        refine S_iload_n dX6_row_62 rfl 3 rfl (pc' := 63) rfl ?_
        refine S_iastore dX6_row_63 (pc' := 64) rfl (fun h63 => ?_)
        refine S_iconst dX6_row_64 (v := 0) rfl (pc' := 65) rfl ?_
        refine S_istore dX6_row_65 (by decide) (lo' := [(4, .int 0), (0, .ref (zb Z + t)), (1, .int a1), (2, .int a2), (3, .int a3)]) rfl (pc' := 67) rfl ?_
        refine Sim.sub [1, 2, 0] rfl ?_
        refine lq_X6_row_67 Z l t a1 _ ?_ 1000 _ _
        intro h67_
        refine S_iconst dX6_row_90 (v := 1) rfl (pc' := 91) rfl ?_
        exact S_iret rfl dX6_row_91
      · refine S_aload_n dX6_row_36 rfl 0 rfl (pc' := 37) rfl ?_
        refine S_bipush dX6_row_37 (v := (-2)) rfl (pc' := 39) rfl ?_
        refine S_invi ml_X6_108 mi_X6_refuse (ci := 6) ⟨_, rfl, rfl⟩ (by decide) dX6_row_39 [.int (-2)] rfl (fun v h2 q => c_X6_refuse Z l _ _ _ q) ⟨Nat.le_of_ble_eq_true rfl, Nat.le_of_ble_eq_true rfl⟩ (rest := []) (Nat.le_of_ble_eq_true rfl) rfl (pc' := 42) rfl (fun x39 h39 => ?_)
        exact S_iret rfl dX6_row_42
theorem dX6_fit_0 : decode cX6_fit 0 = .ok (.iload_n 0, 1) := by decide +kernel
theorem dX6_fit_1 : decode cX6_fit 1 = .ok (.tableswitch 47 0 3 #[31, 36, 41, 45], 31) := by decide +kernel
theorem dX6_fit_32 : decode cX6_fit 32 = .ok (.lload_n 1, 1) := by decide +kernel
theorem dX6_fit_33 : decode cX6_fit 33 = .ok (.l2i, 1) := by decide +kernel
theorem dX6_fit_34 : decode cX6_fit 34 = .ok (.i2b, 1) := by decide +kernel
theorem dX6_fit_35 : decode cX6_fit 35 = .ok (.i2l, 1) := by decide +kernel
theorem dX6_fit_36 : decode cX6_fit 36 = .ok (.lreturn, 1) := by decide +kernel
theorem dX6_fit_37 : decode cX6_fit 37 = .ok (.lload_n 1, 1) := by decide +kernel
theorem dX6_fit_38 : decode cX6_fit 38 = .ok (.l2i, 1) := by decide +kernel
theorem dX6_fit_39 : decode cX6_fit 39 = .ok (.i2s, 1) := by decide +kernel
theorem dX6_fit_40 : decode cX6_fit 40 = .ok (.i2l, 1) := by decide +kernel
theorem dX6_fit_41 : decode cX6_fit 41 = .ok (.lreturn, 1) := by decide +kernel
theorem dX6_fit_42 : decode cX6_fit 42 = .ok (.lload_n 1, 1) := by decide +kernel
theorem dX6_fit_43 : decode cX6_fit 43 = .ok (.l2i, 1) := by decide +kernel
theorem dX6_fit_44 : decode cX6_fit 44 = .ok (.i2l, 1) := by decide +kernel
theorem dX6_fit_45 : decode cX6_fit 45 = .ok (.lreturn, 1) := by decide +kernel
theorem dX6_fit_46 : decode cX6_fit 46 = .ok (.lload_n 1, 1) := by decide +kernel
theorem dX6_fit_47 : decode cX6_fit 47 = .ok (.lreturn, 1) := by decide +kernel
theorem dX6_fit_48 : decode cX6_fit 48 = .ok (.lload_n 1, 1) := by decide +kernel
theorem dX6_fit_49 : decode cX6_fit 49 = .ok (.lconst 0, 1) := by decide +kernel
theorem dX6_fit_50 : decode cX6_fit 50 = .ok (.lcmp, 1) := by decide +kernel
theorem dX6_fit_51 : decode cX6_fit 51 = .ok (.ifCond .eq 7, 3) := by decide +kernel
theorem dX6_fit_54 : decode cX6_fit 54 = .ok (.lconst 1, 1) := by decide +kernel
theorem dX6_fit_55 : decode cX6_fit 55 = .ok (.goto 4, 3) := by decide +kernel
theorem dX6_fit_58 : decode cX6_fit 58 = .ok (.lconst 0, 1) := by decide +kernel
theorem dX6_fit_59 : decode cX6_fit 59 = .ok (.lreturn, 1) := by decide +kernel
set_option maxRecDepth 100000 in
set_option maxHeartbeats 4000000 in
theorem c_X6_fit (Z : ZZ) (l : Launch) (a0 : Int32) (a1 : Int64) (h : HP) {v : Int64} {h1 : HP} (ho : f_X6_fit a0 a1 h = some (v, h1)) : MetP Z l yX6_fit cX6_fit 3 (some .long) 0 0 [.int a0, .long a1] h (some (.long v)) h1 := by
  refine MetP_of ho (by decide +kernel) (Nat.le_of_ble_eq_true rfl) [(0, .int a0), (1, .long a1)] rfl (own := RX6) rfl (nm := "fit") rfl ?_
  unfold f_X6_fit
  refine S_iload_n dX6_fit_0 rfl 0 rfl (pc' := 1) rfl ?_
  refine Sim.ite (fun g1_0 => ?_) (fun g1_0 => ?_)
  · refine S_tabIn dX6_fit_1 g1_0 0 rfl (by decide) (off := 31) rfl 32 rfl ?_
    refine S_lload_n dX6_fit_32 rfl 1 rfl (pc' := 33) rfl ?_
    refine S_l2i dX6_fit_33 (pc' := 34) rfl ?_
    refine S_i2b dX6_fit_34 (pc' := 35) rfl ?_
    refine S_i2l dX6_fit_35 (pc' := 36) rfl ?_
    exact S_lret rfl dX6_fit_36
  refine Sim.ite (fun g1_1 => ?_) (fun g1_1 => ?_)
  · refine S_tabIn dX6_fit_1 g1_1 1 rfl (by decide) (off := 36) rfl 37 rfl ?_
    refine S_lload_n dX6_fit_37 rfl 1 rfl (pc' := 38) rfl ?_
    refine S_l2i dX6_fit_38 (pc' := 39) rfl ?_
    refine S_i2s dX6_fit_39 (pc' := 40) rfl ?_
    refine S_i2l dX6_fit_40 (pc' := 41) rfl ?_
    exact S_lret rfl dX6_fit_41
  refine Sim.ite (fun g1_2 => ?_) (fun g1_2 => ?_)
  · refine S_tabIn dX6_fit_1 g1_2 2 rfl (by decide) (off := 41) rfl 42 rfl ?_
    refine S_lload_n dX6_fit_42 rfl 1 rfl (pc' := 43) rfl ?_
    refine S_l2i dX6_fit_43 (pc' := 44) rfl ?_
    refine S_i2l dX6_fit_44 (pc' := 45) rfl ?_
    exact S_lret rfl dX6_fit_45
  refine Sim.ite (fun g1_3 => ?_) (fun g1_3 => ?_)
  · refine S_tabIn dX6_fit_1 g1_3 3 rfl (by decide) (off := 45) rfl 46 rfl ?_
    refine S_lload_n dX6_fit_46 rfl 1 rfl (pc' := 47) rfl ?_
    exact S_lret rfl dX6_fit_47
  refine S_tabOut dX6_fit_1 (by
      have q0 := i32_ne g1_0
      have q1 := i32_ne g1_1
      have q2 := i32_ne g1_2
      have q3 := i32_ne g1_3
      simp only [show Int32.toInt 0 = 0 from rfl, show Int32.toInt 1 = 1 from rfl, show Int32.toInt 2 = 2 from rfl, show Int32.toInt 3 = 3 from rfl] at q0 q1 q2 q3
      omega) 48 rfl ?_
  refine S_lload_n dX6_fit_48 rfl 1 rfl (pc' := 49) rfl ?_
  refine S_lconst dX6_fit_49 (v := 0) rfl (pc' := 50) rfl ?_
  refine S_lcmp dX6_fit_50 (pc' := 51) rfl ?_
  refine S_if_eq dX6_fit_51 58 rfl (pc' := 54) rfl (fun g51 => ?_) (fun g51 => ?_)
  · refine S_lconst dX6_fit_58 (v := 0) rfl (pc' := 59) rfl ?_
    exact S_lret rfl dX6_fit_59
  · refine S_lconst dX6_fit_54 (v := 1) rfl (pc' := 55) rfl ?_
    refine S_goto dX6_fit_55 59 rfl ?_
    exact S_lret rfl dX6_fit_59
theorem dX6_noRow_0 : decode cX6_noRow 0 = .ok (.iload_n 1, 1) := by decide +kernel
theorem dX6_noRow_1 : decode cX6_noRow 1 = .ok (.i2l, 1) := by decide +kernel
theorem dX6_noRow_2 : decode cX6_noRow 2 = .ok (.lconst 0, 1) := by decide +kernel
theorem dX6_noRow_3 : decode cX6_noRow 3 = .ok (.ldc2_w 102, 3) := by decide +kernel
theorem dX6_noRow_6 : decode cX6_noRow 6 = .ok (.invokestatic 95, 3) := by decide +kernel
theorem dX6_noRow_9 : decode cX6_noRow 9 = .ok (.ifCond .ne 10, 3) := by decide +kernel
theorem dX6_noRow_12 : decode cX6_noRow 12 = .ok (.aload_n 0, 1) := by decide +kernel
theorem dX6_noRow_13 : decode cX6_noRow 13 = .ok (.bipush (-2), 2) := by decide +kernel
theorem dX6_noRow_15 : decode cX6_noRow 15 = .ok (.invokevirtual 108, 3) := by decide +kernel
theorem dX6_noRow_18 : decode cX6_noRow 18 = .ok (.ireturn, 1) := by decide +kernel
theorem dX6_noRow_19 : decode cX6_noRow 19 = .ok (.aload_n 0, 1) := by decide +kernel
theorem dX6_noRow_20 : decode cX6_noRow 20 = .ok (.getfield 7, 3) := by decide +kernel
theorem dX6_noRow_23 : decode cX6_noRow 23 = .ok (.iload_n 1, 1) := by decide +kernel
theorem dX6_noRow_24 : decode cX6_noRow 24 = .ok (.iaload, 1) := by decide +kernel
theorem dX6_noRow_25 : decode cX6_noRow 25 = .ok (.iconst 2, 1) := by decide +kernel
theorem dX6_noRow_26 : decode cX6_noRow 26 = .ok (.if_icmp .ne 10, 3) := by decide +kernel
theorem dX6_noRow_29 : decode cX6_noRow 29 = .ok (.aload_n 0, 1) := by decide +kernel
theorem dX6_noRow_30 : decode cX6_noRow 30 = .ok (.bipush (-3), 2) := by decide +kernel
theorem dX6_noRow_32 : decode cX6_noRow 32 = .ok (.invokevirtual 108, 3) := by decide +kernel
theorem dX6_noRow_35 : decode cX6_noRow 35 = .ok (.ireturn, 1) := by decide +kernel
theorem dX6_noRow_36 : decode cX6_noRow 36 = .ok (.aload_n 0, 1) := by decide +kernel
theorem dX6_noRow_37 : decode cX6_noRow 37 = .ok (.getfield 7, 3) := by decide +kernel
theorem dX6_noRow_40 : decode cX6_noRow 40 = .ok (.iload_n 1, 1) := by decide +kernel
theorem dX6_noRow_41 : decode cX6_noRow 41 = .ok (.iaload, 1) := by decide +kernel
theorem dX6_noRow_42 : decode cX6_noRow 42 = .ok (.ifCond .ne 12, 3) := by decide +kernel
theorem dX6_noRow_45 : decode cX6_noRow 45 = .ok (.aload_n 0, 1) := by decide +kernel
theorem dX6_noRow_46 : decode cX6_noRow 46 = .ok (.bipush (-4), 2) := by decide +kernel
theorem dX6_noRow_48 : decode cX6_noRow 48 = .ok (.invokevirtual 108, 3) := by decide +kernel
theorem dX6_noRow_51 : decode cX6_noRow 51 = .ok (.goto 4, 3) := by decide +kernel
theorem dX6_noRow_54 : decode cX6_noRow 54 = .ok (.iconst 0, 1) := by decide +kernel
theorem dX6_noRow_55 : decode cX6_noRow 55 = .ok (.ireturn, 1) := by decide +kernel
set_option maxRecDepth 100000 in
set_option maxHeartbeats 4000000 in
theorem c_X6_noRow (Z : ZZ) (l : Launch) (t : Nat) (a1 : Int32) (h : HP) {v : Int32} {h1 : HP} (ho : f_X6_noRow t a1 h = some (v, h1)) : MetP Z l yX6_noRow cX6_noRow 2 (some .int) 1 25 [.ref (zb Z + t), .int a1] h (some (.int v)) h1 := by
  refine MetP_of ho (by decide +kernel) (Nat.le_of_ble_eq_true rfl) [(0, .ref (zb Z + t)), (1, .int a1)] rfl (own := RX6) rfl (nm := "noRow") rfl ?_
  unfold f_X6_noRow
  refine S_iload_n dX6_noRow_0 rfl 1 rfl (pc' := 1) rfl ?_
  refine S_i2l dX6_noRow_1 (pc' := 2) rfl ?_
  refine S_lconst dX6_noRow_2 (v := 0) rfl (pc' := 3) rfl ?_
  refine S_ldc2 dX6_noRow_3 kc_X6_102 (pc' := 6) rfl ?_
  refine S_stai ml_X6_95 ms_X6_in dX6_noRow_6 [.long a1.toInt64, .long 0, .long 7] rfl (fun v h2 q => c_X6_in Z l _ _ _ _ q) ⟨Nat.le_of_ble_eq_true rfl, Nat.le_of_ble_eq_true rfl⟩ (rest := []) (Nat.le_of_ble_eq_true rfl) rfl (pc' := 9) rfl (fun x6 h6 => ?_)
  refine S_if_ne dX6_noRow_9 19 rfl (pc' := 12) rfl (fun g9 => ?_) (fun g9 => ?_)
  · refine S_aload_n dX6_noRow_19 rfl 0 rfl (pc' := 20) rfl ?_
    refine S_getR fl_X6_7 rfl dX6_noRow_20 (pc' := 23) rfl (fun x20 => ?_)
    refine S_iload_n dX6_noRow_23 rfl 1 rfl (pc' := 24) rfl ?_
    refine S_iaload dX6_noRow_24 (pc' := 25) rfl (fun x24 => ?_)
    refine S_iconst dX6_noRow_25 (v := 2) rfl (pc' := 26) rfl ?_
    refine S_icmp_ne dX6_noRow_26 36 rfl (pc' := 29) rfl (fun g26 => ?_) (fun g26 => ?_)
    · refine S_aload_n dX6_noRow_36 rfl 0 rfl (pc' := 37) rfl ?_
      refine S_getR fl_X6_7 rfl dX6_noRow_37 (pc' := 40) rfl (fun x37 => ?_)
      refine S_iload_n dX6_noRow_40 rfl 1 rfl (pc' := 41) rfl ?_
      refine S_iaload dX6_noRow_41 (pc' := 42) rfl (fun x41 => ?_)
      refine S_if_ne dX6_noRow_42 54 rfl (pc' := 45) rfl (fun g42 => ?_) (fun g42 => ?_)
      · refine S_iconst dX6_noRow_54 (v := 0) rfl (pc' := 55) rfl ?_
        exact S_iret rfl dX6_noRow_55
      · refine S_aload_n dX6_noRow_45 rfl 0 rfl (pc' := 46) rfl ?_
        refine S_bipush dX6_noRow_46 (v := (-4)) rfl (pc' := 48) rfl ?_
        refine S_invi ml_X6_108 mi_X6_refuse (ci := 6) ⟨_, rfl, rfl⟩ (by decide) dX6_noRow_48 [.int (-4)] rfl (fun v h2 q => c_X6_refuse Z l _ _ _ q) ⟨Nat.le_of_ble_eq_true rfl, Nat.le_of_ble_eq_true rfl⟩ (rest := []) (Nat.le_of_ble_eq_true rfl) rfl (pc' := 51) rfl (fun x48 h48 => ?_)
        refine S_goto dX6_noRow_51 55 rfl ?_
        exact S_iret rfl dX6_noRow_55
    · refine S_aload_n dX6_noRow_29 rfl 0 rfl (pc' := 30) rfl ?_
      refine S_bipush dX6_noRow_30 (v := (-3)) rfl (pc' := 32) rfl ?_
      refine S_invi ml_X6_108 mi_X6_refuse (ci := 6) ⟨_, rfl, rfl⟩ (by decide) dX6_noRow_32 [.int (-3)] rfl (fun v h2 q => c_X6_refuse Z l _ _ _ q) ⟨Nat.le_of_ble_eq_true rfl, Nat.le_of_ble_eq_true rfl⟩ (rest := []) (Nat.le_of_ble_eq_true rfl) rfl (pc' := 35) rfl (fun x32 h32 => ?_)
      exact S_iret rfl dX6_noRow_35
  · refine S_aload_n dX6_noRow_12 rfl 0 rfl (pc' := 13) rfl ?_
    refine S_bipush dX6_noRow_13 (v := (-2)) rfl (pc' := 15) rfl ?_
    refine S_invi ml_X6_108 mi_X6_refuse (ci := 6) ⟨_, rfl, rfl⟩ (by decide) dX6_noRow_15 [.int (-2)] rfl (fun v h2 q => c_X6_refuse Z l _ _ _ q) ⟨Nat.le_of_ble_eq_true rfl, Nat.le_of_ble_eq_true rfl⟩ (rest := []) (Nat.le_of_ble_eq_true rfl) rfl (pc' := 18) rfl (fun x15 h15 => ?_)
    exact S_iret rfl dX6_noRow_18
theorem dX6_set_0 : decode cX6_set 0 = .ok (.aload_n 0, 1) := by decide +kernel
theorem dX6_set_1 : decode cX6_set 1 = .ok (.iload_n 1, 1) := by decide +kernel
theorem dX6_set_2 : decode cX6_set 2 = .ok (.invokevirtual 112, 3) := by decide +kernel
theorem dX6_set_5 : decode cX6_set 5 = .ok (.istore 5, 2) := by decide +kernel
theorem dX6_set_7 : decode cX6_set 7 = .ok (.iload 5, 2) := by decide +kernel
theorem dX6_set_9 : decode cX6_set 9 = .ok (.ifCond .eq 6, 3) := by decide +kernel
theorem dX6_set_12 : decode cX6_set 12 = .ok (.iload 5, 2) := by decide +kernel
theorem dX6_set_14 : decode cX6_set 14 = .ok (.ireturn, 1) := by decide +kernel
theorem dX6_set_15 : decode cX6_set 15 = .ok (.iload_n 2, 1) := by decide +kernel
theorem dX6_set_16 : decode cX6_set 16 = .ok (.i2l, 1) := by decide +kernel
theorem dX6_set_17 : decode cX6_set 17 = .ok (.lconst 0, 1) := by decide +kernel
theorem dX6_set_18 : decode cX6_set 18 = .ok (.aload_n 0, 1) := by decide +kernel
theorem dX6_set_19 : decode cX6_set 19 = .ok (.getfield 16, 3) := by decide +kernel
theorem dX6_set_22 : decode cX6_set 22 = .ok (.iload_n 1, 1) := by decide +kernel
theorem dX6_set_23 : decode cX6_set 23 = .ok (.iaload, 1) := by decide +kernel
theorem dX6_set_24 : decode cX6_set 24 = .ok (.iconst 1, 1) := by decide +kernel
theorem dX6_set_25 : decode cX6_set 25 = .ok (.isub, 1) := by decide +kernel
theorem dX6_set_26 : decode cX6_set 26 = .ok (.i2l, 1) := by decide +kernel
theorem dX6_set_27 : decode cX6_set 27 = .ok (.invokestatic 95, 3) := by decide +kernel
theorem dX6_set_30 : decode cX6_set 30 = .ok (.ifCond .ne 10, 3) := by decide +kernel
theorem dX6_set_33 : decode cX6_set 33 = .ok (.aload_n 0, 1) := by decide +kernel
theorem dX6_set_34 : decode cX6_set 34 = .ok (.bipush (-2), 2) := by decide +kernel
theorem dX6_set_36 : decode cX6_set 36 = .ok (.invokevirtual 108, 3) := by decide +kernel
theorem dX6_set_39 : decode cX6_set 39 = .ok (.ireturn, 1) := by decide +kernel
theorem dX6_set_40 : decode cX6_set 40 = .ok (.aload_n 0, 1) := by decide +kernel
theorem dX6_set_41 : decode cX6_set 41 = .ok (.getfield 21, 3) := by decide +kernel
theorem dX6_set_44 : decode cX6_set 44 = .ok (.iload_n 1, 1) := by decide +kernel
theorem dX6_set_45 : decode cX6_set 45 = .ok (.aaload, 1) := by decide +kernel
theorem dX6_set_46 : decode cX6_set 46 = .ok (.iload_n 2, 1) := by decide +kernel
theorem dX6_set_47 : decode cX6_set 47 = .ok (.aload_n 0, 1) := by decide +kernel
theorem dX6_set_48 : decode cX6_set 48 = .ok (.getfield 13, 3) := by decide +kernel
theorem dX6_set_51 : decode cX6_set 51 = .ok (.iload_n 1, 1) := by decide +kernel
theorem dX6_set_52 : decode cX6_set 52 = .ok (.iaload, 1) := by decide +kernel
theorem dX6_set_53 : decode cX6_set 53 = .ok (.lload_n 3, 1) := by decide +kernel
theorem dX6_set_54 : decode cX6_set 54 = .ok (.invokestatic 115, 3) := by decide +kernel
theorem dX6_set_57 : decode cX6_set 57 = .ok (.lastore, 1) := by decide +kernel
theorem dX6_set_58 : decode cX6_set 58 = .ok (.iconst 1, 1) := by decide +kernel
theorem dX6_set_59 : decode cX6_set 59 = .ok (.ireturn, 1) := by decide +kernel
set_option maxRecDepth 100000 in
set_option maxHeartbeats 4000000 in
theorem c_X6_set (Z : ZZ) (l : Launch) (t : Nat) (a1 : Int32) (a2 : Int32) (a3 : Int64) (h : HP) {v : Int32} {h1 : HP} (ho : f_X6_set t a1 a2 a3 h = some (v, h1)) : MetP Z l yX6_set cX6_set 6 (some .int) 2 46 [.ref (zb Z + t), .int a1, .int a2, .long a3] h (some (.int v)) h1 := by
  refine MetP_of ho (by decide +kernel) (Nat.le_of_ble_eq_true rfl) [(0, .ref (zb Z + t)), (1, .int a1), (2, .int a2), (3, .long a3)] rfl (own := RX6) rfl (nm := "set") rfl ?_
  unfold f_X6_set
  refine S_aload_n dX6_set_0 rfl 0 rfl (pc' := 1) rfl ?_
  refine S_iload_n dX6_set_1 rfl 1 rfl (pc' := 2) rfl ?_
  refine S_invi ml_X6_112 mi_X6_noRow (ci := 6) ⟨_, rfl, rfl⟩ (by decide) dX6_set_2 [.int a1] rfl (fun v h2 q => c_X6_noRow Z l _ _ _ q) ⟨Nat.le_of_ble_eq_true rfl, Nat.le_of_ble_eq_true rfl⟩ (rest := []) (Nat.le_of_ble_eq_true rfl) rfl (pc' := 5) rfl (fun x2 h2 => ?_)
  refine S_istore dX6_set_5 (by decide) (lo' := [(5, .int x2), (0, .ref (zb Z + t)), (1, .int a1), (2, .int a2), (3, .long a3)]) rfl (pc' := 7) rfl ?_
  refine S_iload dX6_set_7 0 rfl (pc' := 9) rfl ?_
  refine S_if_eq dX6_set_9 15 rfl (pc' := 12) rfl (fun g9 => ?_) (fun g9 => ?_)
  · refine S_iload_n dX6_set_15 rfl 3 rfl (pc' := 16) rfl ?_
    refine S_i2l dX6_set_16 (pc' := 17) rfl ?_
    refine S_lconst dX6_set_17 (v := 0) rfl (pc' := 18) rfl ?_
    refine S_aload_n dX6_set_18 rfl 1 rfl (pc' := 19) rfl ?_
    refine S_getR fl_X6_16 rfl dX6_set_19 (pc' := 22) rfl (fun x19 => ?_)
    refine S_iload_n dX6_set_22 rfl 2 rfl (pc' := 23) rfl ?_
    refine S_iaload dX6_set_23 (pc' := 24) rfl (fun x23 => ?_)
    refine S_iconst dX6_set_24 (v := 1) rfl (pc' := 25) rfl ?_
    refine S_isub dX6_set_25 (pc' := 26) rfl ?_
    refine S_i2l dX6_set_26 (pc' := 27) rfl ?_
    refine S_stai ml_X6_95 ms_X6_in dX6_set_27 [.long a2.toInt64, .long 0, .long ((x23 - 1).toInt64)] rfl (fun v h2 q => c_X6_in Z l _ _ _ _ q) ⟨Nat.le_of_ble_eq_true rfl, Nat.le_of_ble_eq_true rfl⟩ (rest := []) (Nat.le_of_ble_eq_true rfl) rfl (pc' := 30) rfl (fun x27 h27 => ?_)
    refine S_if_ne dX6_set_30 40 rfl (pc' := 33) rfl (fun g30 => ?_) (fun g30 => ?_)
    · refine S_aload_n dX6_set_40 rfl 1 rfl (pc' := 41) rfl ?_
      refine S_getR fl_X6_21 rfl dX6_set_41 (pc' := 44) rfl (fun x41 => ?_)
      refine S_iload_n dX6_set_44 rfl 2 rfl (pc' := 45) rfl ?_
      refine S_aaloadQ dX6_set_45 (pc' := 46) rfl (fun x45 => ?_)
      refine S_iload_n dX6_set_46 rfl 3 rfl (pc' := 47) rfl ?_
      refine S_aload_n dX6_set_47 rfl 1 rfl (pc' := 48) rfl ?_
      refine S_getR fl_X6_13 rfl dX6_set_48 (pc' := 51) rfl (fun x48 => ?_)
      refine S_iload_n dX6_set_51 rfl 2 rfl (pc' := 52) rfl ?_
      refine S_iaload dX6_set_52 (pc' := 53) rfl (fun x52 => ?_)
      refine S_lload_n dX6_set_53 rfl 4 rfl (pc' := 54) rfl ?_
      refine S_stal ml_X6_115 ms_X6_fit dX6_set_54 [.int x52, .long a3] rfl (fun v h2 q => c_X6_fit Z l _ _ _ q) ⟨Nat.le_of_ble_eq_true rfl, Nat.le_of_ble_eq_true rfl⟩ (rest := [.int a2, .ref (zb Z + x45)]) (Nat.le_of_ble_eq_true rfl) rfl (pc' := 57) rfl (fun x54 h54 => ?_)
      refine S_lastore dX6_set_57 (pc' := 58) rfl (fun h57 => ?_)
      refine S_iconst dX6_set_58 (v := 1) rfl (pc' := 59) rfl ?_
      exact S_iret rfl dX6_set_59
    · refine S_aload_n dX6_set_33 rfl 1 rfl (pc' := 34) rfl ?_
      refine S_bipush dX6_set_34 (v := (-2)) rfl (pc' := 36) rfl ?_
      refine S_invi ml_X6_108 mi_X6_refuse (ci := 6) ⟨_, rfl, rfl⟩ (by decide) dX6_set_36 [.int (-2)] rfl (fun v h2 q => c_X6_refuse Z l _ _ _ q) ⟨Nat.le_of_ble_eq_true rfl, Nat.le_of_ble_eq_true rfl⟩ (rest := []) (Nat.le_of_ble_eq_true rfl) rfl (pc' := 39) rfl (fun x36 h36 => ?_)
      exact S_iret rfl dX6_set_39
  · refine S_iload dX6_set_12 0 rfl (pc' := 14) rfl ?_
    exact S_iret rfl dX6_set_14
theorem dX6_copy_0 : decode cX6_copy 0 = .ok (.iload_n 1, 1) := by decide +kernel
theorem dX6_copy_1 : decode cX6_copy 1 = .ok (.i2l, 1) := by decide +kernel
theorem dX6_copy_2 : decode cX6_copy 2 = .ok (.lconst 0, 1) := by decide +kernel
theorem dX6_copy_3 : decode cX6_copy 3 = .ok (.ldc2_w 102, 3) := by decide +kernel
theorem dX6_copy_6 : decode cX6_copy 6 = .ok (.invokestatic 95, 3) := by decide +kernel
theorem dX6_copy_9 : decode cX6_copy 9 = .ok (.ifCond .eq 15, 3) := by decide +kernel
theorem dX6_copy_12 : decode cX6_copy 12 = .ok (.iload_n 2, 1) := by decide +kernel
theorem dX6_copy_13 : decode cX6_copy 13 = .ok (.i2l, 1) := by decide +kernel
theorem dX6_copy_14 : decode cX6_copy 14 = .ok (.lconst 0, 1) := by decide +kernel
theorem dX6_copy_15 : decode cX6_copy 15 = .ok (.ldc2_w 102, 3) := by decide +kernel
theorem dX6_copy_18 : decode cX6_copy 18 = .ok (.invokestatic 95, 3) := by decide +kernel
theorem dX6_copy_21 : decode cX6_copy 21 = .ok (.ifCond .ne 10, 3) := by decide +kernel
theorem dX6_copy_24 : decode cX6_copy 24 = .ok (.aload_n 0, 1) := by decide +kernel
theorem dX6_copy_25 : decode cX6_copy 25 = .ok (.bipush (-2), 2) := by decide +kernel
theorem dX6_copy_27 : decode cX6_copy 27 = .ok (.invokevirtual 108, 3) := by decide +kernel
theorem dX6_copy_30 : decode cX6_copy 30 = .ok (.ireturn, 1) := by decide +kernel
theorem dX6_copy_31 : decode cX6_copy 31 = .ok (.aload_n 0, 1) := by decide +kernel
theorem dX6_copy_32 : decode cX6_copy 32 = .ok (.getfield 7, 3) := by decide +kernel
theorem dX6_copy_35 : decode cX6_copy 35 = .ok (.iload_n 1, 1) := by decide +kernel
theorem dX6_copy_36 : decode cX6_copy 36 = .ok (.iaload, 1) := by decide +kernel
theorem dX6_copy_37 : decode cX6_copy 37 = .ok (.iconst 2, 1) := by decide +kernel
theorem dX6_copy_38 : decode cX6_copy 38 = .ok (.if_icmp .eq 48, 3) := by decide +kernel
theorem dX6_copy_41 : decode cX6_copy 41 = .ok (.aload_n 0, 1) := by decide +kernel
theorem dX6_copy_42 : decode cX6_copy 42 = .ok (.getfield 7, 3) := by decide +kernel
theorem dX6_copy_45 : decode cX6_copy 45 = .ok (.iload_n 2, 1) := by decide +kernel
theorem dX6_copy_46 : decode cX6_copy 46 = .ok (.iaload, 1) := by decide +kernel
theorem dX6_copy_47 : decode cX6_copy 47 = .ok (.iconst 2, 1) := by decide +kernel
theorem dX6_copy_48 : decode cX6_copy 48 = .ok (.if_icmp .eq 38, 3) := by decide +kernel
theorem dX6_copy_51 : decode cX6_copy 51 = .ok (.aload_n 0, 1) := by decide +kernel
theorem dX6_copy_52 : decode cX6_copy 52 = .ok (.getfield 7, 3) := by decide +kernel
theorem dX6_copy_55 : decode cX6_copy 55 = .ok (.iload_n 1, 1) := by decide +kernel
theorem dX6_copy_56 : decode cX6_copy 56 = .ok (.iaload, 1) := by decide +kernel
theorem dX6_copy_57 : decode cX6_copy 57 = .ok (.iconst 1, 1) := by decide +kernel
theorem dX6_copy_58 : decode cX6_copy 58 = .ok (.if_icmp .ne 35, 3) := by decide +kernel
theorem dX6_copy_61 : decode cX6_copy 61 = .ok (.aload_n 0, 1) := by decide +kernel
theorem dX6_copy_62 : decode cX6_copy 62 = .ok (.getfield 7, 3) := by decide +kernel
theorem dX6_copy_65 : decode cX6_copy 65 = .ok (.iload_n 2, 1) := by decide +kernel
theorem dX6_copy_66 : decode cX6_copy 66 = .ok (.iaload, 1) := by decide +kernel
theorem dX6_copy_67 : decode cX6_copy 67 = .ok (.iconst 1, 1) := by decide +kernel
theorem dX6_copy_68 : decode cX6_copy 68 = .ok (.if_icmp .ne 25, 3) := by decide +kernel
theorem dX6_copy_71 : decode cX6_copy 71 = .ok (.aload_n 0, 1) := by decide +kernel
theorem dX6_copy_72 : decode cX6_copy 72 = .ok (.getfield 13, 3) := by decide +kernel
theorem dX6_copy_75 : decode cX6_copy 75 = .ok (.iload_n 1, 1) := by decide +kernel
theorem dX6_copy_76 : decode cX6_copy 76 = .ok (.iaload, 1) := by decide +kernel
theorem dX6_copy_77 : decode cX6_copy 77 = .ok (.aload_n 0, 1) := by decide +kernel
theorem dX6_copy_78 : decode cX6_copy 78 = .ok (.getfield 13, 3) := by decide +kernel
theorem dX6_copy_81 : decode cX6_copy 81 = .ok (.iload_n 2, 1) := by decide +kernel
theorem dX6_copy_82 : decode cX6_copy 82 = .ok (.iaload, 1) := by decide +kernel
theorem dX6_copy_83 : decode cX6_copy 83 = .ok (.if_icmp .eq 10, 3) := by decide +kernel
theorem dX6_copy_86 : decode cX6_copy 86 = .ok (.aload_n 0, 1) := by decide +kernel
theorem dX6_copy_87 : decode cX6_copy 87 = .ok (.bipush (-3), 2) := by decide +kernel
theorem dX6_copy_89 : decode cX6_copy 89 = .ok (.invokevirtual 108, 3) := by decide +kernel
theorem dX6_copy_92 : decode cX6_copy 92 = .ok (.ireturn, 1) := by decide +kernel
theorem dX6_copy_93 : decode cX6_copy 93 = .ok (.aload_n 0, 1) := by decide +kernel
theorem dX6_copy_94 : decode cX6_copy 94 = .ok (.getfield 7, 3) := by decide +kernel
theorem dX6_copy_97 : decode cX6_copy 97 = .ok (.iload_n 1, 1) := by decide +kernel
theorem dX6_copy_98 : decode cX6_copy 98 = .ok (.iaload, 1) := by decide +kernel
theorem dX6_copy_99 : decode cX6_copy 99 = .ok (.ifCond .eq 12, 3) := by decide +kernel
theorem dX6_copy_102 : decode cX6_copy 102 = .ok (.aload_n 0, 1) := by decide +kernel
theorem dX6_copy_103 : decode cX6_copy 103 = .ok (.getfield 7, 3) := by decide +kernel
theorem dX6_copy_106 : decode cX6_copy 106 = .ok (.iload_n 2, 1) := by decide +kernel
theorem dX6_copy_107 : decode cX6_copy 107 = .ok (.iaload, 1) := by decide +kernel
theorem dX6_copy_108 : decode cX6_copy 108 = .ok (.ifCond .ne 10, 3) := by decide +kernel
theorem dX6_copy_111 : decode cX6_copy 111 = .ok (.aload_n 0, 1) := by decide +kernel
theorem dX6_copy_112 : decode cX6_copy 112 = .ok (.bipush (-4), 2) := by decide +kernel
theorem dX6_copy_114 : decode cX6_copy 114 = .ok (.invokevirtual 108, 3) := by decide +kernel
theorem dX6_copy_117 : decode cX6_copy 117 = .ok (.ireturn, 1) := by decide +kernel
theorem dX6_copy_118 : decode cX6_copy 118 = .ok (.iload 5, 2) := by decide +kernel
theorem dX6_copy_120 : decode cX6_copy 120 = .ok (.ifCond .lt 61, 3) := by decide +kernel
theorem dX6_copy_123 : decode cX6_copy 123 = .ok (.iload_n 3, 1) := by decide +kernel
theorem dX6_copy_124 : decode cX6_copy 124 = .ok (.ifCond .lt 57, 3) := by decide +kernel
theorem dX6_copy_127 : decode cX6_copy 127 = .ok (.iload 4, 2) := by decide +kernel
theorem dX6_copy_129 : decode cX6_copy 129 = .ok (.ifCond .lt 52, 3) := by decide +kernel
theorem dX6_copy_132 : decode cX6_copy 132 = .ok (.iload 5, 2) := by decide +kernel
theorem dX6_copy_134 : decode cX6_copy 134 = .ok (.aload_n 0, 1) := by decide +kernel
theorem dX6_copy_135 : decode cX6_copy 135 = .ok (.getfield 16, 3) := by decide +kernel
theorem dX6_copy_138 : decode cX6_copy 138 = .ok (.iload_n 1, 1) := by decide +kernel
theorem dX6_copy_139 : decode cX6_copy 139 = .ok (.iaload, 1) := by decide +kernel
theorem dX6_copy_140 : decode cX6_copy 140 = .ok (.if_icmp .gt 41, 3) := by decide +kernel
theorem dX6_copy_143 : decode cX6_copy 143 = .ok (.iload 5, 2) := by decide +kernel
theorem dX6_copy_145 : decode cX6_copy 145 = .ok (.aload_n 0, 1) := by decide +kernel
theorem dX6_copy_146 : decode cX6_copy 146 = .ok (.getfield 16, 3) := by decide +kernel
theorem dX6_copy_149 : decode cX6_copy 149 = .ok (.iload_n 2, 1) := by decide +kernel
theorem dX6_copy_150 : decode cX6_copy 150 = .ok (.iaload, 1) := by decide +kernel
theorem dX6_copy_151 : decode cX6_copy 151 = .ok (.if_icmp .gt 30, 3) := by decide +kernel
theorem dX6_copy_154 : decode cX6_copy 154 = .ok (.iload_n 3, 1) := by decide +kernel
theorem dX6_copy_155 : decode cX6_copy 155 = .ok (.aload_n 0, 1) := by decide +kernel
theorem dX6_copy_156 : decode cX6_copy 156 = .ok (.getfield 16, 3) := by decide +kernel
theorem dX6_copy_159 : decode cX6_copy 159 = .ok (.iload_n 1, 1) := by decide +kernel
theorem dX6_copy_160 : decode cX6_copy 160 = .ok (.iaload, 1) := by decide +kernel
theorem dX6_copy_161 : decode cX6_copy 161 = .ok (.iload 5, 2) := by decide +kernel
theorem dX6_copy_163 : decode cX6_copy 163 = .ok (.isub, 1) := by decide +kernel
theorem dX6_copy_164 : decode cX6_copy 164 = .ok (.if_icmp .gt 17, 3) := by decide +kernel
theorem dX6_copy_167 : decode cX6_copy 167 = .ok (.iload 4, 2) := by decide +kernel
theorem dX6_copy_169 : decode cX6_copy 169 = .ok (.aload_n 0, 1) := by decide +kernel
theorem dX6_copy_170 : decode cX6_copy 170 = .ok (.getfield 16, 3) := by decide +kernel
theorem dX6_copy_173 : decode cX6_copy 173 = .ok (.iload_n 2, 1) := by decide +kernel
theorem dX6_copy_174 : decode cX6_copy 174 = .ok (.iaload, 1) := by decide +kernel
theorem dX6_copy_175 : decode cX6_copy 175 = .ok (.iload 5, 2) := by decide +kernel
theorem dX6_copy_177 : decode cX6_copy 177 = .ok (.isub, 1) := by decide +kernel
theorem dX6_copy_178 : decode cX6_copy 178 = .ok (.if_icmp .le 10, 3) := by decide +kernel
theorem dX6_copy_181 : decode cX6_copy 181 = .ok (.aload_n 0, 1) := by decide +kernel
theorem dX6_copy_182 : decode cX6_copy 182 = .ok (.bipush (-2), 2) := by decide +kernel
theorem dX6_copy_184 : decode cX6_copy 184 = .ok (.invokevirtual 108, 3) := by decide +kernel
theorem dX6_copy_187 : decode cX6_copy 187 = .ok (.ireturn, 1) := by decide +kernel
theorem dX6_copy_188 : decode cX6_copy 188 = .ok (.iconst 0, 1) := by decide +kernel
theorem dX6_copy_189 : decode cX6_copy 189 = .ok (.istore 6, 2) := by decide +kernel
theorem dX6_copy_191 : decode cX6_copy 191 = .ok (.iload 6, 2) := by decide +kernel
theorem dX6_copy_193 : decode cX6_copy 193 = .ok (.iload 5, 2) := by decide +kernel
theorem dX6_copy_195 : decode cX6_copy 195 = .ok (.if_icmp .ge 27, 3) := by decide +kernel
theorem dX6_copy_198 : decode cX6_copy 198 = .ok (.aload_n 0, 1) := by decide +kernel
theorem dX6_copy_199 : decode cX6_copy 199 = .ok (.getfield 24, 3) := by decide +kernel
theorem dX6_copy_202 : decode cX6_copy 202 = .ok (.iload 6, 2) := by decide +kernel
theorem dX6_copy_204 : decode cX6_copy 204 = .ok (.aload_n 0, 1) := by decide +kernel
theorem dX6_copy_205 : decode cX6_copy 205 = .ok (.getfield 21, 3) := by decide +kernel
theorem dX6_copy_208 : decode cX6_copy 208 = .ok (.iload_n 1, 1) := by decide +kernel
theorem dX6_copy_209 : decode cX6_copy 209 = .ok (.aaload, 1) := by decide +kernel
theorem dX6_copy_210 : decode cX6_copy 210 = .ok (.iload_n 3, 1) := by decide +kernel
theorem dX6_copy_211 : decode cX6_copy 211 = .ok (.iload 6, 2) := by decide +kernel
theorem dX6_copy_213 : decode cX6_copy 213 = .ok (.iadd, 1) := by decide +kernel
theorem dX6_copy_214 : decode cX6_copy 214 = .ok (.laload, 1) := by decide +kernel
theorem dX6_copy_215 : decode cX6_copy 215 = .ok (.lastore, 1) := by decide +kernel
theorem dX6_copy_216 : decode cX6_copy 216 = .ok (.iinc 6 1, 3) := by decide +kernel
theorem dX6_copy_219 : decode cX6_copy 219 = .ok (.goto (-28), 3) := by decide +kernel
theorem dX6_copy_222 : decode cX6_copy 222 = .ok (.iconst 0, 1) := by decide +kernel
theorem dX6_copy_223 : decode cX6_copy 223 = .ok (.istore 6, 2) := by decide +kernel
theorem dX6_copy_225 : decode cX6_copy 225 = .ok (.iload 6, 2) := by decide +kernel
theorem dX6_copy_227 : decode cX6_copy 227 = .ok (.iload 5, 2) := by decide +kernel
theorem dX6_copy_229 : decode cX6_copy 229 = .ok (.if_icmp .ge 28, 3) := by decide +kernel
theorem dX6_copy_232 : decode cX6_copy 232 = .ok (.aload_n 0, 1) := by decide +kernel
theorem dX6_copy_233 : decode cX6_copy 233 = .ok (.getfield 21, 3) := by decide +kernel
theorem dX6_copy_236 : decode cX6_copy 236 = .ok (.iload_n 2, 1) := by decide +kernel
theorem dX6_copy_237 : decode cX6_copy 237 = .ok (.aaload, 1) := by decide +kernel
theorem dX6_copy_238 : decode cX6_copy 238 = .ok (.iload 4, 2) := by decide +kernel
theorem dX6_copy_240 : decode cX6_copy 240 = .ok (.iload 6, 2) := by decide +kernel
theorem dX6_copy_242 : decode cX6_copy 242 = .ok (.iadd, 1) := by decide +kernel
theorem dX6_copy_243 : decode cX6_copy 243 = .ok (.aload_n 0, 1) := by decide +kernel
theorem dX6_copy_244 : decode cX6_copy 244 = .ok (.getfield 24, 3) := by decide +kernel
theorem dX6_copy_247 : decode cX6_copy 247 = .ok (.iload 6, 2) := by decide +kernel
theorem dX6_copy_249 : decode cX6_copy 249 = .ok (.laload, 1) := by decide +kernel
theorem dX6_copy_250 : decode cX6_copy 250 = .ok (.lastore, 1) := by decide +kernel
theorem dX6_copy_251 : decode cX6_copy 251 = .ok (.iinc 6 1, 3) := by decide +kernel
theorem dX6_copy_254 : decode cX6_copy 254 = .ok (.goto (-29), 3) := by decide +kernel
theorem dX6_copy_257 : decode cX6_copy 257 = .ok (.iload 5, 2) := by decide +kernel
theorem dX6_copy_259 : decode cX6_copy 259 = .ok (.ireturn, 1) := by decide +kernel
set_option maxRecDepth 100000 in
set_option maxHeartbeats 4000000 in
theorem lc_X6_copy_191 (Z : ZZ) (l : Launch) (a0 : Nat) (a1 : Int32) (a2 : Int32) (a3 : Int32) (a4 : Int32) (a5 : Int32) {args : Array Value} {h0 h1 : HP} {v0 : Int32} (K : HP → Option (Int32 × HP)) (F : Int32 → HP → Option (Int32 × HP))
    (hK : ∀ (h : HP), Sim Z l cX6_copy RX6 7 1 25 (some .int) "copy" args (Mq Z args h0 h1 (some (.int v0))) h0 h1 v0 222 [(0, .ref (zb Z + a0)), (2, .int a2), (4, .int a4), (5, .int a5)] [] h (K h))
    (hF : ∀ (b6 : Int32) (h : HP), Sim Z l cX6_copy RX6 7 1 25 (some .int) "copy" args (Mq Z args h0 h1 (some (.int v0))) h0 h1 v0 191 [(0, .ref (zb Z + a0)), (1, .int a1), (2, .int a2), (3, .int a3), (4, .int a4), (5, .int a5), (6, .int b6)] [] h (F b6 h)) :
    ∀ (b6 : Int32) (h : HP), Sim Z l cX6_copy RX6 7 1 25 (some .int) "copy" args (Mq Z args h0 h1 (some (.int v0))) h0 h1 v0 191 [(0, .ref (zb Z + a0)), (1, .int a1), (2, .int a2), (3, .int a3), (4, .int a4), (5, .int a5), (6, .int b6)] [] h (lb_X6_copy_191 a0 a1 a2 a3 a4 a5 K F b6 h) := by
  intro b6 h
  unfold lb_X6_copy_191
  refine S_iload dX6_copy_191 6 rfl (pc' := 193) rfl ?_
  refine S_iload dX6_copy_193 5 rfl (pc' := 195) rfl ?_
  refine S_icmp_ge dX6_copy_195 222 rfl (pc' := 198) rfl (fun g195 => ?_) (fun g195 => ?_)
  · refine Sim.sub [0, 2, 4, 5] rfl ?_
    exact hK _
  · refine S_aload_n dX6_copy_198 rfl 0 rfl (pc' := 199) rfl ?_
    refine S_getR fl_X6_24 rfl dX6_copy_199 (pc' := 202) rfl (fun x199 => ?_)
    refine S_iload dX6_copy_202 6 rfl (pc' := 204) rfl ?_
    refine S_aload_n dX6_copy_204 rfl 0 rfl (pc' := 205) rfl ?_
    refine S_getR fl_X6_21 rfl dX6_copy_205 (pc' := 208) rfl (fun x205 => ?_)
    refine S_iload_n dX6_copy_208 rfl 1 rfl (pc' := 209) rfl ?_
    refine S_aaloadQ dX6_copy_209 (pc' := 210) rfl (fun x209 => ?_)
    refine S_iload_n dX6_copy_210 rfl 3 rfl (pc' := 211) rfl ?_
    refine S_iload dX6_copy_211 6 rfl (pc' := 213) rfl ?_
    refine S_iadd dX6_copy_213 (pc' := 214) rfl ?_
    refine S_laload dX6_copy_214 (pc' := 215) rfl (fun x214 => ?_)
    refine S_lastore dX6_copy_215 (pc' := 216) rfl (fun h215 => ?_)
    refine S_iinc dX6_copy_216 (q := 6) rfl (v := b6 + 1) rfl (by decide) (lo' := [(6, .int (b6 + 1)), (0, .ref (zb Z + a0)), (1, .int a1), (2, .int a2), (3, .int a3), (4, .int a4), (5, .int a5)]) rfl (pc' := 219) rfl ?_
    refine S_goto dX6_copy_219 191 rfl ?_
    refine Sim.sub [1, 2, 3, 4, 5, 6, 0] rfl ?_
    exact hF _ _
theorem lq_X6_copy_191 (Z : ZZ) (l : Launch) (a0 : Nat) (a1 : Int32) (a2 : Int32) (a3 : Int32) (a4 : Int32) (a5 : Int32) {args : Array Value} {h0 h1 : HP} {v0 : Int32} (K : HP → Option (Int32 × HP))
    (hK : ∀ (h : HP), Sim Z l cX6_copy RX6 7 1 25 (some .int) "copy" args (Mq Z args h0 h1 (some (.int v0))) h0 h1 v0 222 [(0, .ref (zb Z + a0)), (2, .int a2), (4, .int a4), (5, .int a5)] [] h (K h)) :
    ∀ (k : Nat) (b6 : Int32) (h : HP), Sim Z l cX6_copy RX6 7 1 25 (some .int) "copy" args (Mq Z args h0 h1 (some (.int v0))) h0 h1 v0 191 [(0, .ref (zb Z + a0)), (1, .int a1), (2, .int a2), (3, .int a3), (4, .int a4), (5, .int a5), (6, .int b6)] [] h (lp_X6_copy_191 a0 a1 a2 a3 a4 a5 K k b6 h) := by
  intro k
  induction k with
  | zero => exact fun _ _ => Sim.none
  | succ k ih => exact lc_X6_copy_191 Z l a0 a1 a2 a3 a4 a5 K _ hK ih
set_option maxRecDepth 100000 in
set_option maxHeartbeats 4000000 in
theorem lc_X6_copy_225 (Z : ZZ) (l : Launch) (a0 : Nat) (a2 : Int32) (a4 : Int32) (a5 : Int32) {args : Array Value} {h0 h1 : HP} {v0 : Int32} (K : HP → Option (Int32 × HP)) (F : Int32 → HP → Option (Int32 × HP))
    (hK : ∀ (h : HP), Sim Z l cX6_copy RX6 7 1 25 (some .int) "copy" args (Mq Z args h0 h1 (some (.int v0))) h0 h1 v0 257 [(5, .int a5)] [] h (K h))
    (hF : ∀ (b6 : Int32) (h : HP), Sim Z l cX6_copy RX6 7 1 25 (some .int) "copy" args (Mq Z args h0 h1 (some (.int v0))) h0 h1 v0 225 [(0, .ref (zb Z + a0)), (2, .int a2), (4, .int a4), (5, .int a5), (6, .int b6)] [] h (F b6 h)) :
    ∀ (b6 : Int32) (h : HP), Sim Z l cX6_copy RX6 7 1 25 (some .int) "copy" args (Mq Z args h0 h1 (some (.int v0))) h0 h1 v0 225 [(0, .ref (zb Z + a0)), (2, .int a2), (4, .int a4), (5, .int a5), (6, .int b6)] [] h (lb_X6_copy_225 a0 a2 a4 a5 K F b6 h) := by
  intro b6 h
  unfold lb_X6_copy_225
  refine S_iload dX6_copy_225 4 rfl (pc' := 227) rfl ?_
  refine S_iload dX6_copy_227 3 rfl (pc' := 229) rfl ?_
  refine S_icmp_ge dX6_copy_229 257 rfl (pc' := 232) rfl (fun g229 => ?_) (fun g229 => ?_)
  · refine Sim.sub [3] rfl ?_
    exact hK _
  · refine S_aload_n dX6_copy_232 rfl 0 rfl (pc' := 233) rfl ?_
    refine S_getR fl_X6_21 rfl dX6_copy_233 (pc' := 236) rfl (fun x233 => ?_)
    refine S_iload_n dX6_copy_236 rfl 1 rfl (pc' := 237) rfl ?_
    refine S_aaloadQ dX6_copy_237 (pc' := 238) rfl (fun x237 => ?_)
    refine S_iload dX6_copy_238 2 rfl (pc' := 240) rfl ?_
    refine S_iload dX6_copy_240 4 rfl (pc' := 242) rfl ?_
    refine S_iadd dX6_copy_242 (pc' := 243) rfl ?_
    refine S_aload_n dX6_copy_243 rfl 0 rfl (pc' := 244) rfl ?_
    refine S_getR fl_X6_24 rfl dX6_copy_244 (pc' := 247) rfl (fun x244 => ?_)
    refine S_iload dX6_copy_247 4 rfl (pc' := 249) rfl ?_
    refine S_laload dX6_copy_249 (pc' := 250) rfl (fun x249 => ?_)
    refine S_lastore dX6_copy_250 (pc' := 251) rfl (fun h250 => ?_)
    refine S_iinc dX6_copy_251 (q := 4) rfl (v := b6 + 1) rfl (by decide) (lo' := [(6, .int (b6 + 1)), (0, .ref (zb Z + a0)), (2, .int a2), (4, .int a4), (5, .int a5)]) rfl (pc' := 254) rfl ?_
    refine S_goto dX6_copy_254 225 rfl ?_
    refine Sim.sub [1, 2, 3, 4, 0] rfl ?_
    exact hF _ _
theorem lq_X6_copy_225 (Z : ZZ) (l : Launch) (a0 : Nat) (a2 : Int32) (a4 : Int32) (a5 : Int32) {args : Array Value} {h0 h1 : HP} {v0 : Int32} (K : HP → Option (Int32 × HP))
    (hK : ∀ (h : HP), Sim Z l cX6_copy RX6 7 1 25 (some .int) "copy" args (Mq Z args h0 h1 (some (.int v0))) h0 h1 v0 257 [(5, .int a5)] [] h (K h)) :
    ∀ (k : Nat) (b6 : Int32) (h : HP), Sim Z l cX6_copy RX6 7 1 25 (some .int) "copy" args (Mq Z args h0 h1 (some (.int v0))) h0 h1 v0 225 [(0, .ref (zb Z + a0)), (2, .int a2), (4, .int a4), (5, .int a5), (6, .int b6)] [] h (lp_X6_copy_225 a0 a2 a4 a5 K k b6 h) := by
  intro k
  induction k with
  | zero => exact fun _ _ => Sim.none
  | succ k ih => exact lc_X6_copy_225 Z l a0 a2 a4 a5 K _ hK ih
set_option maxRecDepth 100000 in
set_option maxHeartbeats 4000000 in
theorem c_X6_copy (Z : ZZ) (l : Launch) (t : Nat) (a1 : Int32) (a2 : Int32) (a3 : Int32) (a4 : Int32) (a5 : Int32) (h : HP) {v : Int32} {h1 : HP} (ho : f_X6_copy t a1 a2 a3 a4 a5 h = some (v, h1)) : MetP Z l yX6_copy cX6_copy 7 (some .int) 1 25 [.ref (zb Z + t), .int a1, .int a2, .int a3, .int a4, .int a5] h (some (.int v)) h1 := by
  refine MetP_of ho (by decide +kernel) (Nat.le_of_ble_eq_true rfl) [(0, .ref (zb Z + t)), (1, .int a1), (2, .int a2), (3, .int a3), (4, .int a4), (5, .int a5)] rfl (own := RX6) rfl (nm := "copy") rfl ?_
  unfold f_X6_copy
  refine S_iload_n dX6_copy_0 rfl 1 rfl (pc' := 1) rfl ?_
  refine S_i2l dX6_copy_1 (pc' := 2) rfl ?_
  refine S_lconst dX6_copy_2 (v := 0) rfl (pc' := 3) rfl ?_
  refine S_ldc2 dX6_copy_3 kc_X6_102 (pc' := 6) rfl ?_
  refine S_stai ml_X6_95 ms_X6_in dX6_copy_6 [.long a1.toInt64, .long 0, .long 7] rfl (fun v h2 q => c_X6_in Z l _ _ _ _ q) ⟨Nat.le_of_ble_eq_true rfl, Nat.le_of_ble_eq_true rfl⟩ (rest := []) (Nat.le_of_ble_eq_true rfl) rfl (pc' := 9) rfl (fun x6 h6 => ?_)
  refine S_if_eq dX6_copy_9 24 rfl (pc' := 12) rfl (fun g9 => ?_) (fun g9 => ?_)
  · refine S_aload_n dX6_copy_24 rfl 0 rfl (pc' := 25) rfl ?_
    refine S_bipush dX6_copy_25 (v := (-2)) rfl (pc' := 27) rfl ?_
    refine S_invi ml_X6_108 mi_X6_refuse (ci := 6) ⟨_, rfl, rfl⟩ (by decide) dX6_copy_27 [.int (-2)] rfl (fun v h2 q => c_X6_refuse Z l _ _ _ q) ⟨Nat.le_of_ble_eq_true rfl, Nat.le_of_ble_eq_true rfl⟩ (rest := []) (Nat.le_of_ble_eq_true rfl) rfl (pc' := 30) rfl (fun x27 h27 => ?_)
    exact S_iret rfl dX6_copy_30
  · refine S_iload_n dX6_copy_12 rfl 2 rfl (pc' := 13) rfl ?_
    refine S_i2l dX6_copy_13 (pc' := 14) rfl ?_
    refine S_lconst dX6_copy_14 (v := 0) rfl (pc' := 15) rfl ?_
    refine S_ldc2 dX6_copy_15 kc_X6_102 (pc' := 18) rfl ?_
    refine S_stai ml_X6_95 ms_X6_in dX6_copy_18 [.long a2.toInt64, .long 0, .long 7] rfl (fun v h2 q => c_X6_in Z l _ _ _ _ q) ⟨Nat.le_of_ble_eq_true rfl, Nat.le_of_ble_eq_true rfl⟩ (rest := []) (Nat.le_of_ble_eq_true rfl) rfl (pc' := 21) rfl (fun x18 h18 => ?_)
    refine S_if_ne dX6_copy_21 31 rfl (pc' := 24) rfl (fun g21 => ?_) (fun g21 => ?_)
    · refine S_aload_n dX6_copy_31 rfl 0 rfl (pc' := 32) rfl ?_
      refine S_getR fl_X6_7 rfl dX6_copy_32 (pc' := 35) rfl (fun x32 => ?_)
      refine S_iload_n dX6_copy_35 rfl 1 rfl (pc' := 36) rfl ?_
      refine S_iaload dX6_copy_36 (pc' := 37) rfl (fun x36 => ?_)
      refine S_iconst dX6_copy_37 (v := 2) rfl (pc' := 38) rfl ?_
      refine S_icmp_eq dX6_copy_38 86 rfl (pc' := 41) rfl (fun g38 => ?_) (fun g38 => ?_)
      · refine S_aload_n dX6_copy_86 rfl 0 rfl (pc' := 87) rfl ?_
        refine S_bipush dX6_copy_87 (v := (-3)) rfl (pc' := 89) rfl ?_
        refine S_invi ml_X6_108 mi_X6_refuse (ci := 6) ⟨_, rfl, rfl⟩ (by decide) dX6_copy_89 [.int (-3)] rfl (fun v h2 q => c_X6_refuse Z l _ _ _ q) ⟨Nat.le_of_ble_eq_true rfl, Nat.le_of_ble_eq_true rfl⟩ (rest := []) (Nat.le_of_ble_eq_true rfl) rfl (pc' := 92) rfl (fun x89 h89 => ?_)
        exact S_iret rfl dX6_copy_92
      · refine S_aload_n dX6_copy_41 rfl 0 rfl (pc' := 42) rfl ?_
        refine S_getR fl_X6_7 rfl dX6_copy_42 (pc' := 45) rfl (fun x42 => ?_)
        refine S_iload_n dX6_copy_45 rfl 2 rfl (pc' := 46) rfl ?_
        refine S_iaload dX6_copy_46 (pc' := 47) rfl (fun x46 => ?_)
        refine S_iconst dX6_copy_47 (v := 2) rfl (pc' := 48) rfl ?_
        refine S_icmp_eq dX6_copy_48 86 rfl (pc' := 51) rfl (fun g48 => ?_) (fun g48 => ?_)
        · refine S_aload_n dX6_copy_86 rfl 0 rfl (pc' := 87) rfl ?_
          refine S_bipush dX6_copy_87 (v := (-3)) rfl (pc' := 89) rfl ?_
          refine S_invi ml_X6_108 mi_X6_refuse (ci := 6) ⟨_, rfl, rfl⟩ (by decide) dX6_copy_89 [.int (-3)] rfl (fun v h2 q => c_X6_refuse Z l _ _ _ q) ⟨Nat.le_of_ble_eq_true rfl, Nat.le_of_ble_eq_true rfl⟩ (rest := []) (Nat.le_of_ble_eq_true rfl) rfl (pc' := 92) rfl (fun x89 h89 => ?_)
          exact S_iret rfl dX6_copy_92
        · refine S_aload_n dX6_copy_51 rfl 0 rfl (pc' := 52) rfl ?_
          refine S_getR fl_X6_7 rfl dX6_copy_52 (pc' := 55) rfl (fun x52 => ?_)
          refine S_iload_n dX6_copy_55 rfl 1 rfl (pc' := 56) rfl ?_
          refine S_iaload dX6_copy_56 (pc' := 57) rfl (fun x56 => ?_)
          refine S_iconst dX6_copy_57 (v := 1) rfl (pc' := 58) rfl ?_
          refine S_icmp_ne dX6_copy_58 93 rfl (pc' := 61) rfl (fun g58 => ?_) (fun g58 => ?_)
          · refine S_aload_n dX6_copy_93 rfl 0 rfl (pc' := 94) rfl ?_
            refine S_getR fl_X6_7 rfl dX6_copy_94 (pc' := 97) rfl (fun x94 => ?_)
            refine S_iload_n dX6_copy_97 rfl 1 rfl (pc' := 98) rfl ?_
            refine S_iaload dX6_copy_98 (pc' := 99) rfl (fun x98 => ?_)
            refine S_if_eq dX6_copy_99 111 rfl (pc' := 102) rfl (fun g99 => ?_) (fun g99 => ?_)
            · refine S_aload_n dX6_copy_111 rfl 0 rfl (pc' := 112) rfl ?_
              refine S_bipush dX6_copy_112 (v := (-4)) rfl (pc' := 114) rfl ?_
              refine S_invi ml_X6_108 mi_X6_refuse (ci := 6) ⟨_, rfl, rfl⟩ (by decide) dX6_copy_114 [.int (-4)] rfl (fun v h2 q => c_X6_refuse Z l _ _ _ q) ⟨Nat.le_of_ble_eq_true rfl, Nat.le_of_ble_eq_true rfl⟩ (rest := []) (Nat.le_of_ble_eq_true rfl) rfl (pc' := 117) rfl (fun x114 h114 => ?_)
              exact S_iret rfl dX6_copy_117
            · refine S_aload_n dX6_copy_102 rfl 0 rfl (pc' := 103) rfl ?_
              refine S_getR fl_X6_7 rfl dX6_copy_103 (pc' := 106) rfl (fun x103 => ?_)
              refine S_iload_n dX6_copy_106 rfl 2 rfl (pc' := 107) rfl ?_
              refine S_iaload dX6_copy_107 (pc' := 108) rfl (fun x107 => ?_)
              refine S_if_ne dX6_copy_108 118 rfl (pc' := 111) rfl (fun g108 => ?_) (fun g108 => ?_)
              · refine S_iload dX6_copy_118 5 rfl (pc' := 120) rfl ?_
                refine S_if_lt dX6_copy_120 181 rfl (pc' := 123) rfl (fun g120 => ?_) (fun g120 => ?_)
                · refine S_aload_n dX6_copy_181 rfl 0 rfl (pc' := 182) rfl ?_
                  refine S_bipush dX6_copy_182 (v := (-2)) rfl (pc' := 184) rfl ?_
                  refine S_invi ml_X6_108 mi_X6_refuse (ci := 6) ⟨_, rfl, rfl⟩ (by decide) dX6_copy_184 [.int (-2)] rfl (fun v h2 q => c_X6_refuse Z l _ _ _ q) ⟨Nat.le_of_ble_eq_true rfl, Nat.le_of_ble_eq_true rfl⟩ (rest := []) (Nat.le_of_ble_eq_true rfl) rfl (pc' := 187) rfl (fun x184 h184 => ?_)
                  exact S_iret rfl dX6_copy_187
                · refine S_iload_n dX6_copy_123 rfl 3 rfl (pc' := 124) rfl ?_
                  refine S_if_lt dX6_copy_124 181 rfl (pc' := 127) rfl (fun g124 => ?_) (fun g124 => ?_)
                  · refine S_aload_n dX6_copy_181 rfl 0 rfl (pc' := 182) rfl ?_
                    refine S_bipush dX6_copy_182 (v := (-2)) rfl (pc' := 184) rfl ?_
                    refine S_invi ml_X6_108 mi_X6_refuse (ci := 6) ⟨_, rfl, rfl⟩ (by decide) dX6_copy_184 [.int (-2)] rfl (fun v h2 q => c_X6_refuse Z l _ _ _ q) ⟨Nat.le_of_ble_eq_true rfl, Nat.le_of_ble_eq_true rfl⟩ (rest := []) (Nat.le_of_ble_eq_true rfl) rfl (pc' := 187) rfl (fun x184 h184 => ?_)
                    exact S_iret rfl dX6_copy_187
                  · refine S_iload dX6_copy_127 4 rfl (pc' := 129) rfl ?_
                    refine S_if_lt dX6_copy_129 181 rfl (pc' := 132) rfl (fun g129 => ?_) (fun g129 => ?_)
                    · refine S_aload_n dX6_copy_181 rfl 0 rfl (pc' := 182) rfl ?_
                      refine S_bipush dX6_copy_182 (v := (-2)) rfl (pc' := 184) rfl ?_
                      refine S_invi ml_X6_108 mi_X6_refuse (ci := 6) ⟨_, rfl, rfl⟩ (by decide) dX6_copy_184 [.int (-2)] rfl (fun v h2 q => c_X6_refuse Z l _ _ _ q) ⟨Nat.le_of_ble_eq_true rfl, Nat.le_of_ble_eq_true rfl⟩ (rest := []) (Nat.le_of_ble_eq_true rfl) rfl (pc' := 187) rfl (fun x184 h184 => ?_)
                      exact S_iret rfl dX6_copy_187
                    · refine S_iload dX6_copy_132 5 rfl (pc' := 134) rfl ?_
                      refine S_aload_n dX6_copy_134 rfl 0 rfl (pc' := 135) rfl ?_
                      refine S_getR fl_X6_16 rfl dX6_copy_135 (pc' := 138) rfl (fun x135 => ?_)
                      refine S_iload_n dX6_copy_138 rfl 1 rfl (pc' := 139) rfl ?_
                      refine S_iaload dX6_copy_139 (pc' := 140) rfl (fun x139 => ?_)
                      refine S_icmp_gt dX6_copy_140 181 rfl (pc' := 143) rfl (fun g140 => ?_) (fun g140 => ?_)
                      · refine S_aload_n dX6_copy_181 rfl 0 rfl (pc' := 182) rfl ?_
                        refine S_bipush dX6_copy_182 (v := (-2)) rfl (pc' := 184) rfl ?_
                        refine S_invi ml_X6_108 mi_X6_refuse (ci := 6) ⟨_, rfl, rfl⟩ (by decide) dX6_copy_184 [.int (-2)] rfl (fun v h2 q => c_X6_refuse Z l _ _ _ q) ⟨Nat.le_of_ble_eq_true rfl, Nat.le_of_ble_eq_true rfl⟩ (rest := []) (Nat.le_of_ble_eq_true rfl) rfl (pc' := 187) rfl (fun x184 h184 => ?_)
                        exact S_iret rfl dX6_copy_187
                      · refine S_iload dX6_copy_143 5 rfl (pc' := 145) rfl ?_
                        refine S_aload_n dX6_copy_145 rfl 0 rfl (pc' := 146) rfl ?_
                        refine S_getR fl_X6_16 rfl dX6_copy_146 (pc' := 149) rfl (fun x146 => ?_)
                        refine S_iload_n dX6_copy_149 rfl 2 rfl (pc' := 150) rfl ?_
                        refine S_iaload dX6_copy_150 (pc' := 151) rfl (fun x150 => ?_)
                        refine S_icmp_gt dX6_copy_151 181 rfl (pc' := 154) rfl (fun g151 => ?_) (fun g151 => ?_)
                        · refine S_aload_n dX6_copy_181 rfl 0 rfl (pc' := 182) rfl ?_
                          refine S_bipush dX6_copy_182 (v := (-2)) rfl (pc' := 184) rfl ?_
                          refine S_invi ml_X6_108 mi_X6_refuse (ci := 6) ⟨_, rfl, rfl⟩ (by decide) dX6_copy_184 [.int (-2)] rfl (fun v h2 q => c_X6_refuse Z l _ _ _ q) ⟨Nat.le_of_ble_eq_true rfl, Nat.le_of_ble_eq_true rfl⟩ (rest := []) (Nat.le_of_ble_eq_true rfl) rfl (pc' := 187) rfl (fun x184 h184 => ?_)
                          exact S_iret rfl dX6_copy_187
                        · refine S_iload_n dX6_copy_154 rfl 3 rfl (pc' := 155) rfl ?_
                          refine S_aload_n dX6_copy_155 rfl 0 rfl (pc' := 156) rfl ?_
                          refine S_getR fl_X6_16 rfl dX6_copy_156 (pc' := 159) rfl (fun x156 => ?_)
                          refine S_iload_n dX6_copy_159 rfl 1 rfl (pc' := 160) rfl ?_
                          refine S_iaload dX6_copy_160 (pc' := 161) rfl (fun x160 => ?_)
                          refine S_iload dX6_copy_161 5 rfl (pc' := 163) rfl ?_
                          refine S_isub dX6_copy_163 (pc' := 164) rfl ?_
                          refine S_icmp_gt dX6_copy_164 181 rfl (pc' := 167) rfl (fun g164 => ?_) (fun g164 => ?_)
                          · refine S_aload_n dX6_copy_181 rfl 0 rfl (pc' := 182) rfl ?_
                            refine S_bipush dX6_copy_182 (v := (-2)) rfl (pc' := 184) rfl ?_
                            refine S_invi ml_X6_108 mi_X6_refuse (ci := 6) ⟨_, rfl, rfl⟩ (by decide) dX6_copy_184 [.int (-2)] rfl (fun v h2 q => c_X6_refuse Z l _ _ _ q) ⟨Nat.le_of_ble_eq_true rfl, Nat.le_of_ble_eq_true rfl⟩ (rest := []) (Nat.le_of_ble_eq_true rfl) rfl (pc' := 187) rfl (fun x184 h184 => ?_)
                            exact S_iret rfl dX6_copy_187
                          · refine S_iload dX6_copy_167 4 rfl (pc' := 169) rfl ?_
                            refine S_aload_n dX6_copy_169 rfl 0 rfl (pc' := 170) rfl ?_
                            refine S_getR fl_X6_16 rfl dX6_copy_170 (pc' := 173) rfl (fun x170 => ?_)
                            refine S_iload_n dX6_copy_173 rfl 2 rfl (pc' := 174) rfl ?_
                            refine S_iaload dX6_copy_174 (pc' := 175) rfl (fun x174 => ?_)
                            refine S_iload dX6_copy_175 5 rfl (pc' := 177) rfl ?_
                            refine S_isub dX6_copy_177 (pc' := 178) rfl ?_
                            refine S_icmp_le dX6_copy_178 188 rfl (pc' := 181) rfl (fun g178 => ?_) (fun g178 => ?_)
                            · refine S_iconst dX6_copy_188 (v := 0) rfl (pc' := 189) rfl ?_
                              refine S_istore dX6_copy_189 (by decide) (lo' := [(6, .int 0), (0, .ref (zb Z + t)), (1, .int a1), (2, .int a2), (3, .int a3), (4, .int a4), (5, .int a5)]) rfl (pc' := 191) rfl ?_
                              refine Sim.sub [1, 2, 3, 4, 5, 6, 0] rfl ?_
                              refine lq_X6_copy_191 Z l t a1 a2 a3 a4 a5 _ ?_ 1000 _ _
                              intro h191_
                              refine S_iconst dX6_copy_222 (v := 0) rfl (pc' := 223) rfl ?_
                              refine S_istore dX6_copy_223 (by decide) (lo' := [(6, .int 0), (0, .ref (zb Z + t)), (2, .int a2), (4, .int a4), (5, .int a5)]) rfl (pc' := 225) rfl ?_
                              refine Sim.sub [1, 2, 3, 4, 0] rfl ?_
                              refine lq_X6_copy_225 Z l t a2 a4 a5 _ ?_ 1000 _ _
                              intro h225_
                              refine S_iload dX6_copy_257 0 rfl (pc' := 259) rfl ?_
                              exact S_iret rfl dX6_copy_259
                            · refine S_aload_n dX6_copy_181 rfl 0 rfl (pc' := 182) rfl ?_
                              refine S_bipush dX6_copy_182 (v := (-2)) rfl (pc' := 184) rfl ?_
                              refine S_invi ml_X6_108 mi_X6_refuse (ci := 6) ⟨_, rfl, rfl⟩ (by decide) dX6_copy_184 [.int (-2)] rfl (fun v h2 q => c_X6_refuse Z l _ _ _ q) ⟨Nat.le_of_ble_eq_true rfl, Nat.le_of_ble_eq_true rfl⟩ (rest := []) (Nat.le_of_ble_eq_true rfl) rfl (pc' := 187) rfl (fun x184 h184 => ?_)
                              exact S_iret rfl dX6_copy_187
              · refine S_aload_n dX6_copy_111 rfl 0 rfl (pc' := 112) rfl ?_
                refine S_bipush dX6_copy_112 (v := (-4)) rfl (pc' := 114) rfl ?_
                refine S_invi ml_X6_108 mi_X6_refuse (ci := 6) ⟨_, rfl, rfl⟩ (by decide) dX6_copy_114 [.int (-4)] rfl (fun v h2 q => c_X6_refuse Z l _ _ _ q) ⟨Nat.le_of_ble_eq_true rfl, Nat.le_of_ble_eq_true rfl⟩ (rest := []) (Nat.le_of_ble_eq_true rfl) rfl (pc' := 117) rfl (fun x114 h114 => ?_)
                exact S_iret rfl dX6_copy_117
          · refine S_aload_n dX6_copy_61 rfl 0 rfl (pc' := 62) rfl ?_
            refine S_getR fl_X6_7 rfl dX6_copy_62 (pc' := 65) rfl (fun x62 => ?_)
            refine S_iload_n dX6_copy_65 rfl 2 rfl (pc' := 66) rfl ?_
            refine S_iaload dX6_copy_66 (pc' := 67) rfl (fun x66 => ?_)
            refine S_iconst dX6_copy_67 (v := 1) rfl (pc' := 68) rfl ?_
            refine S_icmp_ne dX6_copy_68 93 rfl (pc' := 71) rfl (fun g68 => ?_) (fun g68 => ?_)
            · refine S_aload_n dX6_copy_93 rfl 0 rfl (pc' := 94) rfl ?_
              refine S_getR fl_X6_7 rfl dX6_copy_94 (pc' := 97) rfl (fun x94 => ?_)
              refine S_iload_n dX6_copy_97 rfl 1 rfl (pc' := 98) rfl ?_
              refine S_iaload dX6_copy_98 (pc' := 99) rfl (fun x98 => ?_)
              refine S_if_eq dX6_copy_99 111 rfl (pc' := 102) rfl (fun g99 => ?_) (fun g99 => ?_)
              · refine S_aload_n dX6_copy_111 rfl 0 rfl (pc' := 112) rfl ?_
                refine S_bipush dX6_copy_112 (v := (-4)) rfl (pc' := 114) rfl ?_
                refine S_invi ml_X6_108 mi_X6_refuse (ci := 6) ⟨_, rfl, rfl⟩ (by decide) dX6_copy_114 [.int (-4)] rfl (fun v h2 q => c_X6_refuse Z l _ _ _ q) ⟨Nat.le_of_ble_eq_true rfl, Nat.le_of_ble_eq_true rfl⟩ (rest := []) (Nat.le_of_ble_eq_true rfl) rfl (pc' := 117) rfl (fun x114 h114 => ?_)
                exact S_iret rfl dX6_copy_117
              · refine S_aload_n dX6_copy_102 rfl 0 rfl (pc' := 103) rfl ?_
                refine S_getR fl_X6_7 rfl dX6_copy_103 (pc' := 106) rfl (fun x103 => ?_)
                refine S_iload_n dX6_copy_106 rfl 2 rfl (pc' := 107) rfl ?_
                refine S_iaload dX6_copy_107 (pc' := 108) rfl (fun x107 => ?_)
                refine S_if_ne dX6_copy_108 118 rfl (pc' := 111) rfl (fun g108 => ?_) (fun g108 => ?_)
                · refine S_iload dX6_copy_118 5 rfl (pc' := 120) rfl ?_
                  refine S_if_lt dX6_copy_120 181 rfl (pc' := 123) rfl (fun g120 => ?_) (fun g120 => ?_)
                  · refine S_aload_n dX6_copy_181 rfl 0 rfl (pc' := 182) rfl ?_
                    refine S_bipush dX6_copy_182 (v := (-2)) rfl (pc' := 184) rfl ?_
                    refine S_invi ml_X6_108 mi_X6_refuse (ci := 6) ⟨_, rfl, rfl⟩ (by decide) dX6_copy_184 [.int (-2)] rfl (fun v h2 q => c_X6_refuse Z l _ _ _ q) ⟨Nat.le_of_ble_eq_true rfl, Nat.le_of_ble_eq_true rfl⟩ (rest := []) (Nat.le_of_ble_eq_true rfl) rfl (pc' := 187) rfl (fun x184 h184 => ?_)
                    exact S_iret rfl dX6_copy_187
                  · refine S_iload_n dX6_copy_123 rfl 3 rfl (pc' := 124) rfl ?_
                    refine S_if_lt dX6_copy_124 181 rfl (pc' := 127) rfl (fun g124 => ?_) (fun g124 => ?_)
                    · refine S_aload_n dX6_copy_181 rfl 0 rfl (pc' := 182) rfl ?_
                      refine S_bipush dX6_copy_182 (v := (-2)) rfl (pc' := 184) rfl ?_
                      refine S_invi ml_X6_108 mi_X6_refuse (ci := 6) ⟨_, rfl, rfl⟩ (by decide) dX6_copy_184 [.int (-2)] rfl (fun v h2 q => c_X6_refuse Z l _ _ _ q) ⟨Nat.le_of_ble_eq_true rfl, Nat.le_of_ble_eq_true rfl⟩ (rest := []) (Nat.le_of_ble_eq_true rfl) rfl (pc' := 187) rfl (fun x184 h184 => ?_)
                      exact S_iret rfl dX6_copy_187
                    · refine S_iload dX6_copy_127 4 rfl (pc' := 129) rfl ?_
                      refine S_if_lt dX6_copy_129 181 rfl (pc' := 132) rfl (fun g129 => ?_) (fun g129 => ?_)
                      · refine S_aload_n dX6_copy_181 rfl 0 rfl (pc' := 182) rfl ?_
                        refine S_bipush dX6_copy_182 (v := (-2)) rfl (pc' := 184) rfl ?_
                        refine S_invi ml_X6_108 mi_X6_refuse (ci := 6) ⟨_, rfl, rfl⟩ (by decide) dX6_copy_184 [.int (-2)] rfl (fun v h2 q => c_X6_refuse Z l _ _ _ q) ⟨Nat.le_of_ble_eq_true rfl, Nat.le_of_ble_eq_true rfl⟩ (rest := []) (Nat.le_of_ble_eq_true rfl) rfl (pc' := 187) rfl (fun x184 h184 => ?_)
                        exact S_iret rfl dX6_copy_187
                      · refine S_iload dX6_copy_132 5 rfl (pc' := 134) rfl ?_
                        refine S_aload_n dX6_copy_134 rfl 0 rfl (pc' := 135) rfl ?_
                        refine S_getR fl_X6_16 rfl dX6_copy_135 (pc' := 138) rfl (fun x135 => ?_)
                        refine S_iload_n dX6_copy_138 rfl 1 rfl (pc' := 139) rfl ?_
                        refine S_iaload dX6_copy_139 (pc' := 140) rfl (fun x139 => ?_)
                        refine S_icmp_gt dX6_copy_140 181 rfl (pc' := 143) rfl (fun g140 => ?_) (fun g140 => ?_)
                        · refine S_aload_n dX6_copy_181 rfl 0 rfl (pc' := 182) rfl ?_
                          refine S_bipush dX6_copy_182 (v := (-2)) rfl (pc' := 184) rfl ?_
                          refine S_invi ml_X6_108 mi_X6_refuse (ci := 6) ⟨_, rfl, rfl⟩ (by decide) dX6_copy_184 [.int (-2)] rfl (fun v h2 q => c_X6_refuse Z l _ _ _ q) ⟨Nat.le_of_ble_eq_true rfl, Nat.le_of_ble_eq_true rfl⟩ (rest := []) (Nat.le_of_ble_eq_true rfl) rfl (pc' := 187) rfl (fun x184 h184 => ?_)
                          exact S_iret rfl dX6_copy_187
                        · refine S_iload dX6_copy_143 5 rfl (pc' := 145) rfl ?_
                          refine S_aload_n dX6_copy_145 rfl 0 rfl (pc' := 146) rfl ?_
                          refine S_getR fl_X6_16 rfl dX6_copy_146 (pc' := 149) rfl (fun x146 => ?_)
                          refine S_iload_n dX6_copy_149 rfl 2 rfl (pc' := 150) rfl ?_
                          refine S_iaload dX6_copy_150 (pc' := 151) rfl (fun x150 => ?_)
                          refine S_icmp_gt dX6_copy_151 181 rfl (pc' := 154) rfl (fun g151 => ?_) (fun g151 => ?_)
                          · refine S_aload_n dX6_copy_181 rfl 0 rfl (pc' := 182) rfl ?_
                            refine S_bipush dX6_copy_182 (v := (-2)) rfl (pc' := 184) rfl ?_
                            refine S_invi ml_X6_108 mi_X6_refuse (ci := 6) ⟨_, rfl, rfl⟩ (by decide) dX6_copy_184 [.int (-2)] rfl (fun v h2 q => c_X6_refuse Z l _ _ _ q) ⟨Nat.le_of_ble_eq_true rfl, Nat.le_of_ble_eq_true rfl⟩ (rest := []) (Nat.le_of_ble_eq_true rfl) rfl (pc' := 187) rfl (fun x184 h184 => ?_)
                            exact S_iret rfl dX6_copy_187
                          · refine S_iload_n dX6_copy_154 rfl 3 rfl (pc' := 155) rfl ?_
                            refine S_aload_n dX6_copy_155 rfl 0 rfl (pc' := 156) rfl ?_
                            refine S_getR fl_X6_16 rfl dX6_copy_156 (pc' := 159) rfl (fun x156 => ?_)
                            refine S_iload_n dX6_copy_159 rfl 1 rfl (pc' := 160) rfl ?_
                            refine S_iaload dX6_copy_160 (pc' := 161) rfl (fun x160 => ?_)
                            refine S_iload dX6_copy_161 5 rfl (pc' := 163) rfl ?_
                            refine S_isub dX6_copy_163 (pc' := 164) rfl ?_
                            refine S_icmp_gt dX6_copy_164 181 rfl (pc' := 167) rfl (fun g164 => ?_) (fun g164 => ?_)
                            · refine S_aload_n dX6_copy_181 rfl 0 rfl (pc' := 182) rfl ?_
                              refine S_bipush dX6_copy_182 (v := (-2)) rfl (pc' := 184) rfl ?_
                              refine S_invi ml_X6_108 mi_X6_refuse (ci := 6) ⟨_, rfl, rfl⟩ (by decide) dX6_copy_184 [.int (-2)] rfl (fun v h2 q => c_X6_refuse Z l _ _ _ q) ⟨Nat.le_of_ble_eq_true rfl, Nat.le_of_ble_eq_true rfl⟩ (rest := []) (Nat.le_of_ble_eq_true rfl) rfl (pc' := 187) rfl (fun x184 h184 => ?_)
                              exact S_iret rfl dX6_copy_187
                            · refine S_iload dX6_copy_167 4 rfl (pc' := 169) rfl ?_
                              refine S_aload_n dX6_copy_169 rfl 0 rfl (pc' := 170) rfl ?_
                              refine S_getR fl_X6_16 rfl dX6_copy_170 (pc' := 173) rfl (fun x170 => ?_)
                              refine S_iload_n dX6_copy_173 rfl 2 rfl (pc' := 174) rfl ?_
                              refine S_iaload dX6_copy_174 (pc' := 175) rfl (fun x174 => ?_)
                              refine S_iload dX6_copy_175 5 rfl (pc' := 177) rfl ?_
                              refine S_isub dX6_copy_177 (pc' := 178) rfl ?_
                              refine S_icmp_le dX6_copy_178 188 rfl (pc' := 181) rfl (fun g178 => ?_) (fun g178 => ?_)
                              · refine S_iconst dX6_copy_188 (v := 0) rfl (pc' := 189) rfl ?_
                                refine S_istore dX6_copy_189 (by decide) (lo' := [(6, .int 0), (0, .ref (zb Z + t)), (1, .int a1), (2, .int a2), (3, .int a3), (4, .int a4), (5, .int a5)]) rfl (pc' := 191) rfl ?_
                                refine Sim.sub [1, 2, 3, 4, 5, 6, 0] rfl ?_
                                refine lq_X6_copy_191 Z l t a1 a2 a3 a4 a5 _ ?_ 1000 _ _
                                intro h191_
                                refine S_iconst dX6_copy_222 (v := 0) rfl (pc' := 223) rfl ?_
                                refine S_istore dX6_copy_223 (by decide) (lo' := [(6, .int 0), (0, .ref (zb Z + t)), (2, .int a2), (4, .int a4), (5, .int a5)]) rfl (pc' := 225) rfl ?_
                                refine Sim.sub [1, 2, 3, 4, 0] rfl ?_
                                refine lq_X6_copy_225 Z l t a2 a4 a5 _ ?_ 1000 _ _
                                intro h225_
                                refine S_iload dX6_copy_257 0 rfl (pc' := 259) rfl ?_
                                exact S_iret rfl dX6_copy_259
                              · refine S_aload_n dX6_copy_181 rfl 0 rfl (pc' := 182) rfl ?_
                                refine S_bipush dX6_copy_182 (v := (-2)) rfl (pc' := 184) rfl ?_
                                refine S_invi ml_X6_108 mi_X6_refuse (ci := 6) ⟨_, rfl, rfl⟩ (by decide) dX6_copy_184 [.int (-2)] rfl (fun v h2 q => c_X6_refuse Z l _ _ _ q) ⟨Nat.le_of_ble_eq_true rfl, Nat.le_of_ble_eq_true rfl⟩ (rest := []) (Nat.le_of_ble_eq_true rfl) rfl (pc' := 187) rfl (fun x184 h184 => ?_)
                                exact S_iret rfl dX6_copy_187
                · refine S_aload_n dX6_copy_111 rfl 0 rfl (pc' := 112) rfl ?_
                  refine S_bipush dX6_copy_112 (v := (-4)) rfl (pc' := 114) rfl ?_
                  refine S_invi ml_X6_108 mi_X6_refuse (ci := 6) ⟨_, rfl, rfl⟩ (by decide) dX6_copy_114 [.int (-4)] rfl (fun v h2 q => c_X6_refuse Z l _ _ _ q) ⟨Nat.le_of_ble_eq_true rfl, Nat.le_of_ble_eq_true rfl⟩ (rest := []) (Nat.le_of_ble_eq_true rfl) rfl (pc' := 117) rfl (fun x114 h114 => ?_)
                  exact S_iret rfl dX6_copy_117
            · refine S_aload_n dX6_copy_71 rfl 0 rfl (pc' := 72) rfl ?_
              refine S_getR fl_X6_13 rfl dX6_copy_72 (pc' := 75) rfl (fun x72 => ?_)
              refine S_iload_n dX6_copy_75 rfl 1 rfl (pc' := 76) rfl ?_
              refine S_iaload dX6_copy_76 (pc' := 77) rfl (fun x76 => ?_)
              refine S_aload_n dX6_copy_77 rfl 0 rfl (pc' := 78) rfl ?_
              refine S_getR fl_X6_13 rfl dX6_copy_78 (pc' := 81) rfl (fun x78 => ?_)
              refine S_iload_n dX6_copy_81 rfl 2 rfl (pc' := 82) rfl ?_
              refine S_iaload dX6_copy_82 (pc' := 83) rfl (fun x82 => ?_)
              refine S_icmp_eq dX6_copy_83 93 rfl (pc' := 86) rfl (fun g83 => ?_) (fun g83 => ?_)
              · refine S_aload_n dX6_copy_93 rfl 0 rfl (pc' := 94) rfl ?_
                refine S_getR fl_X6_7 rfl dX6_copy_94 (pc' := 97) rfl (fun x94 => ?_)
                refine S_iload_n dX6_copy_97 rfl 1 rfl (pc' := 98) rfl ?_
                refine S_iaload dX6_copy_98 (pc' := 99) rfl (fun x98 => ?_)
                refine S_if_eq dX6_copy_99 111 rfl (pc' := 102) rfl (fun g99 => ?_) (fun g99 => ?_)
                · refine S_aload_n dX6_copy_111 rfl 0 rfl (pc' := 112) rfl ?_
                  refine S_bipush dX6_copy_112 (v := (-4)) rfl (pc' := 114) rfl ?_
                  refine S_invi ml_X6_108 mi_X6_refuse (ci := 6) ⟨_, rfl, rfl⟩ (by decide) dX6_copy_114 [.int (-4)] rfl (fun v h2 q => c_X6_refuse Z l _ _ _ q) ⟨Nat.le_of_ble_eq_true rfl, Nat.le_of_ble_eq_true rfl⟩ (rest := []) (Nat.le_of_ble_eq_true rfl) rfl (pc' := 117) rfl (fun x114 h114 => ?_)
                  exact S_iret rfl dX6_copy_117
                · refine S_aload_n dX6_copy_102 rfl 0 rfl (pc' := 103) rfl ?_
                  refine S_getR fl_X6_7 rfl dX6_copy_103 (pc' := 106) rfl (fun x103 => ?_)
                  refine S_iload_n dX6_copy_106 rfl 2 rfl (pc' := 107) rfl ?_
                  refine S_iaload dX6_copy_107 (pc' := 108) rfl (fun x107 => ?_)
                  refine S_if_ne dX6_copy_108 118 rfl (pc' := 111) rfl (fun g108 => ?_) (fun g108 => ?_)
                  · refine S_iload dX6_copy_118 5 rfl (pc' := 120) rfl ?_
                    refine S_if_lt dX6_copy_120 181 rfl (pc' := 123) rfl (fun g120 => ?_) (fun g120 => ?_)
                    · refine S_aload_n dX6_copy_181 rfl 0 rfl (pc' := 182) rfl ?_
                      refine S_bipush dX6_copy_182 (v := (-2)) rfl (pc' := 184) rfl ?_
                      refine S_invi ml_X6_108 mi_X6_refuse (ci := 6) ⟨_, rfl, rfl⟩ (by decide) dX6_copy_184 [.int (-2)] rfl (fun v h2 q => c_X6_refuse Z l _ _ _ q) ⟨Nat.le_of_ble_eq_true rfl, Nat.le_of_ble_eq_true rfl⟩ (rest := []) (Nat.le_of_ble_eq_true rfl) rfl (pc' := 187) rfl (fun x184 h184 => ?_)
                      exact S_iret rfl dX6_copy_187
                    · refine S_iload_n dX6_copy_123 rfl 3 rfl (pc' := 124) rfl ?_
                      refine S_if_lt dX6_copy_124 181 rfl (pc' := 127) rfl (fun g124 => ?_) (fun g124 => ?_)
                      · refine S_aload_n dX6_copy_181 rfl 0 rfl (pc' := 182) rfl ?_
                        refine S_bipush dX6_copy_182 (v := (-2)) rfl (pc' := 184) rfl ?_
                        refine S_invi ml_X6_108 mi_X6_refuse (ci := 6) ⟨_, rfl, rfl⟩ (by decide) dX6_copy_184 [.int (-2)] rfl (fun v h2 q => c_X6_refuse Z l _ _ _ q) ⟨Nat.le_of_ble_eq_true rfl, Nat.le_of_ble_eq_true rfl⟩ (rest := []) (Nat.le_of_ble_eq_true rfl) rfl (pc' := 187) rfl (fun x184 h184 => ?_)
                        exact S_iret rfl dX6_copy_187
                      · refine S_iload dX6_copy_127 4 rfl (pc' := 129) rfl ?_
                        refine S_if_lt dX6_copy_129 181 rfl (pc' := 132) rfl (fun g129 => ?_) (fun g129 => ?_)
                        · refine S_aload_n dX6_copy_181 rfl 0 rfl (pc' := 182) rfl ?_
                          refine S_bipush dX6_copy_182 (v := (-2)) rfl (pc' := 184) rfl ?_
                          refine S_invi ml_X6_108 mi_X6_refuse (ci := 6) ⟨_, rfl, rfl⟩ (by decide) dX6_copy_184 [.int (-2)] rfl (fun v h2 q => c_X6_refuse Z l _ _ _ q) ⟨Nat.le_of_ble_eq_true rfl, Nat.le_of_ble_eq_true rfl⟩ (rest := []) (Nat.le_of_ble_eq_true rfl) rfl (pc' := 187) rfl (fun x184 h184 => ?_)
                          exact S_iret rfl dX6_copy_187
                        · refine S_iload dX6_copy_132 5 rfl (pc' := 134) rfl ?_
                          refine S_aload_n dX6_copy_134 rfl 0 rfl (pc' := 135) rfl ?_
                          refine S_getR fl_X6_16 rfl dX6_copy_135 (pc' := 138) rfl (fun x135 => ?_)
                          refine S_iload_n dX6_copy_138 rfl 1 rfl (pc' := 139) rfl ?_
                          refine S_iaload dX6_copy_139 (pc' := 140) rfl (fun x139 => ?_)
                          refine S_icmp_gt dX6_copy_140 181 rfl (pc' := 143) rfl (fun g140 => ?_) (fun g140 => ?_)
                          · refine S_aload_n dX6_copy_181 rfl 0 rfl (pc' := 182) rfl ?_
                            refine S_bipush dX6_copy_182 (v := (-2)) rfl (pc' := 184) rfl ?_
                            refine S_invi ml_X6_108 mi_X6_refuse (ci := 6) ⟨_, rfl, rfl⟩ (by decide) dX6_copy_184 [.int (-2)] rfl (fun v h2 q => c_X6_refuse Z l _ _ _ q) ⟨Nat.le_of_ble_eq_true rfl, Nat.le_of_ble_eq_true rfl⟩ (rest := []) (Nat.le_of_ble_eq_true rfl) rfl (pc' := 187) rfl (fun x184 h184 => ?_)
                            exact S_iret rfl dX6_copy_187
                          · refine S_iload dX6_copy_143 5 rfl (pc' := 145) rfl ?_
                            refine S_aload_n dX6_copy_145 rfl 0 rfl (pc' := 146) rfl ?_
                            refine S_getR fl_X6_16 rfl dX6_copy_146 (pc' := 149) rfl (fun x146 => ?_)
                            refine S_iload_n dX6_copy_149 rfl 2 rfl (pc' := 150) rfl ?_
                            refine S_iaload dX6_copy_150 (pc' := 151) rfl (fun x150 => ?_)
                            refine S_icmp_gt dX6_copy_151 181 rfl (pc' := 154) rfl (fun g151 => ?_) (fun g151 => ?_)
                            · refine S_aload_n dX6_copy_181 rfl 0 rfl (pc' := 182) rfl ?_
                              refine S_bipush dX6_copy_182 (v := (-2)) rfl (pc' := 184) rfl ?_
                              refine S_invi ml_X6_108 mi_X6_refuse (ci := 6) ⟨_, rfl, rfl⟩ (by decide) dX6_copy_184 [.int (-2)] rfl (fun v h2 q => c_X6_refuse Z l _ _ _ q) ⟨Nat.le_of_ble_eq_true rfl, Nat.le_of_ble_eq_true rfl⟩ (rest := []) (Nat.le_of_ble_eq_true rfl) rfl (pc' := 187) rfl (fun x184 h184 => ?_)
                              exact S_iret rfl dX6_copy_187
                            · refine S_iload_n dX6_copy_154 rfl 3 rfl (pc' := 155) rfl ?_
                              refine S_aload_n dX6_copy_155 rfl 0 rfl (pc' := 156) rfl ?_
                              refine S_getR fl_X6_16 rfl dX6_copy_156 (pc' := 159) rfl (fun x156 => ?_)
                              refine S_iload_n dX6_copy_159 rfl 1 rfl (pc' := 160) rfl ?_
                              refine S_iaload dX6_copy_160 (pc' := 161) rfl (fun x160 => ?_)
                              refine S_iload dX6_copy_161 5 rfl (pc' := 163) rfl ?_
                              refine S_isub dX6_copy_163 (pc' := 164) rfl ?_
                              refine S_icmp_gt dX6_copy_164 181 rfl (pc' := 167) rfl (fun g164 => ?_) (fun g164 => ?_)
                              · refine S_aload_n dX6_copy_181 rfl 0 rfl (pc' := 182) rfl ?_
                                refine S_bipush dX6_copy_182 (v := (-2)) rfl (pc' := 184) rfl ?_
                                refine S_invi ml_X6_108 mi_X6_refuse (ci := 6) ⟨_, rfl, rfl⟩ (by decide) dX6_copy_184 [.int (-2)] rfl (fun v h2 q => c_X6_refuse Z l _ _ _ q) ⟨Nat.le_of_ble_eq_true rfl, Nat.le_of_ble_eq_true rfl⟩ (rest := []) (Nat.le_of_ble_eq_true rfl) rfl (pc' := 187) rfl (fun x184 h184 => ?_)
                                exact S_iret rfl dX6_copy_187
                              · refine S_iload dX6_copy_167 4 rfl (pc' := 169) rfl ?_
                                refine S_aload_n dX6_copy_169 rfl 0 rfl (pc' := 170) rfl ?_
                                refine S_getR fl_X6_16 rfl dX6_copy_170 (pc' := 173) rfl (fun x170 => ?_)
                                refine S_iload_n dX6_copy_173 rfl 2 rfl (pc' := 174) rfl ?_
                                refine S_iaload dX6_copy_174 (pc' := 175) rfl (fun x174 => ?_)
                                refine S_iload dX6_copy_175 5 rfl (pc' := 177) rfl ?_
                                refine S_isub dX6_copy_177 (pc' := 178) rfl ?_
                                refine S_icmp_le dX6_copy_178 188 rfl (pc' := 181) rfl (fun g178 => ?_) (fun g178 => ?_)
                                · refine S_iconst dX6_copy_188 (v := 0) rfl (pc' := 189) rfl ?_
                                  refine S_istore dX6_copy_189 (by decide) (lo' := [(6, .int 0), (0, .ref (zb Z + t)), (1, .int a1), (2, .int a2), (3, .int a3), (4, .int a4), (5, .int a5)]) rfl (pc' := 191) rfl ?_
                                  refine Sim.sub [1, 2, 3, 4, 5, 6, 0] rfl ?_
                                  refine lq_X6_copy_191 Z l t a1 a2 a3 a4 a5 _ ?_ 1000 _ _
                                  intro h191_
                                  refine S_iconst dX6_copy_222 (v := 0) rfl (pc' := 223) rfl ?_
                                  refine S_istore dX6_copy_223 (by decide) (lo' := [(6, .int 0), (0, .ref (zb Z + t)), (2, .int a2), (4, .int a4), (5, .int a5)]) rfl (pc' := 225) rfl ?_
                                  refine Sim.sub [1, 2, 3, 4, 0] rfl ?_
                                  refine lq_X6_copy_225 Z l t a2 a4 a5 _ ?_ 1000 _ _
                                  intro h225_
                                  refine S_iload dX6_copy_257 0 rfl (pc' := 259) rfl ?_
                                  exact S_iret rfl dX6_copy_259
                                · refine S_aload_n dX6_copy_181 rfl 0 rfl (pc' := 182) rfl ?_
                                  refine S_bipush dX6_copy_182 (v := (-2)) rfl (pc' := 184) rfl ?_
                                  refine S_invi ml_X6_108 mi_X6_refuse (ci := 6) ⟨_, rfl, rfl⟩ (by decide) dX6_copy_184 [.int (-2)] rfl (fun v h2 q => c_X6_refuse Z l _ _ _ q) ⟨Nat.le_of_ble_eq_true rfl, Nat.le_of_ble_eq_true rfl⟩ (rest := []) (Nat.le_of_ble_eq_true rfl) rfl (pc' := 187) rfl (fun x184 h184 => ?_)
                                  exact S_iret rfl dX6_copy_187
                  · refine S_aload_n dX6_copy_111 rfl 0 rfl (pc' := 112) rfl ?_
                    refine S_bipush dX6_copy_112 (v := (-4)) rfl (pc' := 114) rfl ?_
                    refine S_invi ml_X6_108 mi_X6_refuse (ci := 6) ⟨_, rfl, rfl⟩ (by decide) dX6_copy_114 [.int (-4)] rfl (fun v h2 q => c_X6_refuse Z l _ _ _ q) ⟨Nat.le_of_ble_eq_true rfl, Nat.le_of_ble_eq_true rfl⟩ (rest := []) (Nat.le_of_ble_eq_true rfl) rfl (pc' := 117) rfl (fun x114 h114 => ?_)
                    exact S_iret rfl dX6_copy_117
              · refine S_aload_n dX6_copy_86 rfl 0 rfl (pc' := 87) rfl ?_
                refine S_bipush dX6_copy_87 (v := (-3)) rfl (pc' := 89) rfl ?_
                refine S_invi ml_X6_108 mi_X6_refuse (ci := 6) ⟨_, rfl, rfl⟩ (by decide) dX6_copy_89 [.int (-3)] rfl (fun v h2 q => c_X6_refuse Z l _ _ _ q) ⟨Nat.le_of_ble_eq_true rfl, Nat.le_of_ble_eq_true rfl⟩ (rest := []) (Nat.le_of_ble_eq_true rfl) rfl (pc' := 92) rfl (fun x89 h89 => ?_)
                exact S_iret rfl dX6_copy_92
    · refine S_aload_n dX6_copy_24 rfl 0 rfl (pc' := 25) rfl ?_
      refine S_bipush dX6_copy_25 (v := (-2)) rfl (pc' := 27) rfl ?_
      refine S_invi ml_X6_108 mi_X6_refuse (ci := 6) ⟨_, rfl, rfl⟩ (by decide) dX6_copy_27 [.int (-2)] rfl (fun v h2 q => c_X6_refuse Z l _ _ _ q) ⟨Nat.le_of_ble_eq_true rfl, Nat.le_of_ble_eq_true rfl⟩ (rest := []) (Nat.le_of_ble_eq_true rfl) rfl (pc' := 30) rfl (fun x27 h27 => ?_)
      exact S_iret rfl dX6_copy_30
theorem dX6_element_0 : decode cX6_element 0 = .ok (.iload_n 1, 1) := by decide +kernel
theorem dX6_element_1 : decode cX6_element 1 = .ok (.i2l, 1) := by decide +kernel
theorem dX6_element_2 : decode cX6_element 2 = .ok (.lconst 0, 1) := by decide +kernel
theorem dX6_element_3 : decode cX6_element 3 = .ok (.ldc2_w 102, 3) := by decide +kernel
theorem dX6_element_6 : decode cX6_element 6 = .ok (.invokestatic 95, 3) := by decide +kernel
theorem dX6_element_9 : decode cX6_element 9 = .ok (.ifCond .eq 42, 3) := by decide +kernel
theorem dX6_element_12 : decode cX6_element 12 = .ok (.aload_n 0, 1) := by decide +kernel
theorem dX6_element_13 : decode cX6_element 13 = .ok (.getfield 7, 3) := by decide +kernel
theorem dX6_element_16 : decode cX6_element 16 = .ok (.iload_n 1, 1) := by decide +kernel
theorem dX6_element_17 : decode cX6_element 17 = .ok (.iaload, 1) := by decide +kernel
theorem dX6_element_18 : decode cX6_element 18 = .ok (.iconst 1, 1) := by decide +kernel
theorem dX6_element_19 : decode cX6_element 19 = .ok (.if_icmp .ne 32, 3) := by decide +kernel
theorem dX6_element_22 : decode cX6_element 22 = .ok (.iload_n 2, 1) := by decide +kernel
theorem dX6_element_23 : decode cX6_element 23 = .ok (.i2l, 1) := by decide +kernel
theorem dX6_element_24 : decode cX6_element 24 = .ok (.lconst 0, 1) := by decide +kernel
theorem dX6_element_25 : decode cX6_element 25 = .ok (.aload_n 0, 1) := by decide +kernel
theorem dX6_element_26 : decode cX6_element 26 = .ok (.getfield 16, 3) := by decide +kernel
theorem dX6_element_29 : decode cX6_element 29 = .ok (.iload_n 1, 1) := by decide +kernel
theorem dX6_element_30 : decode cX6_element 30 = .ok (.iaload, 1) := by decide +kernel
theorem dX6_element_31 : decode cX6_element 31 = .ok (.iconst 1, 1) := by decide +kernel
theorem dX6_element_32 : decode cX6_element 32 = .ok (.isub, 1) := by decide +kernel
theorem dX6_element_33 : decode cX6_element 33 = .ok (.i2l, 1) := by decide +kernel
theorem dX6_element_34 : decode cX6_element 34 = .ok (.invokestatic 95, 3) := by decide +kernel
theorem dX6_element_37 : decode cX6_element 37 = .ok (.ifCond .eq 14, 3) := by decide +kernel
theorem dX6_element_40 : decode cX6_element 40 = .ok (.aload_n 0, 1) := by decide +kernel
theorem dX6_element_41 : decode cX6_element 41 = .ok (.getfield 21, 3) := by decide +kernel
theorem dX6_element_44 : decode cX6_element 44 = .ok (.iload_n 1, 1) := by decide +kernel
theorem dX6_element_45 : decode cX6_element 45 = .ok (.aaload, 1) := by decide +kernel
theorem dX6_element_46 : decode cX6_element 46 = .ok (.iload_n 2, 1) := by decide +kernel
theorem dX6_element_47 : decode cX6_element 47 = .ok (.laload, 1) := by decide +kernel
theorem dX6_element_48 : decode cX6_element 48 = .ok (.goto 4, 3) := by decide +kernel
theorem dX6_element_51 : decode cX6_element 51 = .ok (.lconst 0, 1) := by decide +kernel
theorem dX6_element_52 : decode cX6_element 52 = .ok (.lreturn, 1) := by decide +kernel
set_option maxRecDepth 100000 in
set_option maxHeartbeats 4000000 in
theorem c_X6_element (Z : ZZ) (l : Launch) (t : Nat) (a1 : Int32) (a2 : Int32) (h : HP) {v : Int64} {h1 : HP} (ho : f_X6_element t a1 a2 h = some (v, h1)) : MetP Z l yX6_element cX6_element 3 (some .long) 1 25 [.ref (zb Z + t), .int a1, .int a2] h (some (.long v)) h1 := by
  refine MetP_of ho (by decide +kernel) (Nat.le_of_ble_eq_true rfl) [(0, .ref (zb Z + t)), (1, .int a1), (2, .int a2)] rfl (own := RX6) rfl (nm := "element") rfl ?_
  unfold f_X6_element
  refine S_iload_n dX6_element_0 rfl 1 rfl (pc' := 1) rfl ?_
  refine S_i2l dX6_element_1 (pc' := 2) rfl ?_
  refine S_lconst dX6_element_2 (v := 0) rfl (pc' := 3) rfl ?_
  refine S_ldc2 dX6_element_3 kc_X6_102 (pc' := 6) rfl ?_
  refine S_stai ml_X6_95 ms_X6_in dX6_element_6 [.long a1.toInt64, .long 0, .long 7] rfl (fun v h2 q => c_X6_in Z l _ _ _ _ q) ⟨Nat.le_of_ble_eq_true rfl, Nat.le_of_ble_eq_true rfl⟩ (rest := []) (Nat.le_of_ble_eq_true rfl) rfl (pc' := 9) rfl (fun x6 h6 => ?_)
  refine S_if_eq dX6_element_9 51 rfl (pc' := 12) rfl (fun g9 => ?_) (fun g9 => ?_)
  · refine S_lconst dX6_element_51 (v := 0) rfl (pc' := 52) rfl ?_
    exact S_lret rfl dX6_element_52
  · refine S_aload_n dX6_element_12 rfl 0 rfl (pc' := 13) rfl ?_
    refine S_getR fl_X6_7 rfl dX6_element_13 (pc' := 16) rfl (fun x13 => ?_)
    refine S_iload_n dX6_element_16 rfl 1 rfl (pc' := 17) rfl ?_
    refine S_iaload dX6_element_17 (pc' := 18) rfl (fun x17 => ?_)
    refine S_iconst dX6_element_18 (v := 1) rfl (pc' := 19) rfl ?_
    refine S_icmp_ne dX6_element_19 51 rfl (pc' := 22) rfl (fun g19 => ?_) (fun g19 => ?_)
    · refine S_lconst dX6_element_51 (v := 0) rfl (pc' := 52) rfl ?_
      exact S_lret rfl dX6_element_52
    · refine S_iload_n dX6_element_22 rfl 2 rfl (pc' := 23) rfl ?_
      refine S_i2l dX6_element_23 (pc' := 24) rfl ?_
      refine S_lconst dX6_element_24 (v := 0) rfl (pc' := 25) rfl ?_
      refine S_aload_n dX6_element_25 rfl 0 rfl (pc' := 26) rfl ?_
      refine S_getR fl_X6_16 rfl dX6_element_26 (pc' := 29) rfl (fun x26 => ?_)
      refine S_iload_n dX6_element_29 rfl 1 rfl (pc' := 30) rfl ?_
      refine S_iaload dX6_element_30 (pc' := 31) rfl (fun x30 => ?_)
      refine S_iconst dX6_element_31 (v := 1) rfl (pc' := 32) rfl ?_
      refine S_isub dX6_element_32 (pc' := 33) rfl ?_
      refine S_i2l dX6_element_33 (pc' := 34) rfl ?_
      refine S_stai ml_X6_95 ms_X6_in dX6_element_34 [.long a2.toInt64, .long 0, .long ((x30 - 1).toInt64)] rfl (fun v h2 q => c_X6_in Z l _ _ _ _ q) ⟨Nat.le_of_ble_eq_true rfl, Nat.le_of_ble_eq_true rfl⟩ (rest := []) (Nat.le_of_ble_eq_true rfl) rfl (pc' := 37) rfl (fun x34 h34 => ?_)
      refine S_if_eq dX6_element_37 51 rfl (pc' := 40) rfl (fun g37 => ?_) (fun g37 => ?_)
      · refine S_lconst dX6_element_51 (v := 0) rfl (pc' := 52) rfl ?_
        exact S_lret rfl dX6_element_52
      · refine S_aload_n dX6_element_40 rfl 0 rfl (pc' := 41) rfl ?_
        refine S_getR fl_X6_21 rfl dX6_element_41 (pc' := 44) rfl (fun x41 => ?_)
        refine S_iload_n dX6_element_44 rfl 1 rfl (pc' := 45) rfl ?_
        refine S_aaloadQ dX6_element_45 (pc' := 46) rfl (fun x45 => ?_)
        refine S_iload_n dX6_element_46 rfl 2 rfl (pc' := 47) rfl ?_
        refine S_laload dX6_element_47 (pc' := 48) rfl (fun x47 => ?_)
        refine S_goto dX6_element_48 52 rfl ?_
        exact S_lret rfl dX6_element_52
theorem dX6_holds_0 : decode cX6_holds 0 = .ok (.iload_n 1, 1) := by decide +kernel
theorem dX6_holds_1 : decode cX6_holds 1 = .ok (.i2l, 1) := by decide +kernel
theorem dX6_holds_2 : decode cX6_holds 2 = .ok (.lconst 0, 1) := by decide +kernel
theorem dX6_holds_3 : decode cX6_holds 3 = .ok (.ldc2_w 102, 3) := by decide +kernel
theorem dX6_holds_6 : decode cX6_holds 6 = .ok (.invokestatic 95, 3) := by decide +kernel
theorem dX6_holds_9 : decode cX6_holds 9 = .ok (.ifCond .eq 12, 3) := by decide +kernel
theorem dX6_holds_12 : decode cX6_holds 12 = .ok (.aload_n 0, 1) := by decide +kernel
theorem dX6_holds_13 : decode cX6_holds 13 = .ok (.getfield 7, 3) := by decide +kernel
theorem dX6_holds_16 : decode cX6_holds 16 = .ok (.iload_n 1, 1) := by decide +kernel
theorem dX6_holds_17 : decode cX6_holds 17 = .ok (.iaload, 1) := by decide +kernel
theorem dX6_holds_18 : decode cX6_holds 18 = .ok (.ifCond .ne 5, 3) := by decide +kernel
theorem dX6_holds_21 : decode cX6_holds 21 = .ok (.iconst (-1), 1) := by decide +kernel
theorem dX6_holds_22 : decode cX6_holds 22 = .ok (.ireturn, 1) := by decide +kernel
theorem dX6_holds_23 : decode cX6_holds 23 = .ok (.aload_n 0, 1) := by decide +kernel
theorem dX6_holds_24 : decode cX6_holds 24 = .ok (.getfield 7, 3) := by decide +kernel
theorem dX6_holds_27 : decode cX6_holds 27 = .ok (.iload_n 1, 1) := by decide +kernel
theorem dX6_holds_28 : decode cX6_holds 28 = .ok (.iaload, 1) := by decide +kernel
theorem dX6_holds_29 : decode cX6_holds 29 = .ok (.iconst 1, 1) := by decide +kernel
theorem dX6_holds_30 : decode cX6_holds 30 = .ok (.if_icmp .ne 12, 3) := by decide +kernel
theorem dX6_holds_33 : decode cX6_holds 33 = .ok (.aload_n 0, 1) := by decide +kernel
theorem dX6_holds_34 : decode cX6_holds 34 = .ok (.getfield 13, 3) := by decide +kernel
theorem dX6_holds_37 : decode cX6_holds 37 = .ok (.iload_n 1, 1) := by decide +kernel
theorem dX6_holds_38 : decode cX6_holds 38 = .ok (.iaload, 1) := by decide +kernel
theorem dX6_holds_39 : decode cX6_holds 39 = .ok (.goto 12, 3) := by decide +kernel
theorem dX6_holds_42 : decode cX6_holds 42 = .ok (.bipush 10, 2) := by decide +kernel
theorem dX6_holds_44 : decode cX6_holds 44 = .ok (.aload_n 0, 1) := by decide +kernel
theorem dX6_holds_45 : decode cX6_holds 45 = .ok (.getfield 28, 3) := by decide +kernel
theorem dX6_holds_48 : decode cX6_holds 48 = .ok (.iload_n 1, 1) := by decide +kernel
theorem dX6_holds_49 : decode cX6_holds 49 = .ok (.iaload, 1) := by decide +kernel
theorem dX6_holds_50 : decode cX6_holds 50 = .ok (.iadd, 1) := by decide +kernel
theorem dX6_holds_51 : decode cX6_holds 51 = .ok (.ireturn, 1) := by decide +kernel
set_option maxRecDepth 100000 in
set_option maxHeartbeats 4000000 in
theorem c_X6_holds (Z : ZZ) (l : Launch) (t : Nat) (a1 : Int32) (h : HP) {v : Int32} {h1 : HP} (ho : f_X6_holds t a1 h = some (v, h1)) : MetP Z l yX6_holds cX6_holds 2 (some .int) 1 25 [.ref (zb Z + t), .int a1] h (some (.int v)) h1 := by
  refine MetP_of ho (by decide +kernel) (Nat.le_of_ble_eq_true rfl) [(0, .ref (zb Z + t)), (1, .int a1)] rfl (own := RX6) rfl (nm := "holds") rfl ?_
  unfold f_X6_holds
  refine S_iload_n dX6_holds_0 rfl 1 rfl (pc' := 1) rfl ?_
  refine S_i2l dX6_holds_1 (pc' := 2) rfl ?_
  refine S_lconst dX6_holds_2 (v := 0) rfl (pc' := 3) rfl ?_
  refine S_ldc2 dX6_holds_3 kc_X6_102 (pc' := 6) rfl ?_
  refine S_stai ml_X6_95 ms_X6_in dX6_holds_6 [.long a1.toInt64, .long 0, .long 7] rfl (fun v h2 q => c_X6_in Z l _ _ _ _ q) ⟨Nat.le_of_ble_eq_true rfl, Nat.le_of_ble_eq_true rfl⟩ (rest := []) (Nat.le_of_ble_eq_true rfl) rfl (pc' := 9) rfl (fun x6 h6 => ?_)
  refine S_if_eq dX6_holds_9 21 rfl (pc' := 12) rfl (fun g9 => ?_) (fun g9 => ?_)
  · refine S_iconst dX6_holds_21 (v := (-1)) rfl (pc' := 22) rfl ?_
    exact S_iret rfl dX6_holds_22
  · refine S_aload_n dX6_holds_12 rfl 0 rfl (pc' := 13) rfl ?_
    refine S_getR fl_X6_7 rfl dX6_holds_13 (pc' := 16) rfl (fun x13 => ?_)
    refine S_iload_n dX6_holds_16 rfl 1 rfl (pc' := 17) rfl ?_
    refine S_iaload dX6_holds_17 (pc' := 18) rfl (fun x17 => ?_)
    refine S_if_ne dX6_holds_18 23 rfl (pc' := 21) rfl (fun g18 => ?_) (fun g18 => ?_)
    · refine S_aload_n dX6_holds_23 rfl 0 rfl (pc' := 24) rfl ?_
      refine S_getR fl_X6_7 rfl dX6_holds_24 (pc' := 27) rfl (fun x24 => ?_)
      refine S_iload_n dX6_holds_27 rfl 1 rfl (pc' := 28) rfl ?_
      refine S_iaload dX6_holds_28 (pc' := 29) rfl (fun x28 => ?_)
      refine S_iconst dX6_holds_29 (v := 1) rfl (pc' := 30) rfl ?_
      refine S_icmp_ne dX6_holds_30 42 rfl (pc' := 33) rfl (fun g30 => ?_) (fun g30 => ?_)
      · refine S_bipush dX6_holds_42 (v := 10) rfl (pc' := 44) rfl ?_
        refine S_aload_n dX6_holds_44 rfl 0 rfl (pc' := 45) rfl ?_
        refine S_getR fl_X6_28 rfl dX6_holds_45 (pc' := 48) rfl (fun x45 => ?_)
        refine S_iload_n dX6_holds_48 rfl 1 rfl (pc' := 49) rfl ?_
        refine S_iaload dX6_holds_49 (pc' := 50) rfl (fun x49 => ?_)
        refine S_iadd dX6_holds_50 (pc' := 51) rfl ?_
        exact S_iret rfl dX6_holds_51
      · refine S_aload_n dX6_holds_33 rfl 0 rfl (pc' := 34) rfl ?_
        refine S_getR fl_X6_13 rfl dX6_holds_34 (pc' := 37) rfl (fun x34 => ?_)
        refine S_iload_n dX6_holds_37 rfl 1 rfl (pc' := 38) rfl ?_
        refine S_iaload dX6_holds_38 (pc' := 39) rfl (fun x38 => ?_)
        refine S_goto dX6_holds_39 51 rfl ?_
        exact S_iret rfl dX6_holds_51
    · refine S_iconst dX6_holds_21 (v := (-1)) rfl (pc' := 22) rfl ?_
      exact S_iret rfl dX6_holds_22
theorem dX6_show_0 : decode cX6_show 0 = .ok (.iload_n 1, 1) := by decide +kernel
theorem dX6_show_1 : decode cX6_show 1 = .ok (.i2l, 1) := by decide +kernel
theorem dX6_show_2 : decode cX6_show 2 = .ok (.lconst 0, 1) := by decide +kernel
theorem dX6_show_3 : decode cX6_show 3 = .ok (.ldc2_w 102, 3) := by decide +kernel
theorem dX6_show_6 : decode cX6_show 6 = .ok (.invokestatic 95, 3) := by decide +kernel
theorem dX6_show_9 : decode cX6_show 9 = .ok (.ifCond .eq 16, 3) := by decide +kernel
theorem dX6_show_12 : decode cX6_show 12 = .ok (.iload_n 2, 1) := by decide +kernel
theorem dX6_show_13 : decode cX6_show 13 = .ok (.iconst (-1), 1) := by decide +kernel
theorem dX6_show_14 : decode cX6_show 14 = .ok (.if_icmp .eq 18, 3) := by decide +kernel
theorem dX6_show_17 : decode cX6_show 17 = .ok (.aload_n 0, 1) := by decide +kernel
theorem dX6_show_18 : decode cX6_show 18 = .ok (.iload_n 2, 1) := by decide +kernel
theorem dX6_show_19 : decode cX6_show 19 = .ok (.invokevirtual 119, 3) := by decide +kernel
theorem dX6_show_22 : decode cX6_show 22 = .ok (.ifCond .ne 10, 3) := by decide +kernel
theorem dX6_show_25 : decode cX6_show 25 = .ok (.aload_n 0, 1) := by decide +kernel
theorem dX6_show_26 : decode cX6_show 26 = .ok (.bipush (-2), 2) := by decide +kernel
theorem dX6_show_28 : decode cX6_show 28 = .ok (.invokevirtual 108, 3) := by decide +kernel
theorem dX6_show_31 : decode cX6_show 31 = .ok (.ireturn, 1) := by decide +kernel
theorem dX6_show_32 : decode cX6_show 32 = .ok (.aload_n 0, 1) := by decide +kernel
theorem dX6_show_33 : decode cX6_show 33 = .ok (.getfield 7, 3) := by decide +kernel
theorem dX6_show_36 : decode cX6_show 36 = .ok (.iload_n 1, 1) := by decide +kernel
theorem dX6_show_37 : decode cX6_show 37 = .ok (.iload_n 2, 1) := by decide +kernel
theorem dX6_show_38 : decode cX6_show 38 = .ok (.iconst (-1), 1) := by decide +kernel
theorem dX6_show_39 : decode cX6_show 39 = .ok (.if_icmp .ne 7, 3) := by decide +kernel
theorem dX6_show_42 : decode cX6_show 42 = .ok (.iconst 0, 1) := by decide +kernel
theorem dX6_show_43 : decode cX6_show 43 = .ok (.goto 4, 3) := by decide +kernel
theorem dX6_show_46 : decode cX6_show 46 = .ok (.iconst 2, 1) := by decide +kernel
theorem dX6_show_47 : decode cX6_show 47 = .ok (.iastore, 1) := by decide +kernel
theorem dX6_show_48 : decode cX6_show 48 = .ok (.aload_n 0, 1) := by decide +kernel
theorem dX6_show_49 : decode cX6_show 49 = .ok (.getfield 28, 3) := by decide +kernel
theorem dX6_show_52 : decode cX6_show 52 = .ok (.iload_n 1, 1) := by decide +kernel
theorem dX6_show_53 : decode cX6_show 53 = .ok (.iload_n 2, 1) := by decide +kernel
theorem dX6_show_54 : decode cX6_show 54 = .ok (.iastore, 1) := by decide +kernel
theorem dX6_show_55 : decode cX6_show 55 = .ok (.iconst 1, 1) := by decide +kernel
theorem dX6_show_56 : decode cX6_show 56 = .ok (.ireturn, 1) := by decide +kernel
set_option maxRecDepth 100000 in
set_option maxHeartbeats 4000000 in
theorem c_X6_show (Z : ZZ) (l : Launch) (t : Nat) (a1 : Int32) (a2 : Int32) (h : HP) {v : Int32} {h1 : HP} (ho : f_X6_show t a1 a2 h = some (v, h1)) : MetP Z l yX6_show cX6_show 3 (some .int) 2 46 [.ref (zb Z + t), .int a1, .int a2] h (some (.int v)) h1 := by
  refine MetP_of ho (by decide +kernel) (Nat.le_of_ble_eq_true rfl) [(0, .ref (zb Z + t)), (1, .int a1), (2, .int a2)] rfl (own := RX6) rfl (nm := "show") rfl ?_
  unfold f_X6_show
  refine S_iload_n dX6_show_0 rfl 1 rfl (pc' := 1) rfl ?_
  refine S_i2l dX6_show_1 (pc' := 2) rfl ?_
  refine S_lconst dX6_show_2 (v := 0) rfl (pc' := 3) rfl ?_
  refine S_ldc2 dX6_show_3 kc_X6_102 (pc' := 6) rfl ?_
  refine S_stai ml_X6_95 ms_X6_in dX6_show_6 [.long a1.toInt64, .long 0, .long 7] rfl (fun v h2 q => c_X6_in Z l _ _ _ _ q) ⟨Nat.le_of_ble_eq_true rfl, Nat.le_of_ble_eq_true rfl⟩ (rest := []) (Nat.le_of_ble_eq_true rfl) rfl (pc' := 9) rfl (fun x6 h6 => ?_)
  refine S_if_eq dX6_show_9 25 rfl (pc' := 12) rfl (fun g9 => ?_) (fun g9 => ?_)
  · refine S_aload_n dX6_show_25 rfl 0 rfl (pc' := 26) rfl ?_
    refine S_bipush dX6_show_26 (v := (-2)) rfl (pc' := 28) rfl ?_
    refine S_invi ml_X6_108 mi_X6_refuse (ci := 6) ⟨_, rfl, rfl⟩ (by decide) dX6_show_28 [.int (-2)] rfl (fun v h2 q => c_X6_refuse Z l _ _ _ q) ⟨Nat.le_of_ble_eq_true rfl, Nat.le_of_ble_eq_true rfl⟩ (rest := []) (Nat.le_of_ble_eq_true rfl) rfl (pc' := 31) rfl (fun x28 h28 => ?_)
    exact S_iret rfl dX6_show_31
  · refine S_iload_n dX6_show_12 rfl 2 rfl (pc' := 13) rfl ?_
    refine S_iconst dX6_show_13 (v := (-1)) rfl (pc' := 14) rfl ?_
    refine S_icmp_eq dX6_show_14 32 rfl (pc' := 17) rfl (fun g14 => ?_) (fun g14 => ?_)
    · refine S_aload_n dX6_show_32 rfl 0 rfl (pc' := 33) rfl ?_
      refine S_getR fl_X6_7 rfl dX6_show_33 (pc' := 36) rfl (fun x33 => ?_)
      refine S_iload_n dX6_show_36 rfl 1 rfl (pc' := 37) rfl ?_
      refine S_iload_n dX6_show_37 rfl 2 rfl (pc' := 38) rfl ?_
      refine S_iconst dX6_show_38 (v := (-1)) rfl (pc' := 39) rfl ?_
      refine S_icmp_ne_N dX6_show_39 46 rfl (pc' := 42) rfl g14 ?_
      refine S_iconst dX6_show_42 (v := 0) rfl (pc' := 43) rfl ?_
      refine S_goto dX6_show_43 47 rfl ?_
      refine S_iastore dX6_show_47 (pc' := 48) rfl (fun h47 => ?_)
      refine S_aload_n dX6_show_48 rfl 0 rfl (pc' := 49) rfl ?_
      refine S_getR fl_X6_28 rfl dX6_show_49 (pc' := 52) rfl (fun x49 => ?_)
      refine S_iload_n dX6_show_52 rfl 1 rfl (pc' := 53) rfl ?_
      refine S_iload_n dX6_show_53 rfl 2 rfl (pc' := 54) rfl ?_
      refine S_iastore dX6_show_54 (pc' := 55) rfl (fun h54 => ?_)
      refine S_iconst dX6_show_55 (v := 1) rfl (pc' := 56) rfl ?_
      exact S_iret rfl dX6_show_56
    · refine S_aload_n dX6_show_17 rfl 0 rfl (pc' := 18) rfl ?_
      refine S_iload_n dX6_show_18 rfl 2 rfl (pc' := 19) rfl ?_
      refine S_invi ml_X6_119 mi_X6_isPerson (ci := 6) ⟨_, rfl, rfl⟩ (by decide) dX6_show_19 [.int a2] rfl (fun v h2 q => c_X6_isPerson Z l _ _ _ q) ⟨Nat.le_of_ble_eq_true rfl, Nat.le_of_ble_eq_true rfl⟩ (rest := []) (Nat.le_of_ble_eq_true rfl) rfl (pc' := 22) rfl (fun x19 h19 => ?_)
      refine S_if_ne dX6_show_22 32 rfl (pc' := 25) rfl (fun g22 => ?_) (fun g22 => ?_)
      · refine S_aload_n dX6_show_32 rfl 0 rfl (pc' := 33) rfl ?_
        refine S_getR fl_X6_7 rfl dX6_show_33 (pc' := 36) rfl (fun x33 => ?_)
        refine S_iload_n dX6_show_36 rfl 1 rfl (pc' := 37) rfl ?_
        refine S_iload_n dX6_show_37 rfl 2 rfl (pc' := 38) rfl ?_
        refine S_iconst dX6_show_38 (v := (-1)) rfl (pc' := 39) rfl ?_
        refine S_icmp_ne_J dX6_show_39 46 rfl (pc' := 42) rfl g14 ?_
        refine S_iconst dX6_show_46 (v := 2) rfl (pc' := 47) rfl ?_
        refine S_iastore dX6_show_47 (pc' := 48) rfl (fun h47 => ?_)
        refine S_aload_n dX6_show_48 rfl 0 rfl (pc' := 49) rfl ?_
        refine S_getR fl_X6_28 rfl dX6_show_49 (pc' := 52) rfl (fun x49 => ?_)
        refine S_iload_n dX6_show_52 rfl 1 rfl (pc' := 53) rfl ?_
        refine S_iload_n dX6_show_53 rfl 2 rfl (pc' := 54) rfl ?_
        refine S_iastore dX6_show_54 (pc' := 55) rfl (fun h54 => ?_)
        refine S_iconst dX6_show_55 (v := 1) rfl (pc' := 56) rfl ?_
        exact S_iret rfl dX6_show_56
      · refine S_aload_n dX6_show_25 rfl 0 rfl (pc' := 26) rfl ?_
        refine S_bipush dX6_show_26 (v := (-2)) rfl (pc' := 28) rfl ?_
        refine S_invi ml_X6_108 mi_X6_refuse (ci := 6) ⟨_, rfl, rfl⟩ (by decide) dX6_show_28 [.int (-2)] rfl (fun v h2 q => c_X6_refuse Z l _ _ _ q) ⟨Nat.le_of_ble_eq_true rfl, Nat.le_of_ble_eq_true rfl⟩ (rest := []) (Nat.le_of_ble_eq_true rfl) rfl (pc' := 31) rfl (fun x28 h28 => ?_)
        exact S_iret rfl dX6_show_31
theorem dX6_isUnder_0 : decode cX6_isUnder 0 = .ok (.iload_n 1, 1) := by decide +kernel
theorem dX6_isUnder_1 : decode cX6_isUnder 1 = .ok (.ifCond .eq 28, 3) := by decide +kernel
theorem dX6_isUnder_4 : decode cX6_isUnder 4 = .ok (.iload_n 0, 1) := by decide +kernel
theorem dX6_isUnder_5 : decode cX6_isUnder 5 = .ok (.iload_n 1, 1) := by decide +kernel
theorem dX6_isUnder_6 : decode cX6_isUnder 6 = .ok (.if_icmp .eq 23, 3) := by decide +kernel
theorem dX6_isUnder_9 : decode cX6_isUnder 9 = .ok (.iload_n 1, 1) := by decide +kernel
theorem dX6_isUnder_10 : decode cX6_isUnder 10 = .ok (.iconst 1, 1) := by decide +kernel
theorem dX6_isUnder_11 : decode cX6_isUnder 11 = .ok (.if_icmp .ne 8, 3) := by decide +kernel
theorem dX6_isUnder_14 : decode cX6_isUnder 14 = .ok (.iload_n 0, 1) := by decide +kernel
theorem dX6_isUnder_15 : decode cX6_isUnder 15 = .ok (.iconst 3, 1) := by decide +kernel
theorem dX6_isUnder_16 : decode cX6_isUnder 16 = .ok (.if_icmp .eq 13, 3) := by decide +kernel
theorem dX6_isUnder_19 : decode cX6_isUnder 19 = .ok (.iload_n 1, 1) := by decide +kernel
theorem dX6_isUnder_20 : decode cX6_isUnder 20 = .ok (.iconst 2, 1) := by decide +kernel
theorem dX6_isUnder_21 : decode cX6_isUnder 21 = .ok (.if_icmp .ne 12, 3) := by decide +kernel
theorem dX6_isUnder_24 : decode cX6_isUnder 24 = .ok (.iload_n 0, 1) := by decide +kernel
theorem dX6_isUnder_25 : decode cX6_isUnder 25 = .ok (.iconst 4, 1) := by decide +kernel
theorem dX6_isUnder_26 : decode cX6_isUnder 26 = .ok (.if_icmp .ne 7, 3) := by decide +kernel
theorem dX6_isUnder_29 : decode cX6_isUnder 29 = .ok (.iconst 1, 1) := by decide +kernel
theorem dX6_isUnder_30 : decode cX6_isUnder 30 = .ok (.goto 4, 3) := by decide +kernel
theorem dX6_isUnder_33 : decode cX6_isUnder 33 = .ok (.iconst 0, 1) := by decide +kernel
theorem dX6_isUnder_34 : decode cX6_isUnder 34 = .ok (.ireturn, 1) := by decide +kernel
set_option maxRecDepth 100000 in
set_option maxHeartbeats 4000000 in
theorem c_X6_isUnder (Z : ZZ) (l : Launch) (a0 : Int32) (a1 : Int32) (h : HP) {v : Int32} {h1 : HP} (ho : f_X6_isUnder a0 a1 h = some (v, h1)) : MetP Z l yX6_isUnder cX6_isUnder 2 (some .boolean) 0 0 [.int a0, .int a1] h (some (.int v)) h1 := by
  refine MetP_of ho (by decide +kernel) (Nat.le_of_ble_eq_true rfl) [(0, .int a0), (1, .int a1)] rfl (own := RX6) rfl (nm := "isUnder") rfl ?_
  unfold f_X6_isUnder
  refine S_iload_n dX6_isUnder_0 rfl 1 rfl (pc' := 1) rfl ?_
  refine S_if_eq dX6_isUnder_1 29 rfl (pc' := 4) rfl (fun g1 => ?_) (fun g1 => ?_)
  · refine S_iconst dX6_isUnder_29 (v := 1) rfl (pc' := 30) rfl ?_
    refine S_goto dX6_isUnder_30 34 rfl ?_
    exact S_zret rfl dX6_isUnder_34
  · refine S_iload_n dX6_isUnder_4 rfl 0 rfl (pc' := 5) rfl ?_
    refine S_iload_n dX6_isUnder_5 rfl 1 rfl (pc' := 6) rfl ?_
    refine S_icmp_eq dX6_isUnder_6 29 rfl (pc' := 9) rfl (fun g6 => ?_) (fun g6 => ?_)
    · refine S_iconst dX6_isUnder_29 (v := 1) rfl (pc' := 30) rfl ?_
      refine S_goto dX6_isUnder_30 34 rfl ?_
      exact S_zret rfl dX6_isUnder_34
    · refine S_iload_n dX6_isUnder_9 rfl 1 rfl (pc' := 10) rfl ?_
      refine S_iconst dX6_isUnder_10 (v := 1) rfl (pc' := 11) rfl ?_
      refine S_icmp_ne dX6_isUnder_11 19 rfl (pc' := 14) rfl (fun g11 => ?_) (fun g11 => ?_)
      · refine S_iload_n dX6_isUnder_19 rfl 1 rfl (pc' := 20) rfl ?_
        refine S_iconst dX6_isUnder_20 (v := 2) rfl (pc' := 21) rfl ?_
        refine S_icmp_ne dX6_isUnder_21 33 rfl (pc' := 24) rfl (fun g21 => ?_) (fun g21 => ?_)
        · refine S_iconst dX6_isUnder_33 (v := 0) rfl (pc' := 34) rfl ?_
          exact S_zret rfl dX6_isUnder_34
        · refine S_iload_n dX6_isUnder_24 rfl 0 rfl (pc' := 25) rfl ?_
          refine S_iconst dX6_isUnder_25 (v := 4) rfl (pc' := 26) rfl ?_
          refine S_icmp_ne dX6_isUnder_26 33 rfl (pc' := 29) rfl (fun g26 => ?_) (fun g26 => ?_)
          · refine S_iconst dX6_isUnder_33 (v := 0) rfl (pc' := 34) rfl ?_
            exact S_zret rfl dX6_isUnder_34
          · refine S_iconst dX6_isUnder_29 (v := 1) rfl (pc' := 30) rfl ?_
            refine S_goto dX6_isUnder_30 34 rfl ?_
            exact S_zret rfl dX6_isUnder_34
      · refine S_iload_n dX6_isUnder_14 rfl 0 rfl (pc' := 15) rfl ?_
        refine S_iconst dX6_isUnder_15 (v := 3) rfl (pc' := 16) rfl ?_
        refine S_icmp_eq dX6_isUnder_16 29 rfl (pc' := 19) rfl (fun g16 => ?_) (fun g16 => ?_)
        · refine S_iconst dX6_isUnder_29 (v := 1) rfl (pc' := 30) rfl ?_
          refine S_goto dX6_isUnder_30 34 rfl ?_
          exact S_zret rfl dX6_isUnder_34
        · refine S_iload_n dX6_isUnder_19 rfl 1 rfl (pc' := 20) rfl ?_
          refine S_iconst dX6_isUnder_20 (v := 2) rfl (pc' := 21) rfl ?_
          refine S_icmp_ne_J dX6_isUnder_21 33 rfl (pc' := 24) rfl (fun q9 => absurd (g11.symm.trans q9) (by decide)) ?_
          refine S_iconst dX6_isUnder_33 (v := 0) rfl (pc' := 34) rfl ?_
          exact S_zret rfl dX6_isUnder_34
theorem dX6_held_0 : decode cX6_held 0 = .ok (.iload_n 0, 1) := by decide +kernel
theorem dX6_held_1 : decode cX6_held 1 = .ok (.ifCond .ge 7, 3) := by decide +kernel
theorem dX6_held_4 : decode cX6_held 4 = .ok (.iconst 0, 1) := by decide +kernel
theorem dX6_held_5 : decode cX6_held 5 = .ok (.goto 4, 3) := by decide +kernel
theorem dX6_held_8 : decode cX6_held 8 = .ok (.iload_n 0, 1) := by decide +kernel
theorem dX6_held_9 : decode cX6_held 9 = .ok (.ireturn, 1) := by decide +kernel
set_option maxRecDepth 100000 in
set_option maxHeartbeats 4000000 in
theorem c_X6_held (Z : ZZ) (l : Launch) (a0 : Int32) (h : HP) {v : Int32} {h1 : HP} (ho : f_X6_held a0 h = some (v, h1)) : MetP Z l yX6_held cX6_held 1 (some .int) 0 0 [.int a0] h (some (.int v)) h1 := by
  refine MetP_of ho (by decide +kernel) (Nat.le_of_ble_eq_true rfl) [(0, .int a0)] rfl (own := RX6) rfl (nm := "held") rfl ?_
  unfold f_X6_held
  refine S_iload_n dX6_held_0 rfl 0 rfl (pc' := 1) rfl ?_
  refine S_if_ge dX6_held_1 8 rfl (pc' := 4) rfl (fun g1 => ?_) (fun g1 => ?_)
  · refine S_iload_n dX6_held_8 rfl 0 rfl (pc' := 9) rfl ?_
    exact S_iret rfl dX6_held_9
  · refine S_iconst dX6_held_4 (v := 0) rfl (pc' := 5) rfl ?_
    refine S_goto dX6_held_5 9 rfl ?_
    exact S_iret rfl dX6_held_9
theorem dX6_holdBy_0 : decode cX6_holdBy 0 = .ok (.aload_n 0, 1) := by decide +kernel
theorem dX6_holdBy_1 : decode cX6_holdBy 1 = .ok (.getfield 47, 3) := by decide +kernel
theorem dX6_holdBy_4 : decode cX6_holdBy 4 = .ok (.iload_n 1, 1) := by decide +kernel
theorem dX6_holdBy_5 : decode cX6_holdBy 5 = .ok (.iaload, 1) := by decide +kernel
theorem dX6_holdBy_6 : decode cX6_holdBy 6 = .ok (.iload_n 2, 1) := by decide +kernel
theorem dX6_holdBy_7 : decode cX6_holdBy 7 = .ok (.iadd, 1) := by decide +kernel
theorem dX6_holdBy_8 : decode cX6_holdBy 8 = .ok (.aload_n 0, 1) := by decide +kernel
theorem dX6_holdBy_9 : decode cX6_holdBy 9 = .ok (.getfield 50, 3) := by decide +kernel
theorem dX6_holdBy_12 : decode cX6_holdBy 12 = .ok (.iload_n 1, 1) := by decide +kernel
theorem dX6_holdBy_13 : decode cX6_holdBy 13 = .ok (.iaload, 1) := by decide +kernel
theorem dX6_holdBy_14 : decode cX6_holdBy 14 = .ok (.isub, 1) := by decide +kernel
theorem dX6_holdBy_15 : decode cX6_holdBy 15 = .ok (.invokestatic 264, 3) := by decide +kernel
theorem dX6_holdBy_18 : decode cX6_holdBy 18 = .ok (.istore_n 3, 1) := by decide +kernel
theorem dX6_holdBy_19 : decode cX6_holdBy 19 = .ok (.aload_n 0, 1) := by decide +kernel
theorem dX6_holdBy_20 : decode cX6_holdBy 20 = .ok (.getfield 41, 3) := by decide +kernel
theorem dX6_holdBy_23 : decode cX6_holdBy 23 = .ok (.iload_n 1, 1) := by decide +kernel
theorem dX6_holdBy_24 : decode cX6_holdBy 24 = .ok (.iaload, 1) := by decide +kernel
theorem dX6_holdBy_25 : decode cX6_holdBy 25 = .ok (.tableswitch 89 1 5 #[35, 63, 47, 73, 85], 35) := by decide +kernel
theorem dX6_holdBy_60 : decode cX6_holdBy 60 = .ok (.iload_n 3, 1) := by decide +kernel
theorem dX6_holdBy_61 : decode cX6_holdBy 61 = .ok (.aload_n 0, 1) := by decide +kernel
theorem dX6_holdBy_62 : decode cX6_holdBy 62 = .ok (.getfield 44, 3) := by decide +kernel
theorem dX6_holdBy_65 : decode cX6_holdBy 65 = .ok (.iload_n 1, 1) := by decide +kernel
theorem dX6_holdBy_66 : decode cX6_holdBy 66 = .ok (.iaload, 1) := by decide +kernel
theorem dX6_holdBy_67 : decode cX6_holdBy 67 = .ok (.isub, 1) := by decide +kernel
theorem dX6_holdBy_68 : decode cX6_holdBy 68 = .ok (.invokestatic 264, 3) := by decide +kernel
theorem dX6_holdBy_71 : decode cX6_holdBy 71 = .ok (.ireturn, 1) := by decide +kernel
theorem dX6_holdBy_72 : decode cX6_holdBy 72 = .ok (.iload_n 3, 1) := by decide +kernel
theorem dX6_holdBy_73 : decode cX6_holdBy 73 = .ok (.aload_n 0, 1) := by decide +kernel
theorem dX6_holdBy_74 : decode cX6_holdBy 74 = .ok (.getfield 44, 3) := by decide +kernel
theorem dX6_holdBy_77 : decode cX6_holdBy 77 = .ok (.iload_n 1, 1) := by decide +kernel
theorem dX6_holdBy_78 : decode cX6_holdBy 78 = .ok (.iaload, 1) := by decide +kernel
theorem dX6_holdBy_79 : decode cX6_holdBy 79 = .ok (.isub, 1) := by decide +kernel
theorem dX6_holdBy_80 : decode cX6_holdBy 80 = .ok (.invokestatic 264, 3) := by decide +kernel
theorem dX6_holdBy_83 : decode cX6_holdBy 83 = .ok (.iconst 1, 1) := by decide +kernel
theorem dX6_holdBy_84 : decode cX6_holdBy 84 = .ok (.iadd, 1) := by decide +kernel
theorem dX6_holdBy_85 : decode cX6_holdBy 85 = .ok (.iconst 2, 1) := by decide +kernel
theorem dX6_holdBy_86 : decode cX6_holdBy 86 = .ok (.idiv, 1) := by decide +kernel
theorem dX6_holdBy_87 : decode cX6_holdBy 87 = .ok (.ireturn, 1) := by decide +kernel
theorem dX6_holdBy_88 : decode cX6_holdBy 88 = .ok (.iload_n 3, 1) := by decide +kernel
theorem dX6_holdBy_89 : decode cX6_holdBy 89 = .ok (.aload_n 0, 1) := by decide +kernel
theorem dX6_holdBy_90 : decode cX6_holdBy 90 = .ok (.getfield 37, 3) := by decide +kernel
theorem dX6_holdBy_93 : decode cX6_holdBy 93 = .ok (.isub, 1) := by decide +kernel
theorem dX6_holdBy_94 : decode cX6_holdBy 94 = .ok (.invokestatic 264, 3) := by decide +kernel
theorem dX6_holdBy_97 : decode cX6_holdBy 97 = .ok (.ireturn, 1) := by decide +kernel
theorem dX6_holdBy_98 : decode cX6_holdBy 98 = .ok (.iload_n 3, 1) := by decide +kernel
theorem dX6_holdBy_99 : decode cX6_holdBy 99 = .ok (.aload_n 0, 1) := by decide +kernel
theorem dX6_holdBy_100 : decode cX6_holdBy 100 = .ok (.getfield 37, 3) := by decide +kernel
theorem dX6_holdBy_103 : decode cX6_holdBy 103 = .ok (.isub, 1) := by decide +kernel
theorem dX6_holdBy_104 : decode cX6_holdBy 104 = .ok (.invokestatic 264, 3) := by decide +kernel
theorem dX6_holdBy_107 : decode cX6_holdBy 107 = .ok (.iconst 5, 1) := by decide +kernel
theorem dX6_holdBy_108 : decode cX6_holdBy 108 = .ok (.iadd, 1) := by decide +kernel
theorem dX6_holdBy_109 : decode cX6_holdBy 109 = .ok (.ireturn, 1) := by decide +kernel
theorem dX6_holdBy_110 : decode cX6_holdBy 110 = .ok (.iconst 2, 1) := by decide +kernel
theorem dX6_holdBy_111 : decode cX6_holdBy 111 = .ok (.iload_n 3, 1) := by decide +kernel
theorem dX6_holdBy_112 : decode cX6_holdBy 112 = .ok (.imul, 1) := by decide +kernel
theorem dX6_holdBy_113 : decode cX6_holdBy 113 = .ok (.ireturn, 1) := by decide +kernel
theorem dX6_holdBy_114 : decode cX6_holdBy 114 = .ok (.iload_n 3, 1) := by decide +kernel
theorem dX6_holdBy_115 : decode cX6_holdBy 115 = .ok (.ireturn, 1) := by decide +kernel
set_option maxRecDepth 100000 in
set_option maxHeartbeats 4000000 in
theorem c_X6_holdBy (Z : ZZ) (l : Launch) (t : Nat) (a1 : Int32) (a2 : Int32) (h : HP) {v : Int32} {h1 : HP} (ho : f_X6_holdBy t a1 a2 h = some (v, h1)) : MetP Z l yX6_holdBy cX6_holdBy 4 (some .int) 1 20 [.ref (zb Z + t), .int a1, .int a2] h (some (.int v)) h1 := by
  refine MetP_of ho (by decide +kernel) (Nat.le_of_ble_eq_true rfl) [(0, .ref (zb Z + t)), (1, .int a1), (2, .int a2)] rfl (own := RX6) rfl (nm := "holdBy") rfl ?_
  unfold f_X6_holdBy
  refine S_aload_n dX6_holdBy_0 rfl 0 rfl (pc' := 1) rfl ?_
  refine S_getR fl_X6_47 rfl dX6_holdBy_1 (pc' := 4) rfl (fun x1 => ?_)
  refine S_iload_n dX6_holdBy_4 rfl 1 rfl (pc' := 5) rfl ?_
  refine S_iaload dX6_holdBy_5 (pc' := 6) rfl (fun x5 => ?_)
  refine S_iload_n dX6_holdBy_6 rfl 2 rfl (pc' := 7) rfl ?_
  refine S_iadd dX6_holdBy_7 (pc' := 8) rfl ?_
  refine S_aload_n dX6_holdBy_8 rfl 0 rfl (pc' := 9) rfl ?_
  refine S_getR fl_X6_50 rfl dX6_holdBy_9 (pc' := 12) rfl (fun x9 => ?_)
  refine S_iload_n dX6_holdBy_12 rfl 1 rfl (pc' := 13) rfl ?_
  refine S_iaload dX6_holdBy_13 (pc' := 14) rfl (fun x13 => ?_)
  refine S_isub dX6_holdBy_14 (pc' := 15) rfl ?_
  refine S_stai ml_X6_264 ms_X6_held dX6_holdBy_15 [.int ((x5 + a2) - x13)] rfl (fun v h2 q => c_X6_held Z l _ _ q) ⟨Nat.le_of_ble_eq_true rfl, Nat.le_of_ble_eq_true rfl⟩ (rest := []) (Nat.le_of_ble_eq_true rfl) rfl (pc' := 18) rfl (fun x15 h15 => ?_)
  refine S_istore_n dX6_holdBy_18 rfl (by decide) (lo' := [(3, .int x15), (0, .ref (zb Z + t)), (1, .int a1), (2, .int a2)]) rfl (pc' := 19) rfl ?_
  refine S_aload_n dX6_holdBy_19 rfl 1 rfl (pc' := 20) rfl ?_
  refine S_getR fl_X6_41 rfl dX6_holdBy_20 (pc' := 23) rfl (fun x20 => ?_)
  refine S_iload_n dX6_holdBy_23 rfl 2 rfl (pc' := 24) rfl ?_
  refine S_iaload dX6_holdBy_24 (pc' := 25) rfl (fun x24 => ?_)
  refine Sim.ite (fun g25_0 => ?_) (fun g25_0 => ?_)
  · refine S_tabIn dX6_holdBy_25 g25_0 0 rfl (by decide) (off := 35) rfl 60 rfl ?_
    refine S_iload_n dX6_holdBy_60 rfl 0 rfl (pc' := 61) rfl ?_
    refine S_aload_n dX6_holdBy_61 rfl 1 rfl (pc' := 62) rfl ?_
    refine S_getR fl_X6_44 rfl dX6_holdBy_62 (pc' := 65) rfl (fun x62 => ?_)
    refine S_iload_n dX6_holdBy_65 rfl 2 rfl (pc' := 66) rfl ?_
    refine S_iaload dX6_holdBy_66 (pc' := 67) rfl (fun x66 => ?_)
    refine S_isub dX6_holdBy_67 (pc' := 68) rfl ?_
    refine S_stai ml_X6_264 ms_X6_held dX6_holdBy_68 [.int (x15 - x66)] rfl (fun v h2 q => c_X6_held Z l _ _ q) ⟨Nat.le_of_ble_eq_true rfl, Nat.le_of_ble_eq_true rfl⟩ (rest := []) (Nat.le_of_ble_eq_true rfl) rfl (pc' := 71) rfl (fun x68 h68 => ?_)
    exact S_iret rfl dX6_holdBy_71
  refine Sim.ite (fun g25_1 => ?_) (fun g25_1 => ?_)
  · refine S_tabIn dX6_holdBy_25 g25_1 1 rfl (by decide) (off := 63) rfl 88 rfl ?_
    refine S_iload_n dX6_holdBy_88 rfl 0 rfl (pc' := 89) rfl ?_
    refine S_aload_n dX6_holdBy_89 rfl 1 rfl (pc' := 90) rfl ?_
    refine S_getI fl_X6_37 rfl dX6_holdBy_90 (pc' := 93) rfl (fun x90 => ?_)
    refine S_isub dX6_holdBy_93 (pc' := 94) rfl ?_
    refine S_stai ml_X6_264 ms_X6_held dX6_holdBy_94 [.int (x15 - x90)] rfl (fun v h2 q => c_X6_held Z l _ _ q) ⟨Nat.le_of_ble_eq_true rfl, Nat.le_of_ble_eq_true rfl⟩ (rest := []) (Nat.le_of_ble_eq_true rfl) rfl (pc' := 97) rfl (fun x94 h94 => ?_)
    exact S_iret rfl dX6_holdBy_97
  refine Sim.ite (fun g25_2 => ?_) (fun g25_2 => ?_)
  · refine S_tabIn dX6_holdBy_25 g25_2 2 rfl (by decide) (off := 47) rfl 72 rfl ?_
    refine S_iload_n dX6_holdBy_72 rfl 0 rfl (pc' := 73) rfl ?_
    refine S_aload_n dX6_holdBy_73 rfl 1 rfl (pc' := 74) rfl ?_
    refine S_getR fl_X6_44 rfl dX6_holdBy_74 (pc' := 77) rfl (fun x74 => ?_)
    refine S_iload_n dX6_holdBy_77 rfl 2 rfl (pc' := 78) rfl ?_
    refine S_iaload dX6_holdBy_78 (pc' := 79) rfl (fun x78 => ?_)
    refine S_isub dX6_holdBy_79 (pc' := 80) rfl ?_
    refine S_stai ml_X6_264 ms_X6_held dX6_holdBy_80 [.int (x15 - x78)] rfl (fun v h2 q => c_X6_held Z l _ _ q) ⟨Nat.le_of_ble_eq_true rfl, Nat.le_of_ble_eq_true rfl⟩ (rest := []) (Nat.le_of_ble_eq_true rfl) rfl (pc' := 83) rfl (fun x80 h80 => ?_)
    refine S_iconst dX6_holdBy_83 (v := 1) rfl (pc' := 84) rfl ?_
    refine S_iadd dX6_holdBy_84 (pc' := 85) rfl ?_
    refine S_iconst dX6_holdBy_85 (v := 2) rfl (pc' := 86) rfl ?_
    refine S_idiv dX6_holdBy_86 (pc' := 87) rfl ?_
    exact S_iret rfl dX6_holdBy_87
  refine Sim.ite (fun g25_3 => ?_) (fun g25_3 => ?_)
  · refine S_tabIn dX6_holdBy_25 g25_3 3 rfl (by decide) (off := 73) rfl 98 rfl ?_
    refine S_iload_n dX6_holdBy_98 rfl 0 rfl (pc' := 99) rfl ?_
    refine S_aload_n dX6_holdBy_99 rfl 1 rfl (pc' := 100) rfl ?_
    refine S_getI fl_X6_37 rfl dX6_holdBy_100 (pc' := 103) rfl (fun x100 => ?_)
    refine S_isub dX6_holdBy_103 (pc' := 104) rfl ?_
    refine S_stai ml_X6_264 ms_X6_held dX6_holdBy_104 [.int (x15 - x100)] rfl (fun v h2 q => c_X6_held Z l _ _ q) ⟨Nat.le_of_ble_eq_true rfl, Nat.le_of_ble_eq_true rfl⟩ (rest := []) (Nat.le_of_ble_eq_true rfl) rfl (pc' := 107) rfl (fun x104 h104 => ?_)
    refine S_iconst dX6_holdBy_107 (v := 5) rfl (pc' := 108) rfl ?_
    refine S_iadd dX6_holdBy_108 (pc' := 109) rfl ?_
    exact S_iret rfl dX6_holdBy_109
  refine Sim.ite (fun g25_4 => ?_) (fun g25_4 => ?_)
  · refine S_tabIn dX6_holdBy_25 g25_4 4 rfl (by decide) (off := 85) rfl 110 rfl ?_
    refine S_iconst dX6_holdBy_110 (v := 2) rfl (pc' := 111) rfl ?_
    refine S_iload_n dX6_holdBy_111 rfl 0 rfl (pc' := 112) rfl ?_
    refine S_imul dX6_holdBy_112 (pc' := 113) rfl ?_
    exact S_iret rfl dX6_holdBy_113
  refine S_tabOut dX6_holdBy_25 (by
      have q0 := i32_ne g25_0
      have q1 := i32_ne g25_1
      have q2 := i32_ne g25_2
      have q3 := i32_ne g25_3
      have q4 := i32_ne g25_4
      simp only [show Int32.toInt 1 = 1 from rfl, show Int32.toInt 2 = 2 from rfl, show Int32.toInt 3 = 3 from rfl, show Int32.toInt 4 = 4 from rfl, show Int32.toInt 5 = 5 from rfl] at q0 q1 q2 q3 q4
      omega) 114 rfl ?_
  refine S_iload_n dX6_holdBy_114 rfl 0 rfl (pc' := 115) rfl ?_
  exact S_iret rfl dX6_holdBy_115
theorem dX6_says_0 : decode cX6_says 0 = .ok (.iload_n 1, 1) := by decide +kernel
theorem dX6_says_1 : decode cX6_says 1 = .ok (.i2l, 1) := by decide +kernel
theorem dX6_says_2 : decode cX6_says 2 = .ok (.lconst 0, 1) := by decide +kernel
theorem dX6_says_3 : decode cX6_says 3 = .ok (.ldc2_w 102, 3) := by decide +kernel
theorem dX6_says_6 : decode cX6_says 6 = .ok (.invokestatic 95, 3) := by decide +kernel
theorem dX6_says_9 : decode cX6_says 9 = .ok (.ifCond .eq 15, 3) := by decide +kernel
theorem dX6_says_12 : decode cX6_says 12 = .ok (.iload_n 2, 1) := by decide +kernel
theorem dX6_says_13 : decode cX6_says 13 = .ok (.i2l, 1) := by decide +kernel
theorem dX6_says_14 : decode cX6_says 14 = .ok (.lconst 0, 1) := by decide +kernel
theorem dX6_says_15 : decode cX6_says 15 = .ok (.ldc2_w 123, 3) := by decide +kernel
theorem dX6_says_18 : decode cX6_says 18 = .ok (.invokestatic 95, 3) := by decide +kernel
theorem dX6_says_21 : decode cX6_says 21 = .ok (.ifCond .ne 10, 3) := by decide +kernel
theorem dX6_says_24 : decode cX6_says 24 = .ok (.aload_n 0, 1) := by decide +kernel
theorem dX6_says_25 : decode cX6_says 25 = .ok (.bipush (-2), 2) := by decide +kernel
theorem dX6_says_27 : decode cX6_says 27 = .ok (.invokevirtual 108, 3) := by decide +kernel
theorem dX6_says_30 : decode cX6_says 30 = .ok (.ireturn, 1) := by decide +kernel
theorem dX6_says_31 : decode cX6_says 31 = .ok (.aload_n 0, 1) := by decide +kernel
theorem dX6_says_32 : decode cX6_says 32 = .ok (.getfield 7, 3) := by decide +kernel
theorem dX6_says_35 : decode cX6_says 35 = .ok (.iload_n 1, 1) := by decide +kernel
theorem dX6_says_36 : decode cX6_says 36 = .ok (.iaload, 1) := by decide +kernel
theorem dX6_says_37 : decode cX6_says 37 = .ok (.iconst 1, 1) := by decide +kernel
theorem dX6_says_38 : decode cX6_says 38 = .ok (.if_icmp .eq 31, 3) := by decide +kernel
theorem dX6_says_41 : decode cX6_says 41 = .ok (.aload_n 0, 1) := by decide +kernel
theorem dX6_says_42 : decode cX6_says 42 = .ok (.getfield 7, 3) := by decide +kernel
theorem dX6_says_45 : decode cX6_says 45 = .ok (.iload_n 1, 1) := by decide +kernel
theorem dX6_says_46 : decode cX6_says 46 = .ok (.iaload, 1) := by decide +kernel
theorem dX6_says_47 : decode cX6_says 47 = .ok (.iconst 2, 1) := by decide +kernel
theorem dX6_says_48 : decode cX6_says 48 = .ok (.if_icmp .ne 28, 3) := by decide +kernel
theorem dX6_says_51 : decode cX6_says 51 = .ok (.aload_n 0, 1) := by decide +kernel
theorem dX6_says_52 : decode cX6_says 52 = .ok (.getfield 41, 3) := by decide +kernel
theorem dX6_says_55 : decode cX6_says 55 = .ok (.aload_n 0, 1) := by decide +kernel
theorem dX6_says_56 : decode cX6_says 56 = .ok (.getfield 28, 3) := by decide +kernel
theorem dX6_says_59 : decode cX6_says 59 = .ok (.iload_n 1, 1) := by decide +kernel
theorem dX6_says_60 : decode cX6_says 60 = .ok (.iaload, 1) := by decide +kernel
theorem dX6_says_61 : decode cX6_says 61 = .ok (.iaload, 1) := by decide +kernel
theorem dX6_says_62 : decode cX6_says 62 = .ok (.iload_n 2, 1) := by decide +kernel
theorem dX6_says_63 : decode cX6_says 63 = .ok (.invokestatic 125, 3) := by decide +kernel
theorem dX6_says_66 : decode cX6_says 66 = .ok (.ifCond .ne 10, 3) := by decide +kernel
theorem dX6_says_69 : decode cX6_says 69 = .ok (.aload_n 0, 1) := by decide +kernel
theorem dX6_says_70 : decode cX6_says 70 = .ok (.bipush (-3), 2) := by decide +kernel
theorem dX6_says_72 : decode cX6_says 72 = .ok (.invokevirtual 108, 3) := by decide +kernel
theorem dX6_says_75 : decode cX6_says 75 = .ok (.ireturn, 1) := by decide +kernel
theorem dX6_says_76 : decode cX6_says 76 = .ok (.aload_n 0, 1) := by decide +kernel
theorem dX6_says_77 : decode cX6_says 77 = .ok (.getfield 7, 3) := by decide +kernel
theorem dX6_says_80 : decode cX6_says 80 = .ok (.iload_n 1, 1) := by decide +kernel
theorem dX6_says_81 : decode cX6_says 81 = .ok (.iaload, 1) := by decide +kernel
theorem dX6_says_82 : decode cX6_says 82 = .ok (.ifCond .ne 10, 3) := by decide +kernel
theorem dX6_says_85 : decode cX6_says 85 = .ok (.aload_n 0, 1) := by decide +kernel
theorem dX6_says_86 : decode cX6_says 86 = .ok (.bipush (-4), 2) := by decide +kernel
theorem dX6_says_88 : decode cX6_says 88 = .ok (.invokevirtual 108, 3) := by decide +kernel
theorem dX6_says_91 : decode cX6_says 91 = .ok (.ireturn, 1) := by decide +kernel
theorem dX6_says_92 : decode cX6_says 92 = .ok (.iload_n 2, 1) := by decide +kernel
theorem dX6_says_93 : decode cX6_says 93 = .ok (.ifCond .ne 17, 3) := by decide +kernel
theorem dX6_says_96 : decode cX6_says 96 = .ok (.aload_n 0, 1) := by decide +kernel
theorem dX6_says_97 : decode cX6_says 97 = .ok (.getfield 47, 3) := by decide +kernel
theorem dX6_says_100 : decode cX6_says 100 = .ok (.aload_n 0, 1) := by decide +kernel
theorem dX6_says_101 : decode cX6_says 101 = .ok (.getfield 28, 3) := by decide +kernel
theorem dX6_says_104 : decode cX6_says 104 = .ok (.iload_n 1, 1) := by decide +kernel
theorem dX6_says_105 : decode cX6_says 105 = .ok (.iaload, 1) := by decide +kernel
theorem dX6_says_106 : decode cX6_says 106 = .ok (.iaload, 1) := by decide +kernel
theorem dX6_says_107 : decode cX6_says 107 = .ok (.goto 14, 3) := by decide +kernel
theorem dX6_says_110 : decode cX6_says 110 = .ok (.aload_n 0, 1) := by decide +kernel
theorem dX6_says_111 : decode cX6_says 111 = .ok (.aload_n 0, 1) := by decide +kernel
theorem dX6_says_112 : decode cX6_says 112 = .ok (.getfield 28, 3) := by decide +kernel
theorem dX6_says_115 : decode cX6_says 115 = .ok (.iload_n 1, 1) := by decide +kernel
theorem dX6_says_116 : decode cX6_says 116 = .ok (.iaload, 1) := by decide +kernel
theorem dX6_says_117 : decode cX6_says 117 = .ok (.iconst 0, 1) := by decide +kernel
theorem dX6_says_118 : decode cX6_says 118 = .ok (.invokevirtual 129, 3) := by decide +kernel
theorem dX6_says_121 : decode cX6_says 121 = .ok (.ireturn, 1) := by decide +kernel
set_option maxRecDepth 100000 in
set_option maxHeartbeats 4000000 in
theorem c_X6_says (Z : ZZ) (l : Launch) (t : Nat) (a1 : Int32) (a2 : Int32) (h : HP) {v : Int32} {h1 : HP} (ho : f_X6_says t a1 a2 h = some (v, h1)) : MetP Z l yX6_says cX6_says 3 (some .int) 2 43 [.ref (zb Z + t), .int a1, .int a2] h (some (.int v)) h1 := by
  refine MetP_of ho (by decide +kernel) (Nat.le_of_ble_eq_true rfl) [(0, .ref (zb Z + t)), (1, .int a1), (2, .int a2)] rfl (own := RX6) rfl (nm := "says") rfl ?_
  unfold f_X6_says
  refine S_iload_n dX6_says_0 rfl 1 rfl (pc' := 1) rfl ?_
  refine S_i2l dX6_says_1 (pc' := 2) rfl ?_
  refine S_lconst dX6_says_2 (v := 0) rfl (pc' := 3) rfl ?_
  refine S_ldc2 dX6_says_3 kc_X6_102 (pc' := 6) rfl ?_
  refine S_stai ml_X6_95 ms_X6_in dX6_says_6 [.long a1.toInt64, .long 0, .long 7] rfl (fun v h2 q => c_X6_in Z l _ _ _ _ q) ⟨Nat.le_of_ble_eq_true rfl, Nat.le_of_ble_eq_true rfl⟩ (rest := []) (Nat.le_of_ble_eq_true rfl) rfl (pc' := 9) rfl (fun x6 h6 => ?_)
  refine S_if_eq dX6_says_9 24 rfl (pc' := 12) rfl (fun g9 => ?_) (fun g9 => ?_)
  · refine S_aload_n dX6_says_24 rfl 0 rfl (pc' := 25) rfl ?_
    refine S_bipush dX6_says_25 (v := (-2)) rfl (pc' := 27) rfl ?_
    refine S_invi ml_X6_108 mi_X6_refuse (ci := 6) ⟨_, rfl, rfl⟩ (by decide) dX6_says_27 [.int (-2)] rfl (fun v h2 q => c_X6_refuse Z l _ _ _ q) ⟨Nat.le_of_ble_eq_true rfl, Nat.le_of_ble_eq_true rfl⟩ (rest := []) (Nat.le_of_ble_eq_true rfl) rfl (pc' := 30) rfl (fun x27 h27 => ?_)
    exact S_iret rfl dX6_says_30
  · refine S_iload_n dX6_says_12 rfl 2 rfl (pc' := 13) rfl ?_
    refine S_i2l dX6_says_13 (pc' := 14) rfl ?_
    refine S_lconst dX6_says_14 (v := 0) rfl (pc' := 15) rfl ?_
    refine S_ldc2 dX6_says_15 kc_X6_123 (pc' := 18) rfl ?_
    refine S_stai ml_X6_95 ms_X6_in dX6_says_18 [.long a2.toInt64, .long 0, .long 5] rfl (fun v h2 q => c_X6_in Z l _ _ _ _ q) ⟨Nat.le_of_ble_eq_true rfl, Nat.le_of_ble_eq_true rfl⟩ (rest := []) (Nat.le_of_ble_eq_true rfl) rfl (pc' := 21) rfl (fun x18 h18 => ?_)
    refine S_if_ne dX6_says_21 31 rfl (pc' := 24) rfl (fun g21 => ?_) (fun g21 => ?_)
    · refine S_aload_n dX6_says_31 rfl 0 rfl (pc' := 32) rfl ?_
      refine S_getR fl_X6_7 rfl dX6_says_32 (pc' := 35) rfl (fun x32 => ?_)
      refine S_iload_n dX6_says_35 rfl 1 rfl (pc' := 36) rfl ?_
      refine S_iaload dX6_says_36 (pc' := 37) rfl (fun x36 => ?_)
      refine S_iconst dX6_says_37 (v := 1) rfl (pc' := 38) rfl ?_
      refine S_icmp_eq dX6_says_38 69 rfl (pc' := 41) rfl (fun g38 => ?_) (fun g38 => ?_)
      · refine S_aload_n dX6_says_69 rfl 0 rfl (pc' := 70) rfl ?_
        refine S_bipush dX6_says_70 (v := (-3)) rfl (pc' := 72) rfl ?_
        refine S_invi ml_X6_108 mi_X6_refuse (ci := 6) ⟨_, rfl, rfl⟩ (by decide) dX6_says_72 [.int (-3)] rfl (fun v h2 q => c_X6_refuse Z l _ _ _ q) ⟨Nat.le_of_ble_eq_true rfl, Nat.le_of_ble_eq_true rfl⟩ (rest := []) (Nat.le_of_ble_eq_true rfl) rfl (pc' := 75) rfl (fun x72 h72 => ?_)
        exact S_iret rfl dX6_says_75
      · refine S_aload_n dX6_says_41 rfl 0 rfl (pc' := 42) rfl ?_
        refine S_getR fl_X6_7 rfl dX6_says_42 (pc' := 45) rfl (fun x42 => ?_)
        refine S_iload_n dX6_says_45 rfl 1 rfl (pc' := 46) rfl ?_
        refine S_iaload dX6_says_46 (pc' := 47) rfl (fun x46 => ?_)
        refine S_iconst dX6_says_47 (v := 2) rfl (pc' := 48) rfl ?_
        refine S_icmp_ne dX6_says_48 76 rfl (pc' := 51) rfl (fun g48 => ?_) (fun g48 => ?_)
        · refine S_aload_n dX6_says_76 rfl 0 rfl (pc' := 77) rfl ?_
          refine S_getR fl_X6_7 rfl dX6_says_77 (pc' := 80) rfl (fun x77 => ?_)
          refine S_iload_n dX6_says_80 rfl 1 rfl (pc' := 81) rfl ?_
          refine S_iaload dX6_says_81 (pc' := 82) rfl (fun x81 => ?_)
          refine S_if_ne dX6_says_82 92 rfl (pc' := 85) rfl (fun g82 => ?_) (fun g82 => ?_)
          · refine S_iload_n dX6_says_92 rfl 2 rfl (pc' := 93) rfl ?_
            refine S_if_ne dX6_says_93 110 rfl (pc' := 96) rfl (fun g93 => ?_) (fun g93 => ?_)
            · refine S_aload_n dX6_says_110 rfl 0 rfl (pc' := 111) rfl ?_
              refine S_aload_n dX6_says_111 rfl 0 rfl (pc' := 112) rfl ?_
              refine S_getR fl_X6_28 rfl dX6_says_112 (pc' := 115) rfl (fun x112 => ?_)
              refine S_iload_n dX6_says_115 rfl 1 rfl (pc' := 116) rfl ?_
              refine S_iaload dX6_says_116 (pc' := 117) rfl (fun x116 => ?_)
              refine S_iconst dX6_says_117 (v := 0) rfl (pc' := 118) rfl ?_
              refine S_invi ml_X6_129 mi_X6_holdBy (ci := 6) ⟨_, rfl, rfl⟩ (by decide) dX6_says_118 [.int x116, .int 0] rfl (fun v h2 q => c_X6_holdBy Z l _ _ _ _ q) ⟨Nat.le_of_ble_eq_true rfl, Nat.le_of_ble_eq_true rfl⟩ (rest := []) (Nat.le_of_ble_eq_true rfl) rfl (pc' := 121) rfl (fun x118 h118 => ?_)
              exact S_iret rfl dX6_says_121
            · refine S_aload_n dX6_says_96 rfl 0 rfl (pc' := 97) rfl ?_
              refine S_getR fl_X6_47 rfl dX6_says_97 (pc' := 100) rfl (fun x97 => ?_)
              refine S_aload_n dX6_says_100 rfl 0 rfl (pc' := 101) rfl ?_
              refine S_getR fl_X6_28 rfl dX6_says_101 (pc' := 104) rfl (fun x101 => ?_)
              refine S_iload_n dX6_says_104 rfl 1 rfl (pc' := 105) rfl ?_
              refine S_iaload dX6_says_105 (pc' := 106) rfl (fun x105 => ?_)
              refine S_iaload dX6_says_106 (pc' := 107) rfl (fun x106 => ?_)
              refine S_goto dX6_says_107 121 rfl ?_
              exact S_iret rfl dX6_says_121
          · refine S_aload_n dX6_says_85 rfl 0 rfl (pc' := 86) rfl ?_
            refine S_bipush dX6_says_86 (v := (-4)) rfl (pc' := 88) rfl ?_
            refine S_invi ml_X6_108 mi_X6_refuse (ci := 6) ⟨_, rfl, rfl⟩ (by decide) dX6_says_88 [.int (-4)] rfl (fun v h2 q => c_X6_refuse Z l _ _ _ q) ⟨Nat.le_of_ble_eq_true rfl, Nat.le_of_ble_eq_true rfl⟩ (rest := []) (Nat.le_of_ble_eq_true rfl) rfl (pc' := 91) rfl (fun x88 h88 => ?_)
            exact S_iret rfl dX6_says_91
        · refine S_aload_n dX6_says_51 rfl 0 rfl (pc' := 52) rfl ?_
          refine S_getR fl_X6_41 rfl dX6_says_52 (pc' := 55) rfl (fun x52 => ?_)
          refine S_aload_n dX6_says_55 rfl 0 rfl (pc' := 56) rfl ?_
          refine S_getR fl_X6_28 rfl dX6_says_56 (pc' := 59) rfl (fun x56 => ?_)
          refine S_iload_n dX6_says_59 rfl 1 rfl (pc' := 60) rfl ?_
          refine S_iaload dX6_says_60 (pc' := 61) rfl (fun x60 => ?_)
          refine S_iaload dX6_says_61 (pc' := 62) rfl (fun x61 => ?_)
          refine S_iload_n dX6_says_62 rfl 2 rfl (pc' := 63) rfl ?_
          refine S_stai ml_X6_125 ms_X6_isUnder dX6_says_63 [.int x61, .int a2] rfl (fun v h2 q => c_X6_isUnder Z l _ _ _ q) ⟨Nat.le_of_ble_eq_true rfl, Nat.le_of_ble_eq_true rfl⟩ (rest := []) (Nat.le_of_ble_eq_true rfl) rfl (pc' := 66) rfl (fun x63 h63 => ?_)
          refine S_if_ne dX6_says_66 76 rfl (pc' := 69) rfl (fun g66 => ?_) (fun g66 => ?_)
          · refine S_aload_n dX6_says_76 rfl 0 rfl (pc' := 77) rfl ?_
            refine S_getR fl_X6_7 rfl dX6_says_77 (pc' := 80) rfl (fun x77 => ?_)
            refine S_iload_n dX6_says_80 rfl 1 rfl (pc' := 81) rfl ?_
            refine S_iaload dX6_says_81 (pc' := 82) rfl (fun x81 => ?_)
            refine S_if_ne dX6_says_82 92 rfl (pc' := 85) rfl (fun g82 => ?_) (fun g82 => ?_)
            · refine S_iload_n dX6_says_92 rfl 2 rfl (pc' := 93) rfl ?_
              refine S_if_ne dX6_says_93 110 rfl (pc' := 96) rfl (fun g93 => ?_) (fun g93 => ?_)
              · refine S_aload_n dX6_says_110 rfl 0 rfl (pc' := 111) rfl ?_
                refine S_aload_n dX6_says_111 rfl 0 rfl (pc' := 112) rfl ?_
                refine S_getR fl_X6_28 rfl dX6_says_112 (pc' := 115) rfl (fun x112 => ?_)
                refine S_iload_n dX6_says_115 rfl 1 rfl (pc' := 116) rfl ?_
                refine S_iaload dX6_says_116 (pc' := 117) rfl (fun x116 => ?_)
                refine S_iconst dX6_says_117 (v := 0) rfl (pc' := 118) rfl ?_
                refine S_invi ml_X6_129 mi_X6_holdBy (ci := 6) ⟨_, rfl, rfl⟩ (by decide) dX6_says_118 [.int x116, .int 0] rfl (fun v h2 q => c_X6_holdBy Z l _ _ _ _ q) ⟨Nat.le_of_ble_eq_true rfl, Nat.le_of_ble_eq_true rfl⟩ (rest := []) (Nat.le_of_ble_eq_true rfl) rfl (pc' := 121) rfl (fun x118 h118 => ?_)
                exact S_iret rfl dX6_says_121
              · refine S_aload_n dX6_says_96 rfl 0 rfl (pc' := 97) rfl ?_
                refine S_getR fl_X6_47 rfl dX6_says_97 (pc' := 100) rfl (fun x97 => ?_)
                refine S_aload_n dX6_says_100 rfl 0 rfl (pc' := 101) rfl ?_
                refine S_getR fl_X6_28 rfl dX6_says_101 (pc' := 104) rfl (fun x101 => ?_)
                refine S_iload_n dX6_says_104 rfl 1 rfl (pc' := 105) rfl ?_
                refine S_iaload dX6_says_105 (pc' := 106) rfl (fun x105 => ?_)
                refine S_iaload dX6_says_106 (pc' := 107) rfl (fun x106 => ?_)
                refine S_goto dX6_says_107 121 rfl ?_
                exact S_iret rfl dX6_says_121
            · refine S_aload_n dX6_says_85 rfl 0 rfl (pc' := 86) rfl ?_
              refine S_bipush dX6_says_86 (v := (-4)) rfl (pc' := 88) rfl ?_
              refine S_invi ml_X6_108 mi_X6_refuse (ci := 6) ⟨_, rfl, rfl⟩ (by decide) dX6_says_88 [.int (-4)] rfl (fun v h2 q => c_X6_refuse Z l _ _ _ q) ⟨Nat.le_of_ble_eq_true rfl, Nat.le_of_ble_eq_true rfl⟩ (rest := []) (Nat.le_of_ble_eq_true rfl) rfl (pc' := 91) rfl (fun x88 h88 => ?_)
              exact S_iret rfl dX6_says_91
          · refine S_aload_n dX6_says_69 rfl 0 rfl (pc' := 70) rfl ?_
            refine S_bipush dX6_says_70 (v := (-3)) rfl (pc' := 72) rfl ?_
            refine S_invi ml_X6_108 mi_X6_refuse (ci := 6) ⟨_, rfl, rfl⟩ (by decide) dX6_says_72 [.int (-3)] rfl (fun v h2 q => c_X6_refuse Z l _ _ _ q) ⟨Nat.le_of_ble_eq_true rfl, Nat.le_of_ble_eq_true rfl⟩ (rest := []) (Nat.le_of_ble_eq_true rfl) rfl (pc' := 75) rfl (fun x72 h72 => ?_)
            exact S_iret rfl dX6_says_75
    · refine S_aload_n dX6_says_24 rfl 0 rfl (pc' := 25) rfl ?_
      refine S_bipush dX6_says_25 (v := (-2)) rfl (pc' := 27) rfl ?_
      refine S_invi ml_X6_108 mi_X6_refuse (ci := 6) ⟨_, rfl, rfl⟩ (by decide) dX6_says_27 [.int (-2)] rfl (fun v h2 q => c_X6_refuse Z l _ _ _ q) ⟨Nat.le_of_ble_eq_true rfl, Nat.le_of_ble_eq_true rfl⟩ (rest := []) (Nat.le_of_ble_eq_true rfl) rfl (pc' := 30) rfl (fun x27 h27 => ?_)
      exact S_iret rfl dX6_says_30
theorem dX6_addPerson_0 : decode cX6_addPerson 0 = .ok (.aload_n 0, 1) := by decide +kernel
theorem dX6_addPerson_1 : decode cX6_addPerson 1 = .ok (.getfield 41, 3) := by decide +kernel
theorem dX6_addPerson_4 : decode cX6_addPerson 4 = .ok (.aload_n 0, 1) := by decide +kernel
theorem dX6_addPerson_5 : decode cX6_addPerson 5 = .ok (.getfield 92, 3) := by decide +kernel
theorem dX6_addPerson_8 : decode cX6_addPerson 8 = .ok (.iload_n 1, 1) := by decide +kernel
theorem dX6_addPerson_9 : decode cX6_addPerson 9 = .ok (.iastore, 1) := by decide +kernel
theorem dX6_addPerson_10 : decode cX6_addPerson 10 = .ok (.aload_n 0, 1) := by decide +kernel
theorem dX6_addPerson_11 : decode cX6_addPerson 11 = .ok (.getfield 44, 3) := by decide +kernel
theorem dX6_addPerson_14 : decode cX6_addPerson 14 = .ok (.aload_n 0, 1) := by decide +kernel
theorem dX6_addPerson_15 : decode cX6_addPerson 15 = .ok (.getfield 92, 3) := by decide +kernel
theorem dX6_addPerson_18 : decode cX6_addPerson 18 = .ok (.iload_n 2, 1) := by decide +kernel
theorem dX6_addPerson_19 : decode cX6_addPerson 19 = .ok (.iastore, 1) := by decide +kernel
theorem dX6_addPerson_20 : decode cX6_addPerson 20 = .ok (.aload_n 0, 1) := by decide +kernel
theorem dX6_addPerson_21 : decode cX6_addPerson 21 = .ok (.getfield 47, 3) := by decide +kernel
theorem dX6_addPerson_24 : decode cX6_addPerson 24 = .ok (.aload_n 0, 1) := by decide +kernel
theorem dX6_addPerson_25 : decode cX6_addPerson 25 = .ok (.getfield 92, 3) := by decide +kernel
theorem dX6_addPerson_28 : decode cX6_addPerson 28 = .ok (.iload_n 3, 1) := by decide +kernel
theorem dX6_addPerson_29 : decode cX6_addPerson 29 = .ok (.iastore, 1) := by decide +kernel
theorem dX6_addPerson_30 : decode cX6_addPerson 30 = .ok (.aload_n 0, 1) := by decide +kernel
theorem dX6_addPerson_31 : decode cX6_addPerson 31 = .ok (.getfield 50, 3) := by decide +kernel
theorem dX6_addPerson_34 : decode cX6_addPerson 34 = .ok (.aload_n 0, 1) := by decide +kernel
theorem dX6_addPerson_35 : decode cX6_addPerson 35 = .ok (.getfield 92, 3) := by decide +kernel
theorem dX6_addPerson_38 : decode cX6_addPerson 38 = .ok (.iload 4, 2) := by decide +kernel
theorem dX6_addPerson_40 : decode cX6_addPerson 40 = .ok (.iastore, 1) := by decide +kernel
theorem dX6_addPerson_41 : decode cX6_addPerson 41 = .ok (.aload_n 0, 1) := by decide +kernel
theorem dX6_addPerson_42 : decode cX6_addPerson 42 = .ok (.getfield 53, 3) := by decide +kernel
theorem dX6_addPerson_45 : decode cX6_addPerson 45 = .ok (.aload_n 0, 1) := by decide +kernel
theorem dX6_addPerson_46 : decode cX6_addPerson 46 = .ok (.getfield 92, 3) := by decide +kernel
theorem dX6_addPerson_49 : decode cX6_addPerson 49 = .ok (.iconst 0, 1) := by decide +kernel
theorem dX6_addPerson_50 : decode cX6_addPerson 50 = .ok (.iastore, 1) := by decide +kernel
theorem dX6_addPerson_51 : decode cX6_addPerson 51 = .ok (.aload_n 0, 1) := by decide +kernel
theorem dX6_addPerson_52 : decode cX6_addPerson 52 = .ok (.dup, 1) := by decide +kernel
theorem dX6_addPerson_53 : decode cX6_addPerson 53 = .ok (.getfield 133, 3) := by decide +kernel
theorem dX6_addPerson_56 : decode cX6_addPerson 56 = .ok (.iconst 1, 1) := by decide +kernel
theorem dX6_addPerson_57 : decode cX6_addPerson 57 = .ok (.aload_n 0, 1) := by decide +kernel
theorem dX6_addPerson_58 : decode cX6_addPerson 58 = .ok (.getfield 92, 3) := by decide +kernel
theorem dX6_addPerson_61 : decode cX6_addPerson 61 = .ok (.ishl, 1) := by decide +kernel
theorem dX6_addPerson_62 : decode cX6_addPerson 62 = .ok (.iconst (-1), 1) := by decide +kernel
theorem dX6_addPerson_63 : decode cX6_addPerson 63 = .ok (.ixor, 1) := by decide +kernel
theorem dX6_addPerson_64 : decode cX6_addPerson 64 = .ok (.iand, 1) := by decide +kernel
theorem dX6_addPerson_65 : decode cX6_addPerson 65 = .ok (.putfield 133, 3) := by decide +kernel
theorem dX6_addPerson_68 : decode cX6_addPerson 68 = .ok (.iconst 0, 1) := by decide +kernel
theorem dX6_addPerson_69 : decode cX6_addPerson 69 = .ok (.istore 5, 2) := by decide +kernel
theorem dX6_addPerson_71 : decode cX6_addPerson 71 = .ok (.iload 5, 2) := by decide +kernel
theorem dX6_addPerson_73 : decode cX6_addPerson 73 = .ok (.bipush 6, 2) := by decide +kernel
theorem dX6_addPerson_75 : decode cX6_addPerson 75 = .ok (.if_icmp .ge 25, 3) := by decide +kernel
theorem dX6_addPerson_78 : decode cX6_addPerson 78 = .ok (.aload_n 0, 1) := by decide +kernel
theorem dX6_addPerson_79 : decode cX6_addPerson 79 = .ok (.getfield 68, 3) := by decide +kernel
theorem dX6_addPerson_82 : decode cX6_addPerson 82 = .ok (.aload_n 0, 1) := by decide +kernel
theorem dX6_addPerson_83 : decode cX6_addPerson 83 = .ok (.getfield 92, 3) := by decide +kernel
theorem dX6_addPerson_86 : decode cX6_addPerson 86 = .ok (.bipush 6, 2) := by decide +kernel
theorem dX6_addPerson_88 : decode cX6_addPerson 88 = .ok (.imul, 1) := by decide +kernel
theorem dX6_addPerson_89 : decode cX6_addPerson 89 = .ok (.iload 5, 2) := by decide +kernel
theorem dX6_addPerson_91 : decode cX6_addPerson 91 = .ok (.iadd, 1) := by decide +kernel
theorem dX6_addPerson_92 : decode cX6_addPerson 92 = .ok (.iconst (-1), 1) := by decide +kernel
theorem dX6_addPerson_93 : decode cX6_addPerson 93 = .ok (.iastore, 1) := by decide +kernel
theorem dX6_addPerson_94 : decode cX6_addPerson 94 = .ok (.iinc 5 1, 3) := by decide +kernel
theorem dX6_addPerson_97 : decode cX6_addPerson 97 = .ok (.goto (-26), 3) := by decide +kernel
theorem dX6_addPerson_100 : decode cX6_addPerson 100 = .ok (.aload_n 0, 1) := by decide +kernel
theorem dX6_addPerson_101 : decode cX6_addPerson 101 = .ok (.dup, 1) := by decide +kernel
theorem dX6_addPerson_102 : decode cX6_addPerson 102 = .ok (.getfield 92, 3) := by decide +kernel
theorem dX6_addPerson_105 : decode cX6_addPerson 105 = .ok (.iconst 1, 1) := by decide +kernel
theorem dX6_addPerson_106 : decode cX6_addPerson 106 = .ok (.iadd, 1) := by decide +kernel
theorem dX6_addPerson_107 : decode cX6_addPerson 107 = .ok (.putfield 92, 3) := by decide +kernel
theorem dX6_addPerson_110 : decode cX6_addPerson 110 = .ok (.return_, 1) := by decide +kernel
set_option maxRecDepth 100000 in
set_option maxHeartbeats 4000000 in
theorem lc_X6_addPerson_71 (Z : ZZ) (l : Launch) (a0 : Nat) {args : Array Value} {h0 h1 : HP} {v0 : Unit} (K : HP → Option (Unit × HP)) (F : Int32 → HP → Option (Unit × HP))
    (hK : ∀ (h : HP), Sim Z l cX6_addPerson RX6 6 0 0 (none) "addPerson" args (Mq Z args h0 h1 (none)) h0 h1 v0 100 [(0, .ref (zb Z + a0))] [] h (K h))
    (hF : ∀ (b5 : Int32) (h : HP), Sim Z l cX6_addPerson RX6 6 0 0 (none) "addPerson" args (Mq Z args h0 h1 (none)) h0 h1 v0 71 [(0, .ref (zb Z + a0)), (5, .int b5)] [] h (F b5 h)) :
    ∀ (b5 : Int32) (h : HP), Sim Z l cX6_addPerson RX6 6 0 0 (none) "addPerson" args (Mq Z args h0 h1 (none)) h0 h1 v0 71 [(0, .ref (zb Z + a0)), (5, .int b5)] [] h (lb_X6_addPerson_71 a0 K F b5 h) := by
  intro b5 h
  unfold lb_X6_addPerson_71
  refine S_iload dX6_addPerson_71 1 rfl (pc' := 73) rfl ?_
  refine S_bipush dX6_addPerson_73 (v := 6) rfl (pc' := 75) rfl ?_
  refine S_icmp_ge dX6_addPerson_75 100 rfl (pc' := 78) rfl (fun g75 => ?_) (fun g75 => ?_)
  · refine Sim.sub [0] rfl ?_
    exact hK _
  · refine S_aload_n dX6_addPerson_78 rfl 0 rfl (pc' := 79) rfl ?_
    refine S_getR fl_X6_68 rfl dX6_addPerson_79 (pc' := 82) rfl (fun x79 => ?_)
    refine S_aload_n dX6_addPerson_82 rfl 0 rfl (pc' := 83) rfl ?_
    refine S_getI fl_X6_92 rfl dX6_addPerson_83 (pc' := 86) rfl (fun x83 => ?_)
    refine S_bipush dX6_addPerson_86 (v := 6) rfl (pc' := 88) rfl ?_
    refine S_imul dX6_addPerson_88 (pc' := 89) rfl ?_
    refine S_iload dX6_addPerson_89 1 rfl (pc' := 91) rfl ?_
    refine S_iadd dX6_addPerson_91 (pc' := 92) rfl ?_
    refine S_iconst dX6_addPerson_92 (v := (-1)) rfl (pc' := 93) rfl ?_
    refine S_iastore dX6_addPerson_93 (pc' := 94) rfl (fun h93 => ?_)
    refine S_iinc dX6_addPerson_94 (q := 1) rfl (v := b5 + 1) rfl (by decide) (lo' := [(5, .int (b5 + 1)), (0, .ref (zb Z + a0))]) rfl (pc' := 97) rfl ?_
    refine S_goto dX6_addPerson_97 71 rfl ?_
    refine Sim.sub [1, 0] rfl ?_
    exact hF _ _
theorem lq_X6_addPerson_71 (Z : ZZ) (l : Launch) (a0 : Nat) {args : Array Value} {h0 h1 : HP} {v0 : Unit} (K : HP → Option (Unit × HP))
    (hK : ∀ (h : HP), Sim Z l cX6_addPerson RX6 6 0 0 (none) "addPerson" args (Mq Z args h0 h1 (none)) h0 h1 v0 100 [(0, .ref (zb Z + a0))] [] h (K h)) :
    ∀ (k : Nat) (b5 : Int32) (h : HP), Sim Z l cX6_addPerson RX6 6 0 0 (none) "addPerson" args (Mq Z args h0 h1 (none)) h0 h1 v0 71 [(0, .ref (zb Z + a0)), (5, .int b5)] [] h (lp_X6_addPerson_71 a0 K k b5 h) := by
  intro k
  induction k with
  | zero => exact fun _ _ => Sim.none
  | succ k ih => exact lc_X6_addPerson_71 Z l a0 K _ hK ih
set_option maxRecDepth 100000 in
set_option maxHeartbeats 4000000 in
theorem c_X6_addPerson (Z : ZZ) (l : Launch) (t : Nat) (a1 : Int32) (a2 : Int32) (a3 : Int32) (a4 : Int32) (h : HP) {v : Unit} {h1 : HP} (ho : f_X6_addPerson t a1 a2 a3 a4 h = some (v, h1)) : MetP Z l yX6_addPerson cX6_addPerson 6 (none) 0 0 [.ref (zb Z + t), .int a1, .int a2, .int a3, .int a4] h (none) h1 := by
  refine MetP_of ho (by decide +kernel) (Nat.le_of_ble_eq_true rfl) [(0, .ref (zb Z + t)), (1, .int a1), (2, .int a2), (3, .int a3), (4, .int a4)] rfl (own := RX6) rfl (nm := "addPerson") rfl ?_
  unfold f_X6_addPerson
  refine S_aload_n dX6_addPerson_0 rfl 0 rfl (pc' := 1) rfl ?_
  refine S_getR fl_X6_41 rfl dX6_addPerson_1 (pc' := 4) rfl (fun x1 => ?_)
  refine S_aload_n dX6_addPerson_4 rfl 0 rfl (pc' := 5) rfl ?_
  refine S_getI fl_X6_92 rfl dX6_addPerson_5 (pc' := 8) rfl (fun x5 => ?_)
  refine S_iload_n dX6_addPerson_8 rfl 1 rfl (pc' := 9) rfl ?_
  refine S_iastore dX6_addPerson_9 (pc' := 10) rfl (fun h9 => ?_)
  refine S_aload_n dX6_addPerson_10 rfl 0 rfl (pc' := 11) rfl ?_
  refine S_getR fl_X6_44 rfl dX6_addPerson_11 (pc' := 14) rfl (fun x11 => ?_)
  refine S_aload_n dX6_addPerson_14 rfl 0 rfl (pc' := 15) rfl ?_
  refine S_getI fl_X6_92 rfl dX6_addPerson_15 (pc' := 18) rfl (fun x15 => ?_)
  refine S_iload_n dX6_addPerson_18 rfl 2 rfl (pc' := 19) rfl ?_
  refine S_iastore dX6_addPerson_19 (pc' := 20) rfl (fun h19 => ?_)
  refine S_aload_n dX6_addPerson_20 rfl 0 rfl (pc' := 21) rfl ?_
  refine S_getR fl_X6_47 rfl dX6_addPerson_21 (pc' := 24) rfl (fun x21 => ?_)
  refine S_aload_n dX6_addPerson_24 rfl 0 rfl (pc' := 25) rfl ?_
  refine S_getI fl_X6_92 rfl dX6_addPerson_25 (pc' := 28) rfl (fun x25 => ?_)
  refine S_iload_n dX6_addPerson_28 rfl 3 rfl (pc' := 29) rfl ?_
  refine S_iastore dX6_addPerson_29 (pc' := 30) rfl (fun h29 => ?_)
  refine S_aload_n dX6_addPerson_30 rfl 0 rfl (pc' := 31) rfl ?_
  refine S_getR fl_X6_50 rfl dX6_addPerson_31 (pc' := 34) rfl (fun x31 => ?_)
  refine S_aload_n dX6_addPerson_34 rfl 0 rfl (pc' := 35) rfl ?_
  refine S_getI fl_X6_92 rfl dX6_addPerson_35 (pc' := 38) rfl (fun x35 => ?_)
  refine S_iload dX6_addPerson_38 4 rfl (pc' := 40) rfl ?_
  refine S_iastore dX6_addPerson_40 (pc' := 41) rfl (fun h40 => ?_)
  refine S_aload_n dX6_addPerson_41 rfl 0 rfl (pc' := 42) rfl ?_
  refine S_getR fl_X6_53 rfl dX6_addPerson_42 (pc' := 45) rfl (fun x42 => ?_)
  refine S_aload_n dX6_addPerson_45 rfl 0 rfl (pc' := 46) rfl ?_
  refine S_getI fl_X6_92 rfl dX6_addPerson_46 (pc' := 49) rfl (fun x46 => ?_)
  refine S_iconst dX6_addPerson_49 (v := 0) rfl (pc' := 50) rfl ?_
  refine S_iastore dX6_addPerson_50 (pc' := 51) rfl (fun h50 => ?_)
  refine S_aload_n dX6_addPerson_51 rfl 0 rfl (pc' := 52) rfl ?_
  refine S_dup dX6_addPerson_52 rfl (pc' := 53) rfl ?_
  refine S_getI fl_X6_133 rfl dX6_addPerson_53 (pc' := 56) rfl (fun x53 => ?_)
  refine S_iconst dX6_addPerson_56 (v := 1) rfl (pc' := 57) rfl ?_
  refine S_aload_n dX6_addPerson_57 rfl 0 rfl (pc' := 58) rfl ?_
  refine S_getI fl_X6_92 rfl dX6_addPerson_58 (pc' := 61) rfl (fun x58 => ?_)
  refine S_ishl dX6_addPerson_61 (pc' := 62) rfl ?_
  refine S_iconst dX6_addPerson_62 (v := (-1)) rfl (pc' := 63) rfl ?_
  refine S_ixor dX6_addPerson_63 (pc' := 64) rfl ?_
  refine S_iand dX6_addPerson_64 (pc' := 65) rfl ?_
  refine S_putI fl_X6_133 (by decide) rfl dX6_addPerson_65 (pc' := 68) rfl (fun h65 => ?_)
  refine S_iconst dX6_addPerson_68 (v := 0) rfl (pc' := 69) rfl ?_
  refine S_istore dX6_addPerson_69 (by decide) (lo' := [(5, .int 0), (0, .ref (zb Z + t)), (1, .int a1), (2, .int a2), (3, .int a3), (4, .int a4)]) rfl (pc' := 71) rfl ?_
  refine Sim.sub [1, 0] rfl ?_
  refine lq_X6_addPerson_71 Z l t _ ?_ 1000 _ _
  intro h71_
  refine S_aload_n dX6_addPerson_100 rfl 0 rfl (pc' := 101) rfl ?_
  refine S_dup dX6_addPerson_101 rfl (pc' := 102) rfl ?_
  refine S_getI fl_X6_92 rfl dX6_addPerson_102 (pc' := 105) rfl (fun x102 => ?_)
  refine S_iconst dX6_addPerson_105 (v := 1) rfl (pc' := 106) rfl ?_
  refine S_iadd dX6_addPerson_106 (pc' := 107) rfl ?_
  refine S_putI fl_X6_92 (by decide) rfl dX6_addPerson_107 (pc' := 110) rfl (fun h107 => ?_)
  exact S_vret rfl dX6_addPerson_110
theorem dX6_person_0 : decode cX6_person 0 = .ok (.iload_n 1, 1) := by decide +kernel
theorem dX6_person_1 : decode cX6_person 1 = .ok (.i2l, 1) := by decide +kernel
theorem dX6_person_2 : decode cX6_person 2 = .ok (.lconst 0, 1) := by decide +kernel
theorem dX6_person_3 : decode cX6_person 3 = .ok (.ldc2_w 123, 3) := by decide +kernel
theorem dX6_person_6 : decode cX6_person 6 = .ok (.invokestatic 95, 3) := by decide +kernel
theorem dX6_person_9 : decode cX6_person 9 = .ok (.ifCond .eq 40, 3) := by decide +kernel
theorem dX6_person_12 : decode cX6_person 12 = .ok (.iload_n 2, 1) := by decide +kernel
theorem dX6_person_13 : decode cX6_person 13 = .ok (.i2l, 1) := by decide +kernel
theorem dX6_person_14 : decode cX6_person 14 = .ok (.lconst 0, 1) := by decide +kernel
theorem dX6_person_15 : decode cX6_person 15 = .ok (.ldc2_w 136, 3) := by decide +kernel
theorem dX6_person_18 : decode cX6_person 18 = .ok (.invokestatic 95, 3) := by decide +kernel
theorem dX6_person_21 : decode cX6_person 21 = .ok (.ifCond .eq 28, 3) := by decide +kernel
theorem dX6_person_24 : decode cX6_person 24 = .ok (.iload_n 3, 1) := by decide +kernel
theorem dX6_person_25 : decode cX6_person 25 = .ok (.i2l, 1) := by decide +kernel
theorem dX6_person_26 : decode cX6_person 26 = .ok (.lconst 0, 1) := by decide +kernel
theorem dX6_person_27 : decode cX6_person 27 = .ok (.ldc2_w 136, 3) := by decide +kernel
theorem dX6_person_30 : decode cX6_person 30 = .ok (.invokestatic 95, 3) := by decide +kernel
theorem dX6_person_33 : decode cX6_person 33 = .ok (.ifCond .eq 16, 3) := by decide +kernel
theorem dX6_person_36 : decode cX6_person 36 = .ok (.iload 4, 2) := by decide +kernel
theorem dX6_person_38 : decode cX6_person 38 = .ok (.i2l, 1) := by decide +kernel
theorem dX6_person_39 : decode cX6_person 39 = .ok (.lconst 0, 1) := by decide +kernel
theorem dX6_person_40 : decode cX6_person 40 = .ok (.ldc2_w 136, 3) := by decide +kernel
theorem dX6_person_43 : decode cX6_person 43 = .ok (.invokestatic 95, 3) := by decide +kernel
theorem dX6_person_46 : decode cX6_person 46 = .ok (.ifCond .ne 10, 3) := by decide +kernel
theorem dX6_person_49 : decode cX6_person 49 = .ok (.aload_n 0, 1) := by decide +kernel
theorem dX6_person_50 : decode cX6_person 50 = .ok (.bipush (-2), 2) := by decide +kernel
theorem dX6_person_52 : decode cX6_person 52 = .ok (.invokevirtual 108, 3) := by decide +kernel
theorem dX6_person_55 : decode cX6_person 55 = .ok (.ireturn, 1) := by decide +kernel
theorem dX6_person_56 : decode cX6_person 56 = .ok (.aload_n 0, 1) := by decide +kernel
theorem dX6_person_57 : decode cX6_person 57 = .ok (.getfield 92, 3) := by decide +kernel
theorem dX6_person_60 : decode cX6_person 60 = .ok (.bipush 8, 2) := by decide +kernel
theorem dX6_person_62 : decode cX6_person 62 = .ok (.if_icmp .ne 10, 3) := by decide +kernel
theorem dX6_person_65 : decode cX6_person 65 = .ok (.aload_n 0, 1) := by decide +kernel
theorem dX6_person_66 : decode cX6_person 66 = .ok (.bipush (-6), 2) := by decide +kernel
theorem dX6_person_68 : decode cX6_person 68 = .ok (.invokevirtual 108, 3) := by decide +kernel
theorem dX6_person_71 : decode cX6_person 71 = .ok (.ireturn, 1) := by decide +kernel
theorem dX6_person_72 : decode cX6_person 72 = .ok (.aload_n 0, 1) := by decide +kernel
theorem dX6_person_73 : decode cX6_person 73 = .ok (.iload_n 1, 1) := by decide +kernel
theorem dX6_person_74 : decode cX6_person 74 = .ok (.iload_n 2, 1) := by decide +kernel
theorem dX6_person_75 : decode cX6_person 75 = .ok (.iload_n 3, 1) := by decide +kernel
theorem dX6_person_76 : decode cX6_person 76 = .ok (.iload 4, 2) := by decide +kernel
theorem dX6_person_78 : decode cX6_person 78 = .ok (.invokevirtual 138, 3) := by decide +kernel
theorem dX6_person_81 : decode cX6_person 81 = .ok (.aload_n 0, 1) := by decide +kernel
theorem dX6_person_82 : decode cX6_person 82 = .ok (.getfield 92, 3) := by decide +kernel
theorem dX6_person_85 : decode cX6_person 85 = .ok (.iconst 1, 1) := by decide +kernel
theorem dX6_person_86 : decode cX6_person 86 = .ok (.isub, 1) := by decide +kernel
theorem dX6_person_87 : decode cX6_person 87 = .ok (.ireturn, 1) := by decide +kernel
set_option maxRecDepth 100000 in
set_option maxHeartbeats 4000000 in
theorem c_X6_person (Z : ZZ) (l : Launch) (t : Nat) (a1 : Int32) (a2 : Int32) (a3 : Int32) (a4 : Int32) (h : HP) {v : Int32} {h1 : HP} (ho : f_X6_person t a1 a2 a3 a4 h = some (v, h1)) : MetP Z l yX6_person cX6_person 5 (some .int) 1 25 [.ref (zb Z + t), .int a1, .int a2, .int a3, .int a4] h (some (.int v)) h1 := by
  refine MetP_of ho (by decide +kernel) (Nat.le_of_ble_eq_true rfl) [(0, .ref (zb Z + t)), (1, .int a1), (2, .int a2), (3, .int a3), (4, .int a4)] rfl (own := RX6) rfl (nm := "person") rfl ?_
  unfold f_X6_person
  refine S_iload_n dX6_person_0 rfl 1 rfl (pc' := 1) rfl ?_
  refine S_i2l dX6_person_1 (pc' := 2) rfl ?_
  refine S_lconst dX6_person_2 (v := 0) rfl (pc' := 3) rfl ?_
  refine S_ldc2 dX6_person_3 kc_X6_123 (pc' := 6) rfl ?_
  refine S_stai ml_X6_95 ms_X6_in dX6_person_6 [.long a1.toInt64, .long 0, .long 5] rfl (fun v h2 q => c_X6_in Z l _ _ _ _ q) ⟨Nat.le_of_ble_eq_true rfl, Nat.le_of_ble_eq_true rfl⟩ (rest := []) (Nat.le_of_ble_eq_true rfl) rfl (pc' := 9) rfl (fun x6 h6 => ?_)
  refine S_if_eq dX6_person_9 49 rfl (pc' := 12) rfl (fun g9 => ?_) (fun g9 => ?_)
  · refine S_aload_n dX6_person_49 rfl 0 rfl (pc' := 50) rfl ?_
    refine S_bipush dX6_person_50 (v := (-2)) rfl (pc' := 52) rfl ?_
    refine S_invi ml_X6_108 mi_X6_refuse (ci := 6) ⟨_, rfl, rfl⟩ (by decide) dX6_person_52 [.int (-2)] rfl (fun v h2 q => c_X6_refuse Z l _ _ _ q) ⟨Nat.le_of_ble_eq_true rfl, Nat.le_of_ble_eq_true rfl⟩ (rest := []) (Nat.le_of_ble_eq_true rfl) rfl (pc' := 55) rfl (fun x52 h52 => ?_)
    exact S_iret rfl dX6_person_55
  · refine S_iload_n dX6_person_12 rfl 2 rfl (pc' := 13) rfl ?_
    refine S_i2l dX6_person_13 (pc' := 14) rfl ?_
    refine S_lconst dX6_person_14 (v := 0) rfl (pc' := 15) rfl ?_
    refine S_ldc2 dX6_person_15 kc_X6_136 (pc' := 18) rfl ?_
    refine S_stai ml_X6_95 ms_X6_in dX6_person_18 [.long a2.toInt64, .long 0, .long 9] rfl (fun v h2 q => c_X6_in Z l _ _ _ _ q) ⟨Nat.le_of_ble_eq_true rfl, Nat.le_of_ble_eq_true rfl⟩ (rest := []) (Nat.le_of_ble_eq_true rfl) rfl (pc' := 21) rfl (fun x18 h18 => ?_)
    refine S_if_eq dX6_person_21 49 rfl (pc' := 24) rfl (fun g21 => ?_) (fun g21 => ?_)
    · refine S_aload_n dX6_person_49 rfl 0 rfl (pc' := 50) rfl ?_
      refine S_bipush dX6_person_50 (v := (-2)) rfl (pc' := 52) rfl ?_
      refine S_invi ml_X6_108 mi_X6_refuse (ci := 6) ⟨_, rfl, rfl⟩ (by decide) dX6_person_52 [.int (-2)] rfl (fun v h2 q => c_X6_refuse Z l _ _ _ q) ⟨Nat.le_of_ble_eq_true rfl, Nat.le_of_ble_eq_true rfl⟩ (rest := []) (Nat.le_of_ble_eq_true rfl) rfl (pc' := 55) rfl (fun x52 h52 => ?_)
      exact S_iret rfl dX6_person_55
    · refine S_iload_n dX6_person_24 rfl 3 rfl (pc' := 25) rfl ?_
      refine S_i2l dX6_person_25 (pc' := 26) rfl ?_
      refine S_lconst dX6_person_26 (v := 0) rfl (pc' := 27) rfl ?_
      refine S_ldc2 dX6_person_27 kc_X6_136 (pc' := 30) rfl ?_
      refine S_stai ml_X6_95 ms_X6_in dX6_person_30 [.long a3.toInt64, .long 0, .long 9] rfl (fun v h2 q => c_X6_in Z l _ _ _ _ q) ⟨Nat.le_of_ble_eq_true rfl, Nat.le_of_ble_eq_true rfl⟩ (rest := []) (Nat.le_of_ble_eq_true rfl) rfl (pc' := 33) rfl (fun x30 h30 => ?_)
      refine S_if_eq dX6_person_33 49 rfl (pc' := 36) rfl (fun g33 => ?_) (fun g33 => ?_)
      · refine S_aload_n dX6_person_49 rfl 0 rfl (pc' := 50) rfl ?_
        refine S_bipush dX6_person_50 (v := (-2)) rfl (pc' := 52) rfl ?_
        refine S_invi ml_X6_108 mi_X6_refuse (ci := 6) ⟨_, rfl, rfl⟩ (by decide) dX6_person_52 [.int (-2)] rfl (fun v h2 q => c_X6_refuse Z l _ _ _ q) ⟨Nat.le_of_ble_eq_true rfl, Nat.le_of_ble_eq_true rfl⟩ (rest := []) (Nat.le_of_ble_eq_true rfl) rfl (pc' := 55) rfl (fun x52 h52 => ?_)
        exact S_iret rfl dX6_person_55
      · refine S_iload dX6_person_36 4 rfl (pc' := 38) rfl ?_
        refine S_i2l dX6_person_38 (pc' := 39) rfl ?_
        refine S_lconst dX6_person_39 (v := 0) rfl (pc' := 40) rfl ?_
        refine S_ldc2 dX6_person_40 kc_X6_136 (pc' := 43) rfl ?_
        refine S_stai ml_X6_95 ms_X6_in dX6_person_43 [.long a4.toInt64, .long 0, .long 9] rfl (fun v h2 q => c_X6_in Z l _ _ _ _ q) ⟨Nat.le_of_ble_eq_true rfl, Nat.le_of_ble_eq_true rfl⟩ (rest := []) (Nat.le_of_ble_eq_true rfl) rfl (pc' := 46) rfl (fun x43 h43 => ?_)
        refine S_if_ne dX6_person_46 56 rfl (pc' := 49) rfl (fun g46 => ?_) (fun g46 => ?_)
        · refine S_aload_n dX6_person_56 rfl 0 rfl (pc' := 57) rfl ?_
          refine S_getI fl_X6_92 rfl dX6_person_57 (pc' := 60) rfl (fun x57 => ?_)
          refine S_bipush dX6_person_60 (v := 8) rfl (pc' := 62) rfl ?_
          refine S_icmp_ne dX6_person_62 72 rfl (pc' := 65) rfl (fun g62 => ?_) (fun g62 => ?_)
          · refine S_aload_n dX6_person_72 rfl 0 rfl (pc' := 73) rfl ?_
            refine S_iload_n dX6_person_73 rfl 1 rfl (pc' := 74) rfl ?_
            refine S_iload_n dX6_person_74 rfl 2 rfl (pc' := 75) rfl ?_
            refine S_iload_n dX6_person_75 rfl 3 rfl (pc' := 76) rfl ?_
            refine S_iload dX6_person_76 4 rfl (pc' := 78) rfl ?_
            refine S_invv ml_X6_138 mi_X6_addPerson (ci := 6) ⟨_, rfl, rfl⟩ (by decide) dX6_person_78 [.int a1, .int a2, .int a3, .int a4] rfl (fun v h2 q => c_X6_addPerson Z l _ _ _ _ _ _ q) ⟨Nat.le_of_ble_eq_true rfl, Nat.le_of_ble_eq_true rfl⟩ (rest := []) (Nat.le_of_ble_eq_true rfl) rfl (pc' := 81) rfl (fun _ h78 => ?_)
            refine S_aload_n dX6_person_81 rfl 0 rfl (pc' := 82) rfl ?_
            refine S_getI fl_X6_92 rfl dX6_person_82 (pc' := 85) rfl (fun x82 => ?_)
            refine S_iconst dX6_person_85 (v := 1) rfl (pc' := 86) rfl ?_
            refine S_isub dX6_person_86 (pc' := 87) rfl ?_
            exact S_iret rfl dX6_person_87
          · refine S_aload_n dX6_person_65 rfl 0 rfl (pc' := 66) rfl ?_
            refine S_bipush dX6_person_66 (v := (-6)) rfl (pc' := 68) rfl ?_
            refine S_invi ml_X6_108 mi_X6_refuse (ci := 6) ⟨_, rfl, rfl⟩ (by decide) dX6_person_68 [.int (-6)] rfl (fun v h2 q => c_X6_refuse Z l _ _ _ q) ⟨Nat.le_of_ble_eq_true rfl, Nat.le_of_ble_eq_true rfl⟩ (rest := []) (Nat.le_of_ble_eq_true rfl) rfl (pc' := 71) rfl (fun x68 h68 => ?_)
            exact S_iret rfl dX6_person_71
        · refine S_aload_n dX6_person_49 rfl 0 rfl (pc' := 50) rfl ?_
          refine S_bipush dX6_person_50 (v := (-2)) rfl (pc' := 52) rfl ?_
          refine S_invi ml_X6_108 mi_X6_refuse (ci := 6) ⟨_, rfl, rfl⟩ (by decide) dX6_person_52 [.int (-2)] rfl (fun v h2 q => c_X6_refuse Z l _ _ _ q) ⟨Nat.le_of_ble_eq_true rfl, Nat.le_of_ble_eq_true rfl⟩ (rest := []) (Nat.le_of_ble_eq_true rfl) rfl (pc' := 55) rfl (fun x52 h52 => ?_)
          exact S_iret rfl dX6_person_55
theorem dX6_addSong_0 : decode cX6_addSong 0 = .ok (.aload_n 0, 1) := by decide +kernel
theorem dX6_addSong_1 : decode cX6_addSong 1 = .ok (.getfield 56, 3) := by decide +kernel
theorem dX6_addSong_4 : decode cX6_addSong 4 = .ok (.aload_n 0, 1) := by decide +kernel
theorem dX6_addSong_5 : decode cX6_addSong 5 = .ok (.getfield 99, 3) := by decide +kernel
theorem dX6_addSong_8 : decode cX6_addSong 8 = .ok (.iload_n 1, 1) := by decide +kernel
theorem dX6_addSong_9 : decode cX6_addSong 9 = .ok (.iastore, 1) := by decide +kernel
theorem dX6_addSong_10 : decode cX6_addSong 10 = .ok (.aload_n 0, 1) := by decide +kernel
theorem dX6_addSong_11 : decode cX6_addSong 11 = .ok (.getfield 59, 3) := by decide +kernel
theorem dX6_addSong_14 : decode cX6_addSong 14 = .ok (.aload_n 0, 1) := by decide +kernel
theorem dX6_addSong_15 : decode cX6_addSong 15 = .ok (.getfield 99, 3) := by decide +kernel
theorem dX6_addSong_18 : decode cX6_addSong 18 = .ok (.iload_n 2, 1) := by decide +kernel
theorem dX6_addSong_19 : decode cX6_addSong 19 = .ok (.iastore, 1) := by decide +kernel
theorem dX6_addSong_20 : decode cX6_addSong 20 = .ok (.aload_n 0, 1) := by decide +kernel
theorem dX6_addSong_21 : decode cX6_addSong 21 = .ok (.getfield 62, 3) := by decide +kernel
theorem dX6_addSong_24 : decode cX6_addSong 24 = .ok (.aload_n 0, 1) := by decide +kernel
theorem dX6_addSong_25 : decode cX6_addSong 25 = .ok (.getfield 99, 3) := by decide +kernel
theorem dX6_addSong_28 : decode cX6_addSong 28 = .ok (.iconst 0, 1) := by decide +kernel
theorem dX6_addSong_29 : decode cX6_addSong 29 = .ok (.iastore, 1) := by decide +kernel
theorem dX6_addSong_30 : decode cX6_addSong 30 = .ok (.iconst 0, 1) := by decide +kernel
theorem dX6_addSong_31 : decode cX6_addSong 31 = .ok (.istore_n 3, 1) := by decide +kernel
theorem dX6_addSong_32 : decode cX6_addSong 32 = .ok (.iload_n 3, 1) := by decide +kernel
theorem dX6_addSong_33 : decode cX6_addSong 33 = .ok (.bipush 8, 2) := by decide +kernel
theorem dX6_addSong_35 : decode cX6_addSong 35 = .ok (.if_icmp .ge 24, 3) := by decide +kernel
theorem dX6_addSong_38 : decode cX6_addSong 38 = .ok (.aload_n 0, 1) := by decide +kernel
theorem dX6_addSong_39 : decode cX6_addSong 39 = .ok (.getfield 65, 3) := by decide +kernel
theorem dX6_addSong_42 : decode cX6_addSong 42 = .ok (.aload_n 0, 1) := by decide +kernel
theorem dX6_addSong_43 : decode cX6_addSong 43 = .ok (.getfield 99, 3) := by decide +kernel
theorem dX6_addSong_46 : decode cX6_addSong 46 = .ok (.bipush 8, 2) := by decide +kernel
theorem dX6_addSong_48 : decode cX6_addSong 48 = .ok (.imul, 1) := by decide +kernel
theorem dX6_addSong_49 : decode cX6_addSong 49 = .ok (.iload_n 3, 1) := by decide +kernel
theorem dX6_addSong_50 : decode cX6_addSong 50 = .ok (.iadd, 1) := by decide +kernel
theorem dX6_addSong_51 : decode cX6_addSong 51 = .ok (.iconst 0, 1) := by decide +kernel
theorem dX6_addSong_52 : decode cX6_addSong 52 = .ok (.iastore, 1) := by decide +kernel
theorem dX6_addSong_53 : decode cX6_addSong 53 = .ok (.iinc 3 1, 3) := by decide +kernel
theorem dX6_addSong_56 : decode cX6_addSong 56 = .ok (.goto (-24), 3) := by decide +kernel
theorem dX6_addSong_59 : decode cX6_addSong 59 = .ok (.iconst 0, 1) := by decide +kernel
theorem dX6_addSong_60 : decode cX6_addSong 60 = .ok (.istore_n 3, 1) := by decide +kernel
theorem dX6_addSong_61 : decode cX6_addSong 61 = .ok (.iload_n 3, 1) := by decide +kernel
theorem dX6_addSong_62 : decode cX6_addSong 62 = .ok (.bipush 8, 2) := by decide +kernel
theorem dX6_addSong_64 : decode cX6_addSong 64 = .ok (.if_icmp .ge 24, 3) := by decide +kernel
theorem dX6_addSong_67 : decode cX6_addSong 67 = .ok (.aload_n 0, 1) := by decide +kernel
theorem dX6_addSong_68 : decode cX6_addSong 68 = .ok (.getfield 68, 3) := by decide +kernel
theorem dX6_addSong_71 : decode cX6_addSong 71 = .ok (.iload_n 3, 1) := by decide +kernel
theorem dX6_addSong_72 : decode cX6_addSong 72 = .ok (.bipush 6, 2) := by decide +kernel
theorem dX6_addSong_74 : decode cX6_addSong 74 = .ok (.imul, 1) := by decide +kernel
theorem dX6_addSong_75 : decode cX6_addSong 75 = .ok (.aload_n 0, 1) := by decide +kernel
theorem dX6_addSong_76 : decode cX6_addSong 76 = .ok (.getfield 99, 3) := by decide +kernel
theorem dX6_addSong_79 : decode cX6_addSong 79 = .ok (.iadd, 1) := by decide +kernel
theorem dX6_addSong_80 : decode cX6_addSong 80 = .ok (.iconst (-1), 1) := by decide +kernel
theorem dX6_addSong_81 : decode cX6_addSong 81 = .ok (.iastore, 1) := by decide +kernel
theorem dX6_addSong_82 : decode cX6_addSong 82 = .ok (.iinc 3 1, 3) := by decide +kernel
theorem dX6_addSong_85 : decode cX6_addSong 85 = .ok (.goto (-24), 3) := by decide +kernel
theorem dX6_addSong_88 : decode cX6_addSong 88 = .ok (.aload_n 0, 1) := by decide +kernel
theorem dX6_addSong_89 : decode cX6_addSong 89 = .ok (.dup, 1) := by decide +kernel
theorem dX6_addSong_90 : decode cX6_addSong 90 = .ok (.getfield 99, 3) := by decide +kernel
theorem dX6_addSong_93 : decode cX6_addSong 93 = .ok (.iconst 1, 1) := by decide +kernel
theorem dX6_addSong_94 : decode cX6_addSong 94 = .ok (.iadd, 1) := by decide +kernel
theorem dX6_addSong_95 : decode cX6_addSong 95 = .ok (.putfield 99, 3) := by decide +kernel
theorem dX6_addSong_98 : decode cX6_addSong 98 = .ok (.return_, 1) := by decide +kernel
set_option maxRecDepth 100000 in
set_option maxHeartbeats 4000000 in
theorem lc_X6_addSong_32 (Z : ZZ) (l : Launch) (a0 : Nat) {args : Array Value} {h0 h1 : HP} {v0 : Unit} (K : HP → Option (Unit × HP)) (F : Int32 → HP → Option (Unit × HP))
    (hK : ∀ (h : HP), Sim Z l cX6_addSong RX6 4 0 0 (none) "addSong" args (Mq Z args h0 h1 (none)) h0 h1 v0 59 [(0, .ref (zb Z + a0))] [] h (K h))
    (hF : ∀ (b3 : Int32) (h : HP), Sim Z l cX6_addSong RX6 4 0 0 (none) "addSong" args (Mq Z args h0 h1 (none)) h0 h1 v0 32 [(0, .ref (zb Z + a0)), (3, .int b3)] [] h (F b3 h)) :
    ∀ (b3 : Int32) (h : HP), Sim Z l cX6_addSong RX6 4 0 0 (none) "addSong" args (Mq Z args h0 h1 (none)) h0 h1 v0 32 [(0, .ref (zb Z + a0)), (3, .int b3)] [] h (lb_X6_addSong_32 a0 K F b3 h) := by
  intro b3 h
  unfold lb_X6_addSong_32
  refine S_iload_n dX6_addSong_32 rfl 1 rfl (pc' := 33) rfl ?_
  refine S_bipush dX6_addSong_33 (v := 8) rfl (pc' := 35) rfl ?_
  refine S_icmp_ge dX6_addSong_35 59 rfl (pc' := 38) rfl (fun g35 => ?_) (fun g35 => ?_)
  · refine Sim.sub [0] rfl ?_
    exact hK _
  · refine S_aload_n dX6_addSong_38 rfl 0 rfl (pc' := 39) rfl ?_
    refine S_getR fl_X6_65 rfl dX6_addSong_39 (pc' := 42) rfl (fun x39 => ?_)
    refine S_aload_n dX6_addSong_42 rfl 0 rfl (pc' := 43) rfl ?_
    refine S_getI fl_X6_99 rfl dX6_addSong_43 (pc' := 46) rfl (fun x43 => ?_)
    refine S_bipush dX6_addSong_46 (v := 8) rfl (pc' := 48) rfl ?_
    refine S_imul dX6_addSong_48 (pc' := 49) rfl ?_
    refine S_iload_n dX6_addSong_49 rfl 1 rfl (pc' := 50) rfl ?_
    refine S_iadd dX6_addSong_50 (pc' := 51) rfl ?_
    refine S_iconst dX6_addSong_51 (v := 0) rfl (pc' := 52) rfl ?_
    refine S_iastore dX6_addSong_52 (pc' := 53) rfl (fun h52 => ?_)
    refine S_iinc dX6_addSong_53 (q := 1) rfl (v := b3 + 1) rfl (by decide) (lo' := [(3, .int (b3 + 1)), (0, .ref (zb Z + a0))]) rfl (pc' := 56) rfl ?_
    refine S_goto dX6_addSong_56 32 rfl ?_
    refine Sim.sub [1, 0] rfl ?_
    exact hF _ _
theorem lq_X6_addSong_32 (Z : ZZ) (l : Launch) (a0 : Nat) {args : Array Value} {h0 h1 : HP} {v0 : Unit} (K : HP → Option (Unit × HP))
    (hK : ∀ (h : HP), Sim Z l cX6_addSong RX6 4 0 0 (none) "addSong" args (Mq Z args h0 h1 (none)) h0 h1 v0 59 [(0, .ref (zb Z + a0))] [] h (K h)) :
    ∀ (k : Nat) (b3 : Int32) (h : HP), Sim Z l cX6_addSong RX6 4 0 0 (none) "addSong" args (Mq Z args h0 h1 (none)) h0 h1 v0 32 [(0, .ref (zb Z + a0)), (3, .int b3)] [] h (lp_X6_addSong_32 a0 K k b3 h) := by
  intro k
  induction k with
  | zero => exact fun _ _ => Sim.none
  | succ k ih => exact lc_X6_addSong_32 Z l a0 K _ hK ih
set_option maxRecDepth 100000 in
set_option maxHeartbeats 4000000 in
theorem lc_X6_addSong_61 (Z : ZZ) (l : Launch) (a0 : Nat) {args : Array Value} {h0 h1 : HP} {v0 : Unit} (K : HP → Option (Unit × HP)) (F : Int32 → HP → Option (Unit × HP))
    (hK : ∀ (h : HP), Sim Z l cX6_addSong RX6 4 0 0 (none) "addSong" args (Mq Z args h0 h1 (none)) h0 h1 v0 88 [(0, .ref (zb Z + a0))] [] h (K h))
    (hF : ∀ (b3 : Int32) (h : HP), Sim Z l cX6_addSong RX6 4 0 0 (none) "addSong" args (Mq Z args h0 h1 (none)) h0 h1 v0 61 [(0, .ref (zb Z + a0)), (3, .int b3)] [] h (F b3 h)) :
    ∀ (b3 : Int32) (h : HP), Sim Z l cX6_addSong RX6 4 0 0 (none) "addSong" args (Mq Z args h0 h1 (none)) h0 h1 v0 61 [(0, .ref (zb Z + a0)), (3, .int b3)] [] h (lb_X6_addSong_61 a0 K F b3 h) := by
  intro b3 h
  unfold lb_X6_addSong_61
  refine S_iload_n dX6_addSong_61 rfl 1 rfl (pc' := 62) rfl ?_
  refine S_bipush dX6_addSong_62 (v := 8) rfl (pc' := 64) rfl ?_
  refine S_icmp_ge dX6_addSong_64 88 rfl (pc' := 67) rfl (fun g64 => ?_) (fun g64 => ?_)
  · refine Sim.sub [0] rfl ?_
    exact hK _
  · refine S_aload_n dX6_addSong_67 rfl 0 rfl (pc' := 68) rfl ?_
    refine S_getR fl_X6_68 rfl dX6_addSong_68 (pc' := 71) rfl (fun x68 => ?_)
    refine S_iload_n dX6_addSong_71 rfl 1 rfl (pc' := 72) rfl ?_
    refine S_bipush dX6_addSong_72 (v := 6) rfl (pc' := 74) rfl ?_
    refine S_imul dX6_addSong_74 (pc' := 75) rfl ?_
    refine S_aload_n dX6_addSong_75 rfl 0 rfl (pc' := 76) rfl ?_
    refine S_getI fl_X6_99 rfl dX6_addSong_76 (pc' := 79) rfl (fun x76 => ?_)
    refine S_iadd dX6_addSong_79 (pc' := 80) rfl ?_
    refine S_iconst dX6_addSong_80 (v := (-1)) rfl (pc' := 81) rfl ?_
    refine S_iastore dX6_addSong_81 (pc' := 82) rfl (fun h81 => ?_)
    refine S_iinc dX6_addSong_82 (q := 1) rfl (v := b3 + 1) rfl (by decide) (lo' := [(3, .int (b3 + 1)), (0, .ref (zb Z + a0))]) rfl (pc' := 85) rfl ?_
    refine S_goto dX6_addSong_85 61 rfl ?_
    refine Sim.sub [1, 0] rfl ?_
    exact hF _ _
theorem lq_X6_addSong_61 (Z : ZZ) (l : Launch) (a0 : Nat) {args : Array Value} {h0 h1 : HP} {v0 : Unit} (K : HP → Option (Unit × HP))
    (hK : ∀ (h : HP), Sim Z l cX6_addSong RX6 4 0 0 (none) "addSong" args (Mq Z args h0 h1 (none)) h0 h1 v0 88 [(0, .ref (zb Z + a0))] [] h (K h)) :
    ∀ (k : Nat) (b3 : Int32) (h : HP), Sim Z l cX6_addSong RX6 4 0 0 (none) "addSong" args (Mq Z args h0 h1 (none)) h0 h1 v0 61 [(0, .ref (zb Z + a0)), (3, .int b3)] [] h (lp_X6_addSong_61 a0 K k b3 h) := by
  intro k
  induction k with
  | zero => exact fun _ _ => Sim.none
  | succ k ih => exact lc_X6_addSong_61 Z l a0 K _ hK ih
set_option maxRecDepth 100000 in
set_option maxHeartbeats 4000000 in
theorem c_X6_addSong (Z : ZZ) (l : Launch) (t : Nat) (a1 : Int32) (a2 : Int32) (h : HP) {v : Unit} {h1 : HP} (ho : f_X6_addSong t a1 a2 h = some (v, h1)) : MetP Z l yX6_addSong cX6_addSong 4 (none) 0 0 [.ref (zb Z + t), .int a1, .int a2] h (none) h1 := by
  refine MetP_of ho (by decide +kernel) (Nat.le_of_ble_eq_true rfl) [(0, .ref (zb Z + t)), (1, .int a1), (2, .int a2)] rfl (own := RX6) rfl (nm := "addSong") rfl ?_
  unfold f_X6_addSong
  refine S_aload_n dX6_addSong_0 rfl 0 rfl (pc' := 1) rfl ?_
  refine S_getR fl_X6_56 rfl dX6_addSong_1 (pc' := 4) rfl (fun x1 => ?_)
  refine S_aload_n dX6_addSong_4 rfl 0 rfl (pc' := 5) rfl ?_
  refine S_getI fl_X6_99 rfl dX6_addSong_5 (pc' := 8) rfl (fun x5 => ?_)
  refine S_iload_n dX6_addSong_8 rfl 1 rfl (pc' := 9) rfl ?_
  refine S_iastore dX6_addSong_9 (pc' := 10) rfl (fun h9 => ?_)
  refine S_aload_n dX6_addSong_10 rfl 0 rfl (pc' := 11) rfl ?_
  refine S_getR fl_X6_59 rfl dX6_addSong_11 (pc' := 14) rfl (fun x11 => ?_)
  refine S_aload_n dX6_addSong_14 rfl 0 rfl (pc' := 15) rfl ?_
  refine S_getI fl_X6_99 rfl dX6_addSong_15 (pc' := 18) rfl (fun x15 => ?_)
  refine S_iload_n dX6_addSong_18 rfl 2 rfl (pc' := 19) rfl ?_
  refine S_iastore dX6_addSong_19 (pc' := 20) rfl (fun h19 => ?_)
  refine S_aload_n dX6_addSong_20 rfl 0 rfl (pc' := 21) rfl ?_
  refine S_getR fl_X6_62 rfl dX6_addSong_21 (pc' := 24) rfl (fun x21 => ?_)
  refine S_aload_n dX6_addSong_24 rfl 0 rfl (pc' := 25) rfl ?_
  refine S_getI fl_X6_99 rfl dX6_addSong_25 (pc' := 28) rfl (fun x25 => ?_)
  refine S_iconst dX6_addSong_28 (v := 0) rfl (pc' := 29) rfl ?_
  refine S_iastore dX6_addSong_29 (pc' := 30) rfl (fun h29 => ?_)
  refine S_iconst dX6_addSong_30 (v := 0) rfl (pc' := 31) rfl ?_
  refine S_istore_n dX6_addSong_31 rfl (by decide) (lo' := [(3, .int 0), (0, .ref (zb Z + t)), (1, .int a1), (2, .int a2)]) rfl (pc' := 32) rfl ?_
  refine Sim.sub [1, 0] rfl ?_
  refine lq_X6_addSong_32 Z l t _ ?_ 1000 _ _
  intro h32_
  refine S_iconst dX6_addSong_59 (v := 0) rfl (pc' := 60) rfl ?_
  refine S_istore_n dX6_addSong_60 rfl (by decide) (lo' := [(3, .int 0), (0, .ref (zb Z + t))]) rfl (pc' := 61) rfl ?_
  refine Sim.sub [1, 0] rfl ?_
  refine lq_X6_addSong_61 Z l t _ ?_ 1000 _ _
  intro h61_
  refine S_aload_n dX6_addSong_88 rfl 0 rfl (pc' := 89) rfl ?_
  refine S_dup dX6_addSong_89 rfl (pc' := 90) rfl ?_
  refine S_getI fl_X6_99 rfl dX6_addSong_90 (pc' := 93) rfl (fun x90 => ?_)
  refine S_iconst dX6_addSong_93 (v := 1) rfl (pc' := 94) rfl ?_
  refine S_iadd dX6_addSong_94 (pc' := 95) rfl ?_
  refine S_putI fl_X6_99 (by decide) rfl dX6_addSong_95 (pc' := 98) rfl (fun h95 => ?_)
  exact S_vret rfl dX6_addSong_98
theorem dX6_song_0 : decode cX6_song 0 = .ok (.iload_n 1, 1) := by decide +kernel
theorem dX6_song_1 : decode cX6_song 1 = .ok (.i2l, 1) := by decide +kernel
theorem dX6_song_2 : decode cX6_song 2 = .ok (.lconst 0, 1) := by decide +kernel
theorem dX6_song_3 : decode cX6_song 3 = .ok (.ldc2_w 136, 3) := by decide +kernel
theorem dX6_song_6 : decode cX6_song 6 = .ok (.invokestatic 95, 3) := by decide +kernel
theorem dX6_song_9 : decode cX6_song 9 = .ok (.ifCond .eq 15, 3) := by decide +kernel
theorem dX6_song_12 : decode cX6_song 12 = .ok (.iload_n 2, 1) := by decide +kernel
theorem dX6_song_13 : decode cX6_song 13 = .ok (.i2l, 1) := by decide +kernel
theorem dX6_song_14 : decode cX6_song 14 = .ok (.lconst 0, 1) := by decide +kernel
theorem dX6_song_15 : decode cX6_song 15 = .ok (.ldc2_w 104, 3) := by decide +kernel
theorem dX6_song_18 : decode cX6_song 18 = .ok (.invokestatic 95, 3) := by decide +kernel
theorem dX6_song_21 : decode cX6_song 21 = .ok (.ifCond .ne 10, 3) := by decide +kernel
theorem dX6_song_24 : decode cX6_song 24 = .ok (.aload_n 0, 1) := by decide +kernel
theorem dX6_song_25 : decode cX6_song 25 = .ok (.bipush (-2), 2) := by decide +kernel
theorem dX6_song_27 : decode cX6_song 27 = .ok (.invokevirtual 108, 3) := by decide +kernel
theorem dX6_song_30 : decode cX6_song 30 = .ok (.ireturn, 1) := by decide +kernel
theorem dX6_song_31 : decode cX6_song 31 = .ok (.aload_n 0, 1) := by decide +kernel
theorem dX6_song_32 : decode cX6_song 32 = .ok (.getfield 99, 3) := by decide +kernel
theorem dX6_song_35 : decode cX6_song 35 = .ok (.bipush 6, 2) := by decide +kernel
theorem dX6_song_37 : decode cX6_song 37 = .ok (.if_icmp .ne 10, 3) := by decide +kernel
theorem dX6_song_40 : decode cX6_song 40 = .ok (.aload_n 0, 1) := by decide +kernel
theorem dX6_song_41 : decode cX6_song 41 = .ok (.bipush (-6), 2) := by decide +kernel
theorem dX6_song_43 : decode cX6_song 43 = .ok (.invokevirtual 108, 3) := by decide +kernel
theorem dX6_song_46 : decode cX6_song 46 = .ok (.ireturn, 1) := by decide +kernel
theorem dX6_song_47 : decode cX6_song 47 = .ok (.aload_n 0, 1) := by decide +kernel
theorem dX6_song_48 : decode cX6_song 48 = .ok (.iload_n 1, 1) := by decide +kernel
theorem dX6_song_49 : decode cX6_song 49 = .ok (.iload_n 2, 1) := by decide +kernel
theorem dX6_song_50 : decode cX6_song 50 = .ok (.invokevirtual 142, 3) := by decide +kernel
theorem dX6_song_53 : decode cX6_song 53 = .ok (.aload_n 0, 1) := by decide +kernel
theorem dX6_song_54 : decode cX6_song 54 = .ok (.getfield 99, 3) := by decide +kernel
theorem dX6_song_57 : decode cX6_song 57 = .ok (.iconst 1, 1) := by decide +kernel
theorem dX6_song_58 : decode cX6_song 58 = .ok (.isub, 1) := by decide +kernel
theorem dX6_song_59 : decode cX6_song 59 = .ok (.ireturn, 1) := by decide +kernel
set_option maxRecDepth 100000 in
set_option maxHeartbeats 4000000 in
theorem c_X6_song (Z : ZZ) (l : Launch) (t : Nat) (a1 : Int32) (a2 : Int32) (h : HP) {v : Int32} {h1 : HP} (ho : f_X6_song t a1 a2 h = some (v, h1)) : MetP Z l yX6_song cX6_song 3 (some .int) 1 25 [.ref (zb Z + t), .int a1, .int a2] h (some (.int v)) h1 := by
  refine MetP_of ho (by decide +kernel) (Nat.le_of_ble_eq_true rfl) [(0, .ref (zb Z + t)), (1, .int a1), (2, .int a2)] rfl (own := RX6) rfl (nm := "song") rfl ?_
  unfold f_X6_song
  refine S_iload_n dX6_song_0 rfl 1 rfl (pc' := 1) rfl ?_
  refine S_i2l dX6_song_1 (pc' := 2) rfl ?_
  refine S_lconst dX6_song_2 (v := 0) rfl (pc' := 3) rfl ?_
  refine S_ldc2 dX6_song_3 kc_X6_136 (pc' := 6) rfl ?_
  refine S_stai ml_X6_95 ms_X6_in dX6_song_6 [.long a1.toInt64, .long 0, .long 9] rfl (fun v h2 q => c_X6_in Z l _ _ _ _ q) ⟨Nat.le_of_ble_eq_true rfl, Nat.le_of_ble_eq_true rfl⟩ (rest := []) (Nat.le_of_ble_eq_true rfl) rfl (pc' := 9) rfl (fun x6 h6 => ?_)
  refine S_if_eq dX6_song_9 24 rfl (pc' := 12) rfl (fun g9 => ?_) (fun g9 => ?_)
  · refine S_aload_n dX6_song_24 rfl 0 rfl (pc' := 25) rfl ?_
    refine S_bipush dX6_song_25 (v := (-2)) rfl (pc' := 27) rfl ?_
    refine S_invi ml_X6_108 mi_X6_refuse (ci := 6) ⟨_, rfl, rfl⟩ (by decide) dX6_song_27 [.int (-2)] rfl (fun v h2 q => c_X6_refuse Z l _ _ _ q) ⟨Nat.le_of_ble_eq_true rfl, Nat.le_of_ble_eq_true rfl⟩ (rest := []) (Nat.le_of_ble_eq_true rfl) rfl (pc' := 30) rfl (fun x27 h27 => ?_)
    exact S_iret rfl dX6_song_30
  · refine S_iload_n dX6_song_12 rfl 2 rfl (pc' := 13) rfl ?_
    refine S_i2l dX6_song_13 (pc' := 14) rfl ?_
    refine S_lconst dX6_song_14 (v := 0) rfl (pc' := 15) rfl ?_
    refine S_ldc2 dX6_song_15 kc_X6_104 (pc' := 18) rfl ?_
    refine S_stai ml_X6_95 ms_X6_in dX6_song_18 [.long a2.toInt64, .long 0, .long 4] rfl (fun v h2 q => c_X6_in Z l _ _ _ _ q) ⟨Nat.le_of_ble_eq_true rfl, Nat.le_of_ble_eq_true rfl⟩ (rest := []) (Nat.le_of_ble_eq_true rfl) rfl (pc' := 21) rfl (fun x18 h18 => ?_)
    refine S_if_ne dX6_song_21 31 rfl (pc' := 24) rfl (fun g21 => ?_) (fun g21 => ?_)
    · refine S_aload_n dX6_song_31 rfl 0 rfl (pc' := 32) rfl ?_
      refine S_getI fl_X6_99 rfl dX6_song_32 (pc' := 35) rfl (fun x32 => ?_)
      refine S_bipush dX6_song_35 (v := 6) rfl (pc' := 37) rfl ?_
      refine S_icmp_ne dX6_song_37 47 rfl (pc' := 40) rfl (fun g37 => ?_) (fun g37 => ?_)
      · refine S_aload_n dX6_song_47 rfl 0 rfl (pc' := 48) rfl ?_
        refine S_iload_n dX6_song_48 rfl 1 rfl (pc' := 49) rfl ?_
        refine S_iload_n dX6_song_49 rfl 2 rfl (pc' := 50) rfl ?_
        refine S_invv ml_X6_142 mi_X6_addSong (ci := 6) ⟨_, rfl, rfl⟩ (by decide) dX6_song_50 [.int a1, .int a2] rfl (fun v h2 q => c_X6_addSong Z l _ _ _ _ q) ⟨Nat.le_of_ble_eq_true rfl, Nat.le_of_ble_eq_true rfl⟩ (rest := []) (Nat.le_of_ble_eq_true rfl) rfl (pc' := 53) rfl (fun _ h50 => ?_)
        refine S_aload_n dX6_song_53 rfl 0 rfl (pc' := 54) rfl ?_
        refine S_getI fl_X6_99 rfl dX6_song_54 (pc' := 57) rfl (fun x54 => ?_)
        refine S_iconst dX6_song_57 (v := 1) rfl (pc' := 58) rfl ?_
        refine S_isub dX6_song_58 (pc' := 59) rfl ?_
        exact S_iret rfl dX6_song_59
      · refine S_aload_n dX6_song_40 rfl 0 rfl (pc' := 41) rfl ?_
        refine S_bipush dX6_song_41 (v := (-6)) rfl (pc' := 43) rfl ?_
        refine S_invi ml_X6_108 mi_X6_refuse (ci := 6) ⟨_, rfl, rfl⟩ (by decide) dX6_song_43 [.int (-6)] rfl (fun v h2 q => c_X6_refuse Z l _ _ _ q) ⟨Nat.le_of_ble_eq_true rfl, Nat.le_of_ble_eq_true rfl⟩ (rest := []) (Nat.le_of_ble_eq_true rfl) rfl (pc' := 46) rfl (fun x43 h43 => ?_)
        exact S_iret rfl dX6_song_46
    · refine S_aload_n dX6_song_24 rfl 0 rfl (pc' := 25) rfl ?_
      refine S_bipush dX6_song_25 (v := (-2)) rfl (pc' := 27) rfl ?_
      refine S_invi ml_X6_108 mi_X6_refuse (ci := 6) ⟨_, rfl, rfl⟩ (by decide) dX6_song_27 [.int (-2)] rfl (fun v h2 q => c_X6_refuse Z l _ _ _ q) ⟨Nat.le_of_ble_eq_true rfl, Nat.le_of_ble_eq_true rfl⟩ (rest := []) (Nat.le_of_ble_eq_true rfl) rfl (pc' := 30) rfl (fun x27 h27 => ?_)
      exact S_iret rfl dX6_song_30
theorem dX6_give_0 : decode cX6_give 0 = .ok (.aload_n 0, 1) := by decide +kernel
theorem dX6_give_1 : decode cX6_give 1 = .ok (.iload_n 1, 1) := by decide +kernel
theorem dX6_give_2 : decode cX6_give 2 = .ok (.invokevirtual 119, 3) := by decide +kernel
theorem dX6_give_5 : decode cX6_give 5 = .ok (.ifCond .eq 36, 3) := by decide +kernel
theorem dX6_give_8 : decode cX6_give 8 = .ok (.iload_n 2, 1) := by decide +kernel
theorem dX6_give_9 : decode cX6_give 9 = .ok (.i2l, 1) := by decide +kernel
theorem dX6_give_10 : decode cX6_give 10 = .ok (.lconst 0, 1) := by decide +kernel
theorem dX6_give_11 : decode cX6_give 11 = .ok (.ldc2_w 146, 3) := by decide +kernel
theorem dX6_give_14 : decode cX6_give 14 = .ok (.invokestatic 95, 3) := by decide +kernel
theorem dX6_give_17 : decode cX6_give 17 = .ok (.ifCond .eq 24, 3) := by decide +kernel
theorem dX6_give_20 : decode cX6_give 20 = .ok (.iload_n 3, 1) := by decide +kernel
theorem dX6_give_21 : decode cX6_give 21 = .ok (.i2l, 1) := by decide +kernel
theorem dX6_give_22 : decode cX6_give 22 = .ok (.lconst 0, 1) := by decide +kernel
theorem dX6_give_23 : decode cX6_give 23 = .ok (.iload_n 2, 1) := by decide +kernel
theorem dX6_give_24 : decode cX6_give 24 = .ok (.iconst 2, 1) := by decide +kernel
theorem dX6_give_25 : decode cX6_give 25 = .ok (.if_icmp .ne 7, 3) := by decide +kernel
theorem dX6_give_28 : decode cX6_give 28 = .ok (.lconst 1, 1) := by decide +kernel
theorem dX6_give_29 : decode cX6_give 29 = .ok (.goto 6, 3) := by decide +kernel
theorem dX6_give_32 : decode cX6_give 32 = .ok (.ldc2_w 136, 3) := by decide +kernel
theorem dX6_give_35 : decode cX6_give 35 = .ok (.invokestatic 95, 3) := by decide +kernel
theorem dX6_give_38 : decode cX6_give 38 = .ok (.ifCond .ne 10, 3) := by decide +kernel
theorem dX6_give_41 : decode cX6_give 41 = .ok (.aload_n 0, 1) := by decide +kernel
theorem dX6_give_42 : decode cX6_give 42 = .ok (.bipush (-2), 2) := by decide +kernel
theorem dX6_give_44 : decode cX6_give 44 = .ok (.invokevirtual 108, 3) := by decide +kernel
theorem dX6_give_47 : decode cX6_give 47 = .ok (.ireturn, 1) := by decide +kernel
theorem dX6_give_48 : decode cX6_give 48 = .ok (.iload_n 2, 1) := by decide +kernel
theorem dX6_give_49 : decode cX6_give 49 = .ok (.ifCond .ne 12, 3) := by decide +kernel
theorem dX6_give_52 : decode cX6_give 52 = .ok (.aload_n 0, 1) := by decide +kernel
theorem dX6_give_53 : decode cX6_give 53 = .ok (.getfield 47, 3) := by decide +kernel
theorem dX6_give_56 : decode cX6_give 56 = .ok (.iload_n 1, 1) := by decide +kernel
theorem dX6_give_57 : decode cX6_give 57 = .ok (.iaload, 1) := by decide +kernel
theorem dX6_give_58 : decode cX6_give 58 = .ok (.goto 25, 3) := by decide +kernel
theorem dX6_give_61 : decode cX6_give 61 = .ok (.iload_n 2, 1) := by decide +kernel
theorem dX6_give_62 : decode cX6_give 62 = .ok (.iconst 1, 1) := by decide +kernel
theorem dX6_give_63 : decode cX6_give 63 = .ok (.if_icmp .ne 12, 3) := by decide +kernel
theorem dX6_give_66 : decode cX6_give 66 = .ok (.aload_n 0, 1) := by decide +kernel
theorem dX6_give_67 : decode cX6_give 67 = .ok (.getfield 50, 3) := by decide +kernel
theorem dX6_give_70 : decode cX6_give 70 = .ok (.iload_n 1, 1) := by decide +kernel
theorem dX6_give_71 : decode cX6_give 71 = .ok (.iaload, 1) := by decide +kernel
theorem dX6_give_72 : decode cX6_give 72 = .ok (.goto 11, 3) := by decide +kernel
theorem dX6_give_75 : decode cX6_give 75 = .ok (.aload_n 0, 1) := by decide +kernel
theorem dX6_give_76 : decode cX6_give 76 = .ok (.getfield 133, 3) := by decide +kernel
theorem dX6_give_79 : decode cX6_give 79 = .ok (.iload_n 1, 1) := by decide +kernel
theorem dX6_give_80 : decode cX6_give 80 = .ok (.ishr, 1) := by decide +kernel
theorem dX6_give_81 : decode cX6_give 81 = .ok (.iconst 1, 1) := by decide +kernel
theorem dX6_give_82 : decode cX6_give 82 = .ok (.iand, 1) := by decide +kernel
theorem dX6_give_83 : decode cX6_give 83 = .ok (.istore 4, 2) := by decide +kernel
theorem dX6_give_85 : decode cX6_give 85 = .ok (.aload_n 0, 1) := by decide +kernel
theorem dX6_give_86 : decode cX6_give 86 = .ok (.getfield 47, 3) := by decide +kernel
theorem dX6_give_89 : decode cX6_give 89 = .ok (.iload_n 1, 1) := by decide +kernel
theorem dX6_give_90 : decode cX6_give 90 = .ok (.iload_n 2, 1) := by decide +kernel
theorem dX6_give_91 : decode cX6_give 91 = .ok (.ifCond .ne 7, 3) := by decide +kernel
theorem dX6_give_94 : decode cX6_give 94 = .ok (.iload_n 3, 1) := by decide +kernel
theorem dX6_give_95 : decode cX6_give 95 = .ok (.goto 9, 3) := by decide +kernel
theorem dX6_give_98 : decode cX6_give 98 = .ok (.aload_n 0, 1) := by decide +kernel
theorem dX6_give_99 : decode cX6_give 99 = .ok (.getfield 47, 3) := by decide +kernel
theorem dX6_give_102 : decode cX6_give 102 = .ok (.iload_n 1, 1) := by decide +kernel
theorem dX6_give_103 : decode cX6_give 103 = .ok (.iaload, 1) := by decide +kernel
theorem dX6_give_104 : decode cX6_give 104 = .ok (.iastore, 1) := by decide +kernel
theorem dX6_give_105 : decode cX6_give 105 = .ok (.aload_n 0, 1) := by decide +kernel
theorem dX6_give_106 : decode cX6_give 106 = .ok (.getfield 50, 3) := by decide +kernel
theorem dX6_give_109 : decode cX6_give 109 = .ok (.iload_n 1, 1) := by decide +kernel
theorem dX6_give_110 : decode cX6_give 110 = .ok (.iload_n 2, 1) := by decide +kernel
theorem dX6_give_111 : decode cX6_give 111 = .ok (.iconst 1, 1) := by decide +kernel
theorem dX6_give_112 : decode cX6_give 112 = .ok (.if_icmp .ne 7, 3) := by decide +kernel
theorem dX6_give_115 : decode cX6_give 115 = .ok (.iload_n 3, 1) := by decide +kernel
theorem dX6_give_116 : decode cX6_give 116 = .ok (.goto 9, 3) := by decide +kernel
theorem dX6_give_119 : decode cX6_give 119 = .ok (.aload_n 0, 1) := by decide +kernel
theorem dX6_give_120 : decode cX6_give 120 = .ok (.getfield 50, 3) := by decide +kernel
theorem dX6_give_123 : decode cX6_give 123 = .ok (.iload_n 1, 1) := by decide +kernel
theorem dX6_give_124 : decode cX6_give 124 = .ok (.iaload, 1) := by decide +kernel
theorem dX6_give_125 : decode cX6_give 125 = .ok (.iastore, 1) := by decide +kernel
theorem dX6_give_126 : decode cX6_give 126 = .ok (.aload_n 0, 1) := by decide +kernel
theorem dX6_give_127 : decode cX6_give 127 = .ok (.iload_n 2, 1) := by decide +kernel
theorem dX6_give_128 : decode cX6_give 128 = .ok (.iconst 2, 1) := by decide +kernel
theorem dX6_give_129 : decode cX6_give 129 = .ok (.if_icmp .ne 20, 3) := by decide +kernel
theorem dX6_give_132 : decode cX6_give 132 = .ok (.aload_n 0, 1) := by decide +kernel
theorem dX6_give_133 : decode cX6_give 133 = .ok (.getfield 133, 3) := by decide +kernel
theorem dX6_give_136 : decode cX6_give 136 = .ok (.iconst 1, 1) := by decide +kernel
theorem dX6_give_137 : decode cX6_give 137 = .ok (.iload_n 1, 1) := by decide +kernel
theorem dX6_give_138 : decode cX6_give 138 = .ok (.ishl, 1) := by decide +kernel
theorem dX6_give_139 : decode cX6_give 139 = .ok (.iconst (-1), 1) := by decide +kernel
theorem dX6_give_140 : decode cX6_give 140 = .ok (.ixor, 1) := by decide +kernel
theorem dX6_give_141 : decode cX6_give 141 = .ok (.iand, 1) := by decide +kernel
theorem dX6_give_142 : decode cX6_give 142 = .ok (.iload_n 3, 1) := by decide +kernel
theorem dX6_give_143 : decode cX6_give 143 = .ok (.iload_n 1, 1) := by decide +kernel
theorem dX6_give_144 : decode cX6_give 144 = .ok (.ishl, 1) := by decide +kernel
theorem dX6_give_145 : decode cX6_give 145 = .ok (.ior, 1) := by decide +kernel
theorem dX6_give_146 : decode cX6_give 146 = .ok (.goto 7, 3) := by decide +kernel
theorem dX6_give_149 : decode cX6_give 149 = .ok (.aload_n 0, 1) := by decide +kernel
theorem dX6_give_150 : decode cX6_give 150 = .ok (.getfield 133, 3) := by decide +kernel
theorem dX6_give_153 : decode cX6_give 153 = .ok (.putfield 133, 3) := by decide +kernel
theorem dX6_give_156 : decode cX6_give 156 = .ok (.iload 4, 2) := by decide +kernel
theorem dX6_give_158 : decode cX6_give 158 = .ok (.ireturn, 1) := by decide +kernel
set_option maxRecDepth 100000 in
set_option maxHeartbeats 4000000 in
theorem c_X6_give (Z : ZZ) (l : Launch) (t : Nat) (a1 : Int32) (a2 : Int32) (a3 : Int32) (h : HP) {v : Int32} {h1 : HP} (ho : f_X6_give t a1 a2 a3 h = some (v, h1)) : MetP Z l yX6_give cX6_give 5 (some .int) 2 46 [.ref (zb Z + t), .int a1, .int a2, .int a3] h (some (.int v)) h1 := by
  refine MetP_of ho (by decide +kernel) (Nat.le_of_ble_eq_true rfl) [(0, .ref (zb Z + t)), (1, .int a1), (2, .int a2), (3, .int a3)] rfl (own := RX6) rfl (nm := "give") rfl ?_
  unfold f_X6_give
  refine S_aload_n dX6_give_0 rfl 0 rfl (pc' := 1) rfl ?_
  refine S_iload_n dX6_give_1 rfl 1 rfl (pc' := 2) rfl ?_
  refine S_invi ml_X6_119 mi_X6_isPerson (ci := 6) ⟨_, rfl, rfl⟩ (by decide) dX6_give_2 [.int a1] rfl (fun v h2 q => c_X6_isPerson Z l _ _ _ q) ⟨Nat.le_of_ble_eq_true rfl, Nat.le_of_ble_eq_true rfl⟩ (rest := []) (Nat.le_of_ble_eq_true rfl) rfl (pc' := 5) rfl (fun x2 h2 => ?_)
  refine S_if_eq dX6_give_5 41 rfl (pc' := 8) rfl (fun g5 => ?_) (fun g5 => ?_)
  · refine S_aload_n dX6_give_41 rfl 0 rfl (pc' := 42) rfl ?_
    refine S_bipush dX6_give_42 (v := (-2)) rfl (pc' := 44) rfl ?_
    refine S_invi ml_X6_108 mi_X6_refuse (ci := 6) ⟨_, rfl, rfl⟩ (by decide) dX6_give_44 [.int (-2)] rfl (fun v h2 q => c_X6_refuse Z l _ _ _ q) ⟨Nat.le_of_ble_eq_true rfl, Nat.le_of_ble_eq_true rfl⟩ (rest := []) (Nat.le_of_ble_eq_true rfl) rfl (pc' := 47) rfl (fun x44 h44 => ?_)
    exact S_iret rfl dX6_give_47
  · refine S_iload_n dX6_give_8 rfl 2 rfl (pc' := 9) rfl ?_
    refine S_i2l dX6_give_9 (pc' := 10) rfl ?_
    refine S_lconst dX6_give_10 (v := 0) rfl (pc' := 11) rfl ?_
    refine S_ldc2 dX6_give_11 kc_X6_146 (pc' := 14) rfl ?_
    refine S_stai ml_X6_95 ms_X6_in dX6_give_14 [.long a2.toInt64, .long 0, .long 2] rfl (fun v h2 q => c_X6_in Z l _ _ _ _ q) ⟨Nat.le_of_ble_eq_true rfl, Nat.le_of_ble_eq_true rfl⟩ (rest := []) (Nat.le_of_ble_eq_true rfl) rfl (pc' := 17) rfl (fun x14 h14 => ?_)
    refine S_if_eq dX6_give_17 41 rfl (pc' := 20) rfl (fun g17 => ?_) (fun g17 => ?_)
    · refine S_aload_n dX6_give_41 rfl 0 rfl (pc' := 42) rfl ?_
      refine S_bipush dX6_give_42 (v := (-2)) rfl (pc' := 44) rfl ?_
      refine S_invi ml_X6_108 mi_X6_refuse (ci := 6) ⟨_, rfl, rfl⟩ (by decide) dX6_give_44 [.int (-2)] rfl (fun v h2 q => c_X6_refuse Z l _ _ _ q) ⟨Nat.le_of_ble_eq_true rfl, Nat.le_of_ble_eq_true rfl⟩ (rest := []) (Nat.le_of_ble_eq_true rfl) rfl (pc' := 47) rfl (fun x44 h44 => ?_)
      exact S_iret rfl dX6_give_47
    · refine S_iload_n dX6_give_20 rfl 3 rfl (pc' := 21) rfl ?_
      refine S_i2l dX6_give_21 (pc' := 22) rfl ?_
      refine S_lconst dX6_give_22 (v := 0) rfl (pc' := 23) rfl ?_
      refine S_iload_n dX6_give_23 rfl 2 rfl (pc' := 24) rfl ?_
      refine S_iconst dX6_give_24 (v := 2) rfl (pc' := 25) rfl ?_
      refine S_icmp_ne dX6_give_25 32 rfl (pc' := 28) rfl (fun g25 => ?_) (fun g25 => ?_)
      · refine S_ldc2 dX6_give_32 kc_X6_136 (pc' := 35) rfl ?_
        refine S_stai ml_X6_95 ms_X6_in dX6_give_35 [.long a3.toInt64, .long 0, .long 9] rfl (fun v h2 q => c_X6_in Z l _ _ _ _ q) ⟨Nat.le_of_ble_eq_true rfl, Nat.le_of_ble_eq_true rfl⟩ (rest := []) (Nat.le_of_ble_eq_true rfl) rfl (pc' := 38) rfl (fun x35 h35 => ?_)
        refine S_if_ne dX6_give_38 48 rfl (pc' := 41) rfl (fun g38 => ?_) (fun g38 => ?_)
        · refine S_iload_n dX6_give_48 rfl 2 rfl (pc' := 49) rfl ?_
          refine S_if_ne dX6_give_49 61 rfl (pc' := 52) rfl (fun g49 => ?_) (fun g49 => ?_)
          · refine S_iload_n dX6_give_61 rfl 2 rfl (pc' := 62) rfl ?_
            refine S_iconst dX6_give_62 (v := 1) rfl (pc' := 63) rfl ?_
            refine S_icmp_ne dX6_give_63 75 rfl (pc' := 66) rfl (fun g63 => ?_) (fun g63 => ?_)
            · refine S_aload_n dX6_give_75 rfl 0 rfl (pc' := 76) rfl ?_
              refine S_getI fl_X6_133 rfl dX6_give_76 (pc' := 79) rfl (fun x76 => ?_)
              refine S_iload_n dX6_give_79 rfl 1 rfl (pc' := 80) rfl ?_
              refine S_ishr dX6_give_80 (pc' := 81) rfl ?_
              refine S_iconst dX6_give_81 (v := 1) rfl (pc' := 82) rfl ?_
              refine S_iand dX6_give_82 (pc' := 83) rfl ?_
              refine S_istore dX6_give_83 (by decide) (lo' := [(4, .int ((x76 >>> (a1 &&& 31)) &&& 1)), (0, .ref (zb Z + t)), (1, .int a1), (2, .int a2), (3, .int a3)]) rfl (pc' := 85) rfl ?_
              refine S_aload_n dX6_give_85 rfl 1 rfl (pc' := 86) rfl ?_
              refine S_getR fl_X6_47 rfl dX6_give_86 (pc' := 89) rfl (fun x86 => ?_)
              refine S_iload_n dX6_give_89 rfl 2 rfl (pc' := 90) rfl ?_
              refine S_iload_n dX6_give_90 rfl 3 rfl (pc' := 91) rfl ?_
              refine S_if_ne_J dX6_give_91 98 rfl (pc' := 94) rfl g49 ?_
              refine S_aload_n dX6_give_98 rfl 1 rfl (pc' := 99) rfl ?_
              refine S_getR fl_X6_47 rfl dX6_give_99 (pc' := 102) rfl (fun x99 => ?_)
              refine S_iload_n dX6_give_102 rfl 2 rfl (pc' := 103) rfl ?_
              refine S_iaload dX6_give_103 (pc' := 104) rfl (fun x103 => ?_)
              refine S_iastore dX6_give_104 (pc' := 105) rfl (fun h104 => ?_)
              refine S_aload_n dX6_give_105 rfl 1 rfl (pc' := 106) rfl ?_
              refine S_getR fl_X6_50 rfl dX6_give_106 (pc' := 109) rfl (fun x106 => ?_)
              refine S_iload_n dX6_give_109 rfl 2 rfl (pc' := 110) rfl ?_
              refine S_iload_n dX6_give_110 rfl 3 rfl (pc' := 111) rfl ?_
              refine S_iconst dX6_give_111 (v := 1) rfl (pc' := 112) rfl ?_
              refine S_icmp_ne_J dX6_give_112 119 rfl (pc' := 115) rfl g63 ?_
              refine S_aload_n dX6_give_119 rfl 1 rfl (pc' := 120) rfl ?_
              refine S_getR fl_X6_50 rfl dX6_give_120 (pc' := 123) rfl (fun x120 => ?_)
              refine S_iload_n dX6_give_123 rfl 2 rfl (pc' := 124) rfl ?_
              refine S_iaload dX6_give_124 (pc' := 125) rfl (fun x124 => ?_)
              refine S_iastore dX6_give_125 (pc' := 126) rfl (fun h125 => ?_)
              refine S_aload_n dX6_give_126 rfl 1 rfl (pc' := 127) rfl ?_
              refine S_iload_n dX6_give_127 rfl 3 rfl (pc' := 128) rfl ?_
              refine S_iconst dX6_give_128 (v := 2) rfl (pc' := 129) rfl ?_
              refine S_icmp_ne_J dX6_give_129 149 rfl (pc' := 132) rfl g25 ?_
              refine S_aload_n dX6_give_149 rfl 1 rfl (pc' := 150) rfl ?_
              refine S_getI fl_X6_133 rfl dX6_give_150 (pc' := 153) rfl (fun x150 => ?_)
              refine S_putI fl_X6_133 (by decide) rfl dX6_give_153 (pc' := 156) rfl (fun h153 => ?_)
              refine S_iload dX6_give_156 0 rfl (pc' := 158) rfl ?_
              exact S_iret rfl dX6_give_158
            · refine S_aload_n dX6_give_66 rfl 0 rfl (pc' := 67) rfl ?_
              refine S_getR fl_X6_50 rfl dX6_give_67 (pc' := 70) rfl (fun x67 => ?_)
              refine S_iload_n dX6_give_70 rfl 1 rfl (pc' := 71) rfl ?_
              refine S_iaload dX6_give_71 (pc' := 72) rfl (fun x71 => ?_)
              refine S_goto dX6_give_72 83 rfl ?_
              refine S_istore dX6_give_83 (by decide) (lo' := [(4, .int x71), (0, .ref (zb Z + t)), (1, .int a1), (2, .int a2), (3, .int a3)]) rfl (pc' := 85) rfl ?_
              refine S_aload_n dX6_give_85 rfl 1 rfl (pc' := 86) rfl ?_
              refine S_getR fl_X6_47 rfl dX6_give_86 (pc' := 89) rfl (fun x86 => ?_)
              refine S_iload_n dX6_give_89 rfl 2 rfl (pc' := 90) rfl ?_
              refine S_iload_n dX6_give_90 rfl 3 rfl (pc' := 91) rfl ?_
              refine S_if_ne_J dX6_give_91 98 rfl (pc' := 94) rfl g49 ?_
              refine S_aload_n dX6_give_98 rfl 1 rfl (pc' := 99) rfl ?_
              refine S_getR fl_X6_47 rfl dX6_give_99 (pc' := 102) rfl (fun x99 => ?_)
              refine S_iload_n dX6_give_102 rfl 2 rfl (pc' := 103) rfl ?_
              refine S_iaload dX6_give_103 (pc' := 104) rfl (fun x103 => ?_)
              refine S_iastore dX6_give_104 (pc' := 105) rfl (fun h104 => ?_)
              refine S_aload_n dX6_give_105 rfl 1 rfl (pc' := 106) rfl ?_
              refine S_getR fl_X6_50 rfl dX6_give_106 (pc' := 109) rfl (fun x106 => ?_)
              refine S_iload_n dX6_give_109 rfl 2 rfl (pc' := 110) rfl ?_
              refine S_iload_n dX6_give_110 rfl 3 rfl (pc' := 111) rfl ?_
              refine S_iconst dX6_give_111 (v := 1) rfl (pc' := 112) rfl ?_
              refine S_icmp_ne_N dX6_give_112 119 rfl (pc' := 115) rfl g63 ?_
              refine S_iload_n dX6_give_115 rfl 4 rfl (pc' := 116) rfl ?_
              refine S_goto dX6_give_116 125 rfl ?_
              refine S_iastore dX6_give_125 (pc' := 126) rfl (fun h125 => ?_)
              refine S_aload_n dX6_give_126 rfl 1 rfl (pc' := 127) rfl ?_
              refine S_iload_n dX6_give_127 rfl 3 rfl (pc' := 128) rfl ?_
              refine S_iconst dX6_give_128 (v := 2) rfl (pc' := 129) rfl ?_
              refine S_icmp_ne_J dX6_give_129 149 rfl (pc' := 132) rfl g25 ?_
              refine S_aload_n dX6_give_149 rfl 1 rfl (pc' := 150) rfl ?_
              refine S_getI fl_X6_133 rfl dX6_give_150 (pc' := 153) rfl (fun x150 => ?_)
              refine S_putI fl_X6_133 (by decide) rfl dX6_give_153 (pc' := 156) rfl (fun h153 => ?_)
              refine S_iload dX6_give_156 0 rfl (pc' := 158) rfl ?_
              exact S_iret rfl dX6_give_158
          · refine S_aload_n dX6_give_52 rfl 0 rfl (pc' := 53) rfl ?_
            refine S_getR fl_X6_47 rfl dX6_give_53 (pc' := 56) rfl (fun x53 => ?_)
            refine S_iload_n dX6_give_56 rfl 1 rfl (pc' := 57) rfl ?_
            refine S_iaload dX6_give_57 (pc' := 58) rfl (fun x57 => ?_)
            refine S_goto dX6_give_58 83 rfl ?_
            refine S_istore dX6_give_83 (by decide) (lo' := [(4, .int x57), (0, .ref (zb Z + t)), (1, .int a1), (2, .int a2), (3, .int a3)]) rfl (pc' := 85) rfl ?_
            refine S_aload_n dX6_give_85 rfl 1 rfl (pc' := 86) rfl ?_
            refine S_getR fl_X6_47 rfl dX6_give_86 (pc' := 89) rfl (fun x86 => ?_)
            refine S_iload_n dX6_give_89 rfl 2 rfl (pc' := 90) rfl ?_
            refine S_iload_n dX6_give_90 rfl 3 rfl (pc' := 91) rfl ?_
            refine S_if_ne_N dX6_give_91 98 rfl (pc' := 94) rfl g49 ?_
            refine S_iload_n dX6_give_94 rfl 4 rfl (pc' := 95) rfl ?_
            refine S_goto dX6_give_95 104 rfl ?_
            refine S_iastore dX6_give_104 (pc' := 105) rfl (fun h104 => ?_)
            refine S_aload_n dX6_give_105 rfl 1 rfl (pc' := 106) rfl ?_
            refine S_getR fl_X6_50 rfl dX6_give_106 (pc' := 109) rfl (fun x106 => ?_)
            refine S_iload_n dX6_give_109 rfl 2 rfl (pc' := 110) rfl ?_
            refine S_iload_n dX6_give_110 rfl 3 rfl (pc' := 111) rfl ?_
            refine S_iconst dX6_give_111 (v := 1) rfl (pc' := 112) rfl ?_
            refine S_icmp_ne_J dX6_give_112 119 rfl (pc' := 115) rfl (fun q9 => absurd (g49.symm.trans q9) (by decide)) ?_
            refine S_aload_n dX6_give_119 rfl 1 rfl (pc' := 120) rfl ?_
            refine S_getR fl_X6_50 rfl dX6_give_120 (pc' := 123) rfl (fun x120 => ?_)
            refine S_iload_n dX6_give_123 rfl 2 rfl (pc' := 124) rfl ?_
            refine S_iaload dX6_give_124 (pc' := 125) rfl (fun x124 => ?_)
            refine S_iastore dX6_give_125 (pc' := 126) rfl (fun h125 => ?_)
            refine S_aload_n dX6_give_126 rfl 1 rfl (pc' := 127) rfl ?_
            refine S_iload_n dX6_give_127 rfl 3 rfl (pc' := 128) rfl ?_
            refine S_iconst dX6_give_128 (v := 2) rfl (pc' := 129) rfl ?_
            refine S_icmp_ne_J dX6_give_129 149 rfl (pc' := 132) rfl g25 ?_
            refine S_aload_n dX6_give_149 rfl 1 rfl (pc' := 150) rfl ?_
            refine S_getI fl_X6_133 rfl dX6_give_150 (pc' := 153) rfl (fun x150 => ?_)
            refine S_putI fl_X6_133 (by decide) rfl dX6_give_153 (pc' := 156) rfl (fun h153 => ?_)
            refine S_iload dX6_give_156 0 rfl (pc' := 158) rfl ?_
            exact S_iret rfl dX6_give_158
        · refine S_aload_n dX6_give_41 rfl 0 rfl (pc' := 42) rfl ?_
          refine S_bipush dX6_give_42 (v := (-2)) rfl (pc' := 44) rfl ?_
          refine S_invi ml_X6_108 mi_X6_refuse (ci := 6) ⟨_, rfl, rfl⟩ (by decide) dX6_give_44 [.int (-2)] rfl (fun v h2 q => c_X6_refuse Z l _ _ _ q) ⟨Nat.le_of_ble_eq_true rfl, Nat.le_of_ble_eq_true rfl⟩ (rest := []) (Nat.le_of_ble_eq_true rfl) rfl (pc' := 47) rfl (fun x44 h44 => ?_)
          exact S_iret rfl dX6_give_47
      · refine S_lconst dX6_give_28 (v := 1) rfl (pc' := 29) rfl ?_
        refine S_goto dX6_give_29 35 rfl ?_
        refine S_stai ml_X6_95 ms_X6_in dX6_give_35 [.long a3.toInt64, .long 0, .long 1] rfl (fun v h2 q => c_X6_in Z l _ _ _ _ q) ⟨Nat.le_of_ble_eq_true rfl, Nat.le_of_ble_eq_true rfl⟩ (rest := []) (Nat.le_of_ble_eq_true rfl) rfl (pc' := 38) rfl (fun x35 h35 => ?_)
        refine S_if_ne dX6_give_38 48 rfl (pc' := 41) rfl (fun g38 => ?_) (fun g38 => ?_)
        · refine S_iload_n dX6_give_48 rfl 2 rfl (pc' := 49) rfl ?_
          refine S_if_ne_J dX6_give_49 61 rfl (pc' := 52) rfl (fun q9 => absurd (g25.symm.trans q9) (by decide)) ?_
          refine S_iload_n dX6_give_61 rfl 2 rfl (pc' := 62) rfl ?_
          refine S_iconst dX6_give_62 (v := 1) rfl (pc' := 63) rfl ?_
          refine S_icmp_ne_J dX6_give_63 75 rfl (pc' := 66) rfl (fun q9 => absurd (g25.symm.trans q9) (by decide)) ?_
          refine S_aload_n dX6_give_75 rfl 0 rfl (pc' := 76) rfl ?_
          refine S_getI fl_X6_133 rfl dX6_give_76 (pc' := 79) rfl (fun x76 => ?_)
          refine S_iload_n dX6_give_79 rfl 1 rfl (pc' := 80) rfl ?_
          refine S_ishr dX6_give_80 (pc' := 81) rfl ?_
          refine S_iconst dX6_give_81 (v := 1) rfl (pc' := 82) rfl ?_
          refine S_iand dX6_give_82 (pc' := 83) rfl ?_
          refine S_istore dX6_give_83 (by decide) (lo' := [(4, .int ((x76 >>> (a1 &&& 31)) &&& 1)), (0, .ref (zb Z + t)), (1, .int a1), (2, .int a2), (3, .int a3)]) rfl (pc' := 85) rfl ?_
          refine S_aload_n dX6_give_85 rfl 1 rfl (pc' := 86) rfl ?_
          refine S_getR fl_X6_47 rfl dX6_give_86 (pc' := 89) rfl (fun x86 => ?_)
          refine S_iload_n dX6_give_89 rfl 2 rfl (pc' := 90) rfl ?_
          refine S_iload_n dX6_give_90 rfl 3 rfl (pc' := 91) rfl ?_
          refine S_if_ne_J dX6_give_91 98 rfl (pc' := 94) rfl (fun q9 => absurd (g25.symm.trans q9) (by decide)) ?_
          refine S_aload_n dX6_give_98 rfl 1 rfl (pc' := 99) rfl ?_
          refine S_getR fl_X6_47 rfl dX6_give_99 (pc' := 102) rfl (fun x99 => ?_)
          refine S_iload_n dX6_give_102 rfl 2 rfl (pc' := 103) rfl ?_
          refine S_iaload dX6_give_103 (pc' := 104) rfl (fun x103 => ?_)
          refine S_iastore dX6_give_104 (pc' := 105) rfl (fun h104 => ?_)
          refine S_aload_n dX6_give_105 rfl 1 rfl (pc' := 106) rfl ?_
          refine S_getR fl_X6_50 rfl dX6_give_106 (pc' := 109) rfl (fun x106 => ?_)
          refine S_iload_n dX6_give_109 rfl 2 rfl (pc' := 110) rfl ?_
          refine S_iload_n dX6_give_110 rfl 3 rfl (pc' := 111) rfl ?_
          refine S_iconst dX6_give_111 (v := 1) rfl (pc' := 112) rfl ?_
          refine S_icmp_ne_J dX6_give_112 119 rfl (pc' := 115) rfl (fun q9 => absurd (g25.symm.trans q9) (by decide)) ?_
          refine S_aload_n dX6_give_119 rfl 1 rfl (pc' := 120) rfl ?_
          refine S_getR fl_X6_50 rfl dX6_give_120 (pc' := 123) rfl (fun x120 => ?_)
          refine S_iload_n dX6_give_123 rfl 2 rfl (pc' := 124) rfl ?_
          refine S_iaload dX6_give_124 (pc' := 125) rfl (fun x124 => ?_)
          refine S_iastore dX6_give_125 (pc' := 126) rfl (fun h125 => ?_)
          refine S_aload_n dX6_give_126 rfl 1 rfl (pc' := 127) rfl ?_
          refine S_iload_n dX6_give_127 rfl 3 rfl (pc' := 128) rfl ?_
          refine S_iconst dX6_give_128 (v := 2) rfl (pc' := 129) rfl ?_
          refine S_icmp_ne_N dX6_give_129 149 rfl (pc' := 132) rfl g25 ?_
          refine S_aload_n dX6_give_132 rfl 1 rfl (pc' := 133) rfl ?_
          refine S_getI fl_X6_133 rfl dX6_give_133 (pc' := 136) rfl (fun x133 => ?_)
          refine S_iconst dX6_give_136 (v := 1) rfl (pc' := 137) rfl ?_
          refine S_iload_n dX6_give_137 rfl 2 rfl (pc' := 138) rfl ?_
          refine S_ishl dX6_give_138 (pc' := 139) rfl ?_
          refine S_iconst dX6_give_139 (v := (-1)) rfl (pc' := 140) rfl ?_
          refine S_ixor dX6_give_140 (pc' := 141) rfl ?_
          refine S_iand dX6_give_141 (pc' := 142) rfl ?_
          refine S_iload_n dX6_give_142 rfl 4 rfl (pc' := 143) rfl ?_
          refine S_iload_n dX6_give_143 rfl 2 rfl (pc' := 144) rfl ?_
          refine S_ishl dX6_give_144 (pc' := 145) rfl ?_
          refine S_ior dX6_give_145 (pc' := 146) rfl ?_
          refine S_goto dX6_give_146 153 rfl ?_
          refine S_putI fl_X6_133 (by decide) rfl dX6_give_153 (pc' := 156) rfl (fun h153 => ?_)
          refine S_iload dX6_give_156 0 rfl (pc' := 158) rfl ?_
          exact S_iret rfl dX6_give_158
        · refine S_aload_n dX6_give_41 rfl 0 rfl (pc' := 42) rfl ?_
          refine S_bipush dX6_give_42 (v := (-2)) rfl (pc' := 44) rfl ?_
          refine S_invi ml_X6_108 mi_X6_refuse (ci := 6) ⟨_, rfl, rfl⟩ (by decide) dX6_give_44 [.int (-2)] rfl (fun v h2 q => c_X6_refuse Z l _ _ _ q) ⟨Nat.le_of_ble_eq_true rfl, Nat.le_of_ble_eq_true rfl⟩ (rest := []) (Nat.le_of_ble_eq_true rfl) rfl (pc' := 47) rfl (fun x44 h44 => ?_)
          exact S_iret rfl dX6_give_47
theorem dX6_mark_0 : decode cX6_mark 0 = .ok (.aload_n 0, 1) := by decide +kernel
theorem dX6_mark_1 : decode cX6_mark 1 = .ok (.iload_n 1, 1) := by decide +kernel
theorem dX6_mark_2 : decode cX6_mark 2 = .ok (.invokevirtual 148, 3) := by decide +kernel
theorem dX6_mark_5 : decode cX6_mark 5 = .ok (.ifCond .eq 48, 3) := by decide +kernel
theorem dX6_mark_8 : decode cX6_mark 8 = .ok (.iload_n 2, 1) := by decide +kernel
theorem dX6_mark_9 : decode cX6_mark 9 = .ok (.i2l, 1) := by decide +kernel
theorem dX6_mark_10 : decode cX6_mark 10 = .ok (.lconst 0, 1) := by decide +kernel
theorem dX6_mark_11 : decode cX6_mark 11 = .ok (.ldc2_w 146, 3) := by decide +kernel
theorem dX6_mark_14 : decode cX6_mark 14 = .ok (.invokestatic 95, 3) := by decide +kernel
theorem dX6_mark_17 : decode cX6_mark 17 = .ok (.ifCond .eq 36, 3) := by decide +kernel
theorem dX6_mark_20 : decode cX6_mark 20 = .ok (.iload_n 3, 1) := by decide +kernel
theorem dX6_mark_21 : decode cX6_mark 21 = .ok (.i2l, 1) := by decide +kernel
theorem dX6_mark_22 : decode cX6_mark 22 = .ok (.lconst 0, 1) := by decide +kernel
theorem dX6_mark_23 : decode cX6_mark 23 = .ok (.iload_n 2, 1) := by decide +kernel
theorem dX6_mark_24 : decode cX6_mark 24 = .ok (.ifCond .ne 9, 3) := by decide +kernel
theorem dX6_mark_27 : decode cX6_mark 27 = .ok (.ldc2_w 136, 3) := by decide +kernel
theorem dX6_mark_30 : decode cX6_mark 30 = .ok (.goto 17, 3) := by decide +kernel
theorem dX6_mark_33 : decode cX6_mark 33 = .ok (.iload_n 2, 1) := by decide +kernel
theorem dX6_mark_34 : decode cX6_mark 34 = .ok (.iconst 1, 1) := by decide +kernel
theorem dX6_mark_35 : decode cX6_mark 35 = .ok (.if_icmp .ne 9, 3) := by decide +kernel
theorem dX6_mark_38 : decode cX6_mark 38 = .ok (.ldc2_w 104, 3) := by decide +kernel
theorem dX6_mark_41 : decode cX6_mark 41 = .ok (.goto 6, 3) := by decide +kernel
theorem dX6_mark_44 : decode cX6_mark 44 = .ok (.ldc2_w 146, 3) := by decide +kernel
theorem dX6_mark_47 : decode cX6_mark 47 = .ok (.invokestatic 95, 3) := by decide +kernel
theorem dX6_mark_50 : decode cX6_mark 50 = .ok (.ifCond .ne 10, 3) := by decide +kernel
theorem dX6_mark_53 : decode cX6_mark 53 = .ok (.aload_n 0, 1) := by decide +kernel
theorem dX6_mark_54 : decode cX6_mark 54 = .ok (.bipush (-2), 2) := by decide +kernel
theorem dX6_mark_56 : decode cX6_mark 56 = .ok (.invokevirtual 108, 3) := by decide +kernel
theorem dX6_mark_59 : decode cX6_mark 59 = .ok (.ireturn, 1) := by decide +kernel
theorem dX6_mark_60 : decode cX6_mark 60 = .ok (.iload_n 2, 1) := by decide +kernel
theorem dX6_mark_61 : decode cX6_mark 61 = .ok (.ifCond .ne 12, 3) := by decide +kernel
theorem dX6_mark_64 : decode cX6_mark 64 = .ok (.aload_n 0, 1) := by decide +kernel
theorem dX6_mark_65 : decode cX6_mark 65 = .ok (.getfield 56, 3) := by decide +kernel
theorem dX6_mark_68 : decode cX6_mark 68 = .ok (.iload_n 1, 1) := by decide +kernel
theorem dX6_mark_69 : decode cX6_mark 69 = .ok (.iaload, 1) := by decide +kernel
theorem dX6_mark_70 : decode cX6_mark 70 = .ok (.goto 23, 3) := by decide +kernel
theorem dX6_mark_73 : decode cX6_mark 73 = .ok (.iload_n 2, 1) := by decide +kernel
theorem dX6_mark_74 : decode cX6_mark 74 = .ok (.iconst 1, 1) := by decide +kernel
theorem dX6_mark_75 : decode cX6_mark 75 = .ok (.if_icmp .ne 12, 3) := by decide +kernel
theorem dX6_mark_78 : decode cX6_mark 78 = .ok (.aload_n 0, 1) := by decide +kernel
theorem dX6_mark_79 : decode cX6_mark 79 = .ok (.getfield 59, 3) := by decide +kernel
theorem dX6_mark_82 : decode cX6_mark 82 = .ok (.iload_n 1, 1) := by decide +kernel
theorem dX6_mark_83 : decode cX6_mark 83 = .ok (.iaload, 1) := by decide +kernel
theorem dX6_mark_84 : decode cX6_mark 84 = .ok (.goto 9, 3) := by decide +kernel
theorem dX6_mark_87 : decode cX6_mark 87 = .ok (.aload_n 0, 1) := by decide +kernel
theorem dX6_mark_88 : decode cX6_mark 88 = .ok (.getfield 62, 3) := by decide +kernel
theorem dX6_mark_91 : decode cX6_mark 91 = .ok (.iload_n 1, 1) := by decide +kernel
theorem dX6_mark_92 : decode cX6_mark 92 = .ok (.iaload, 1) := by decide +kernel
theorem dX6_mark_93 : decode cX6_mark 93 = .ok (.istore 4, 2) := by decide +kernel
theorem dX6_mark_95 : decode cX6_mark 95 = .ok (.aload_n 0, 1) := by decide +kernel
theorem dX6_mark_96 : decode cX6_mark 96 = .ok (.getfield 56, 3) := by decide +kernel
theorem dX6_mark_99 : decode cX6_mark 99 = .ok (.iload_n 1, 1) := by decide +kernel
theorem dX6_mark_100 : decode cX6_mark 100 = .ok (.iload_n 2, 1) := by decide +kernel
theorem dX6_mark_101 : decode cX6_mark 101 = .ok (.ifCond .ne 7, 3) := by decide +kernel
theorem dX6_mark_104 : decode cX6_mark 104 = .ok (.iload_n 3, 1) := by decide +kernel
theorem dX6_mark_105 : decode cX6_mark 105 = .ok (.goto 9, 3) := by decide +kernel
theorem dX6_mark_108 : decode cX6_mark 108 = .ok (.aload_n 0, 1) := by decide +kernel
theorem dX6_mark_109 : decode cX6_mark 109 = .ok (.getfield 56, 3) := by decide +kernel
theorem dX6_mark_112 : decode cX6_mark 112 = .ok (.iload_n 1, 1) := by decide +kernel
theorem dX6_mark_113 : decode cX6_mark 113 = .ok (.iaload, 1) := by decide +kernel
theorem dX6_mark_114 : decode cX6_mark 114 = .ok (.iastore, 1) := by decide +kernel
theorem dX6_mark_115 : decode cX6_mark 115 = .ok (.aload_n 0, 1) := by decide +kernel
theorem dX6_mark_116 : decode cX6_mark 116 = .ok (.getfield 59, 3) := by decide +kernel
theorem dX6_mark_119 : decode cX6_mark 119 = .ok (.iload_n 1, 1) := by decide +kernel
theorem dX6_mark_120 : decode cX6_mark 120 = .ok (.iload_n 2, 1) := by decide +kernel
theorem dX6_mark_121 : decode cX6_mark 121 = .ok (.iconst 1, 1) := by decide +kernel
theorem dX6_mark_122 : decode cX6_mark 122 = .ok (.if_icmp .ne 7, 3) := by decide +kernel
theorem dX6_mark_125 : decode cX6_mark 125 = .ok (.iload_n 3, 1) := by decide +kernel
theorem dX6_mark_126 : decode cX6_mark 126 = .ok (.goto 9, 3) := by decide +kernel
theorem dX6_mark_129 : decode cX6_mark 129 = .ok (.aload_n 0, 1) := by decide +kernel
theorem dX6_mark_130 : decode cX6_mark 130 = .ok (.getfield 59, 3) := by decide +kernel
theorem dX6_mark_133 : decode cX6_mark 133 = .ok (.iload_n 1, 1) := by decide +kernel
theorem dX6_mark_134 : decode cX6_mark 134 = .ok (.iaload, 1) := by decide +kernel
theorem dX6_mark_135 : decode cX6_mark 135 = .ok (.iastore, 1) := by decide +kernel
theorem dX6_mark_136 : decode cX6_mark 136 = .ok (.aload_n 0, 1) := by decide +kernel
theorem dX6_mark_137 : decode cX6_mark 137 = .ok (.getfield 62, 3) := by decide +kernel
theorem dX6_mark_140 : decode cX6_mark 140 = .ok (.iload_n 1, 1) := by decide +kernel
theorem dX6_mark_141 : decode cX6_mark 141 = .ok (.iload_n 2, 1) := by decide +kernel
theorem dX6_mark_142 : decode cX6_mark 142 = .ok (.iconst 2, 1) := by decide +kernel
theorem dX6_mark_143 : decode cX6_mark 143 = .ok (.if_icmp .ne 7, 3) := by decide +kernel
theorem dX6_mark_146 : decode cX6_mark 146 = .ok (.iload_n 3, 1) := by decide +kernel
theorem dX6_mark_147 : decode cX6_mark 147 = .ok (.goto 9, 3) := by decide +kernel
theorem dX6_mark_150 : decode cX6_mark 150 = .ok (.aload_n 0, 1) := by decide +kernel
theorem dX6_mark_151 : decode cX6_mark 151 = .ok (.getfield 62, 3) := by decide +kernel
theorem dX6_mark_154 : decode cX6_mark 154 = .ok (.iload_n 1, 1) := by decide +kernel
theorem dX6_mark_155 : decode cX6_mark 155 = .ok (.iaload, 1) := by decide +kernel
theorem dX6_mark_156 : decode cX6_mark 156 = .ok (.iastore, 1) := by decide +kernel
theorem dX6_mark_157 : decode cX6_mark 157 = .ok (.iload 4, 2) := by decide +kernel
theorem dX6_mark_159 : decode cX6_mark 159 = .ok (.ireturn, 1) := by decide +kernel
set_option maxRecDepth 100000 in
set_option maxHeartbeats 4000000 in
theorem c_X6_mark (Z : ZZ) (l : Launch) (t : Nat) (a1 : Int32) (a2 : Int32) (a3 : Int32) (h : HP) {v : Int32} {h1 : HP} (ho : f_X6_mark t a1 a2 a3 h = some (v, h1)) : MetP Z l yX6_mark cX6_mark 5 (some .int) 2 46 [.ref (zb Z + t), .int a1, .int a2, .int a3] h (some (.int v)) h1 := by
  refine MetP_of ho (by decide +kernel) (Nat.le_of_ble_eq_true rfl) [(0, .ref (zb Z + t)), (1, .int a1), (2, .int a2), (3, .int a3)] rfl (own := RX6) rfl (nm := "mark") rfl ?_
  unfold f_X6_mark
  refine S_aload_n dX6_mark_0 rfl 0 rfl (pc' := 1) rfl ?_
  refine S_iload_n dX6_mark_1 rfl 1 rfl (pc' := 2) rfl ?_
  refine S_invi ml_X6_148 mi_X6_isSong (ci := 6) ⟨_, rfl, rfl⟩ (by decide) dX6_mark_2 [.int a1] rfl (fun v h2 q => c_X6_isSong Z l _ _ _ q) ⟨Nat.le_of_ble_eq_true rfl, Nat.le_of_ble_eq_true rfl⟩ (rest := []) (Nat.le_of_ble_eq_true rfl) rfl (pc' := 5) rfl (fun x2 h2 => ?_)
  refine S_if_eq dX6_mark_5 53 rfl (pc' := 8) rfl (fun g5 => ?_) (fun g5 => ?_)
  · refine S_aload_n dX6_mark_53 rfl 0 rfl (pc' := 54) rfl ?_
    refine S_bipush dX6_mark_54 (v := (-2)) rfl (pc' := 56) rfl ?_
    refine S_invi ml_X6_108 mi_X6_refuse (ci := 6) ⟨_, rfl, rfl⟩ (by decide) dX6_mark_56 [.int (-2)] rfl (fun v h2 q => c_X6_refuse Z l _ _ _ q) ⟨Nat.le_of_ble_eq_true rfl, Nat.le_of_ble_eq_true rfl⟩ (rest := []) (Nat.le_of_ble_eq_true rfl) rfl (pc' := 59) rfl (fun x56 h56 => ?_)
    exact S_iret rfl dX6_mark_59
  · refine S_iload_n dX6_mark_8 rfl 2 rfl (pc' := 9) rfl ?_
    refine S_i2l dX6_mark_9 (pc' := 10) rfl ?_
    refine S_lconst dX6_mark_10 (v := 0) rfl (pc' := 11) rfl ?_
    refine S_ldc2 dX6_mark_11 kc_X6_146 (pc' := 14) rfl ?_
    refine S_stai ml_X6_95 ms_X6_in dX6_mark_14 [.long a2.toInt64, .long 0, .long 2] rfl (fun v h2 q => c_X6_in Z l _ _ _ _ q) ⟨Nat.le_of_ble_eq_true rfl, Nat.le_of_ble_eq_true rfl⟩ (rest := []) (Nat.le_of_ble_eq_true rfl) rfl (pc' := 17) rfl (fun x14 h14 => ?_)
    refine S_if_eq dX6_mark_17 53 rfl (pc' := 20) rfl (fun g17 => ?_) (fun g17 => ?_)
    · refine S_aload_n dX6_mark_53 rfl 0 rfl (pc' := 54) rfl ?_
      refine S_bipush dX6_mark_54 (v := (-2)) rfl (pc' := 56) rfl ?_
      refine S_invi ml_X6_108 mi_X6_refuse (ci := 6) ⟨_, rfl, rfl⟩ (by decide) dX6_mark_56 [.int (-2)] rfl (fun v h2 q => c_X6_refuse Z l _ _ _ q) ⟨Nat.le_of_ble_eq_true rfl, Nat.le_of_ble_eq_true rfl⟩ (rest := []) (Nat.le_of_ble_eq_true rfl) rfl (pc' := 59) rfl (fun x56 h56 => ?_)
      exact S_iret rfl dX6_mark_59
    · refine S_iload_n dX6_mark_20 rfl 3 rfl (pc' := 21) rfl ?_
      refine S_i2l dX6_mark_21 (pc' := 22) rfl ?_
      refine S_lconst dX6_mark_22 (v := 0) rfl (pc' := 23) rfl ?_
      refine S_iload_n dX6_mark_23 rfl 2 rfl (pc' := 24) rfl ?_
      refine S_if_ne dX6_mark_24 33 rfl (pc' := 27) rfl (fun g24 => ?_) (fun g24 => ?_)
      · refine S_iload_n dX6_mark_33 rfl 2 rfl (pc' := 34) rfl ?_
        refine S_iconst dX6_mark_34 (v := 1) rfl (pc' := 35) rfl ?_
        refine S_icmp_ne dX6_mark_35 44 rfl (pc' := 38) rfl (fun g35 => ?_) (fun g35 => ?_)
        · refine S_ldc2 dX6_mark_44 kc_X6_146 (pc' := 47) rfl ?_
          refine S_stai ml_X6_95 ms_X6_in dX6_mark_47 [.long a3.toInt64, .long 0, .long 2] rfl (fun v h2 q => c_X6_in Z l _ _ _ _ q) ⟨Nat.le_of_ble_eq_true rfl, Nat.le_of_ble_eq_true rfl⟩ (rest := []) (Nat.le_of_ble_eq_true rfl) rfl (pc' := 50) rfl (fun x47 h47 => ?_)
          refine S_if_ne dX6_mark_50 60 rfl (pc' := 53) rfl (fun g50 => ?_) (fun g50 => ?_)
          · refine S_iload_n dX6_mark_60 rfl 2 rfl (pc' := 61) rfl ?_
            refine S_if_ne_J dX6_mark_61 73 rfl (pc' := 64) rfl g24 ?_
            refine S_iload_n dX6_mark_73 rfl 2 rfl (pc' := 74) rfl ?_
            refine S_iconst dX6_mark_74 (v := 1) rfl (pc' := 75) rfl ?_
            refine S_icmp_ne_J dX6_mark_75 87 rfl (pc' := 78) rfl g35 ?_
            refine S_aload_n dX6_mark_87 rfl 0 rfl (pc' := 88) rfl ?_
            refine S_getR fl_X6_62 rfl dX6_mark_88 (pc' := 91) rfl (fun x88 => ?_)
            refine S_iload_n dX6_mark_91 rfl 1 rfl (pc' := 92) rfl ?_
            refine S_iaload dX6_mark_92 (pc' := 93) rfl (fun x92 => ?_)
            refine S_istore dX6_mark_93 (by decide) (lo' := [(4, .int x92), (0, .ref (zb Z + t)), (1, .int a1), (2, .int a2), (3, .int a3)]) rfl (pc' := 95) rfl ?_
            refine S_aload_n dX6_mark_95 rfl 1 rfl (pc' := 96) rfl ?_
            refine S_getR fl_X6_56 rfl dX6_mark_96 (pc' := 99) rfl (fun x96 => ?_)
            refine S_iload_n dX6_mark_99 rfl 2 rfl (pc' := 100) rfl ?_
            refine S_iload_n dX6_mark_100 rfl 3 rfl (pc' := 101) rfl ?_
            refine S_if_ne_J dX6_mark_101 108 rfl (pc' := 104) rfl g24 ?_
            refine S_aload_n dX6_mark_108 rfl 1 rfl (pc' := 109) rfl ?_
            refine S_getR fl_X6_56 rfl dX6_mark_109 (pc' := 112) rfl (fun x109 => ?_)
            refine S_iload_n dX6_mark_112 rfl 2 rfl (pc' := 113) rfl ?_
            refine S_iaload dX6_mark_113 (pc' := 114) rfl (fun x113 => ?_)
            refine S_iastore dX6_mark_114 (pc' := 115) rfl (fun h114 => ?_)
            refine S_aload_n dX6_mark_115 rfl 1 rfl (pc' := 116) rfl ?_
            refine S_getR fl_X6_59 rfl dX6_mark_116 (pc' := 119) rfl (fun x116 => ?_)
            refine S_iload_n dX6_mark_119 rfl 2 rfl (pc' := 120) rfl ?_
            refine S_iload_n dX6_mark_120 rfl 3 rfl (pc' := 121) rfl ?_
            refine S_iconst dX6_mark_121 (v := 1) rfl (pc' := 122) rfl ?_
            refine S_icmp_ne_J dX6_mark_122 129 rfl (pc' := 125) rfl g35 ?_
            refine S_aload_n dX6_mark_129 rfl 1 rfl (pc' := 130) rfl ?_
            refine S_getR fl_X6_59 rfl dX6_mark_130 (pc' := 133) rfl (fun x130 => ?_)
            refine S_iload_n dX6_mark_133 rfl 2 rfl (pc' := 134) rfl ?_
            refine S_iaload dX6_mark_134 (pc' := 135) rfl (fun x134 => ?_)
            refine S_iastore dX6_mark_135 (pc' := 136) rfl (fun h135 => ?_)
            refine S_aload_n dX6_mark_136 rfl 1 rfl (pc' := 137) rfl ?_
            refine S_getR fl_X6_62 rfl dX6_mark_137 (pc' := 140) rfl (fun x137 => ?_)
            refine S_iload_n dX6_mark_140 rfl 2 rfl (pc' := 141) rfl ?_
            refine S_iload_n dX6_mark_141 rfl 3 rfl (pc' := 142) rfl ?_
            refine S_iconst dX6_mark_142 (v := 2) rfl (pc' := 143) rfl ?_
            refine S_icmp_ne dX6_mark_143 150 rfl (pc' := 146) rfl (fun g143 => ?_) (fun g143 => ?_)
            · refine S_aload_n dX6_mark_150 rfl 1 rfl (pc' := 151) rfl ?_
              refine S_getR fl_X6_62 rfl dX6_mark_151 (pc' := 154) rfl (fun x151 => ?_)
              refine S_iload_n dX6_mark_154 rfl 2 rfl (pc' := 155) rfl ?_
              refine S_iaload dX6_mark_155 (pc' := 156) rfl (fun x155 => ?_)
              refine S_iastore dX6_mark_156 (pc' := 157) rfl (fun h156 => ?_)
              refine S_iload dX6_mark_157 0 rfl (pc' := 159) rfl ?_
              exact S_iret rfl dX6_mark_159
            · refine S_iload_n dX6_mark_146 rfl 4 rfl (pc' := 147) rfl ?_
              refine S_goto dX6_mark_147 156 rfl ?_
              refine S_iastore dX6_mark_156 (pc' := 157) rfl (fun h156 => ?_)
              refine S_iload dX6_mark_157 0 rfl (pc' := 159) rfl ?_
              exact S_iret rfl dX6_mark_159
          · refine S_aload_n dX6_mark_53 rfl 0 rfl (pc' := 54) rfl ?_
            refine S_bipush dX6_mark_54 (v := (-2)) rfl (pc' := 56) rfl ?_
            refine S_invi ml_X6_108 mi_X6_refuse (ci := 6) ⟨_, rfl, rfl⟩ (by decide) dX6_mark_56 [.int (-2)] rfl (fun v h2 q => c_X6_refuse Z l _ _ _ q) ⟨Nat.le_of_ble_eq_true rfl, Nat.le_of_ble_eq_true rfl⟩ (rest := []) (Nat.le_of_ble_eq_true rfl) rfl (pc' := 59) rfl (fun x56 h56 => ?_)
            exact S_iret rfl dX6_mark_59
        · refine S_ldc2 dX6_mark_38 kc_X6_104 (pc' := 41) rfl ?_
          refine S_goto dX6_mark_41 47 rfl ?_
          refine S_stai ml_X6_95 ms_X6_in dX6_mark_47 [.long a3.toInt64, .long 0, .long 4] rfl (fun v h2 q => c_X6_in Z l _ _ _ _ q) ⟨Nat.le_of_ble_eq_true rfl, Nat.le_of_ble_eq_true rfl⟩ (rest := []) (Nat.le_of_ble_eq_true rfl) rfl (pc' := 50) rfl (fun x47 h47 => ?_)
          refine S_if_ne dX6_mark_50 60 rfl (pc' := 53) rfl (fun g50 => ?_) (fun g50 => ?_)
          · refine S_iload_n dX6_mark_60 rfl 2 rfl (pc' := 61) rfl ?_
            refine S_if_ne_J dX6_mark_61 73 rfl (pc' := 64) rfl g24 ?_
            refine S_iload_n dX6_mark_73 rfl 2 rfl (pc' := 74) rfl ?_
            refine S_iconst dX6_mark_74 (v := 1) rfl (pc' := 75) rfl ?_
            refine S_icmp_ne_N dX6_mark_75 87 rfl (pc' := 78) rfl g35 ?_
            refine S_aload_n dX6_mark_78 rfl 0 rfl (pc' := 79) rfl ?_
            refine S_getR fl_X6_59 rfl dX6_mark_79 (pc' := 82) rfl (fun x79 => ?_)
            refine S_iload_n dX6_mark_82 rfl 1 rfl (pc' := 83) rfl ?_
            refine S_iaload dX6_mark_83 (pc' := 84) rfl (fun x83 => ?_)
            refine S_goto dX6_mark_84 93 rfl ?_
            refine S_istore dX6_mark_93 (by decide) (lo' := [(4, .int x83), (0, .ref (zb Z + t)), (1, .int a1), (2, .int a2), (3, .int a3)]) rfl (pc' := 95) rfl ?_
            refine S_aload_n dX6_mark_95 rfl 1 rfl (pc' := 96) rfl ?_
            refine S_getR fl_X6_56 rfl dX6_mark_96 (pc' := 99) rfl (fun x96 => ?_)
            refine S_iload_n dX6_mark_99 rfl 2 rfl (pc' := 100) rfl ?_
            refine S_iload_n dX6_mark_100 rfl 3 rfl (pc' := 101) rfl ?_
            refine S_if_ne_J dX6_mark_101 108 rfl (pc' := 104) rfl g24 ?_
            refine S_aload_n dX6_mark_108 rfl 1 rfl (pc' := 109) rfl ?_
            refine S_getR fl_X6_56 rfl dX6_mark_109 (pc' := 112) rfl (fun x109 => ?_)
            refine S_iload_n dX6_mark_112 rfl 2 rfl (pc' := 113) rfl ?_
            refine S_iaload dX6_mark_113 (pc' := 114) rfl (fun x113 => ?_)
            refine S_iastore dX6_mark_114 (pc' := 115) rfl (fun h114 => ?_)
            refine S_aload_n dX6_mark_115 rfl 1 rfl (pc' := 116) rfl ?_
            refine S_getR fl_X6_59 rfl dX6_mark_116 (pc' := 119) rfl (fun x116 => ?_)
            refine S_iload_n dX6_mark_119 rfl 2 rfl (pc' := 120) rfl ?_
            refine S_iload_n dX6_mark_120 rfl 3 rfl (pc' := 121) rfl ?_
            refine S_iconst dX6_mark_121 (v := 1) rfl (pc' := 122) rfl ?_
            refine S_icmp_ne_N dX6_mark_122 129 rfl (pc' := 125) rfl g35 ?_
            refine S_iload_n dX6_mark_125 rfl 4 rfl (pc' := 126) rfl ?_
            refine S_goto dX6_mark_126 135 rfl ?_
            refine S_iastore dX6_mark_135 (pc' := 136) rfl (fun h135 => ?_)
            refine S_aload_n dX6_mark_136 rfl 1 rfl (pc' := 137) rfl ?_
            refine S_getR fl_X6_62 rfl dX6_mark_137 (pc' := 140) rfl (fun x137 => ?_)
            refine S_iload_n dX6_mark_140 rfl 2 rfl (pc' := 141) rfl ?_
            refine S_iload_n dX6_mark_141 rfl 3 rfl (pc' := 142) rfl ?_
            refine S_iconst dX6_mark_142 (v := 2) rfl (pc' := 143) rfl ?_
            refine S_icmp_ne_J dX6_mark_143 150 rfl (pc' := 146) rfl (fun q9 => absurd (g35.symm.trans q9) (by decide)) ?_
            refine S_aload_n dX6_mark_150 rfl 1 rfl (pc' := 151) rfl ?_
            refine S_getR fl_X6_62 rfl dX6_mark_151 (pc' := 154) rfl (fun x151 => ?_)
            refine S_iload_n dX6_mark_154 rfl 2 rfl (pc' := 155) rfl ?_
            refine S_iaload dX6_mark_155 (pc' := 156) rfl (fun x155 => ?_)
            refine S_iastore dX6_mark_156 (pc' := 157) rfl (fun h156 => ?_)
            refine S_iload dX6_mark_157 0 rfl (pc' := 159) rfl ?_
            exact S_iret rfl dX6_mark_159
          · refine S_aload_n dX6_mark_53 rfl 0 rfl (pc' := 54) rfl ?_
            refine S_bipush dX6_mark_54 (v := (-2)) rfl (pc' := 56) rfl ?_
            refine S_invi ml_X6_108 mi_X6_refuse (ci := 6) ⟨_, rfl, rfl⟩ (by decide) dX6_mark_56 [.int (-2)] rfl (fun v h2 q => c_X6_refuse Z l _ _ _ q) ⟨Nat.le_of_ble_eq_true rfl, Nat.le_of_ble_eq_true rfl⟩ (rest := []) (Nat.le_of_ble_eq_true rfl) rfl (pc' := 59) rfl (fun x56 h56 => ?_)
            exact S_iret rfl dX6_mark_59
      · refine S_ldc2 dX6_mark_27 kc_X6_136 (pc' := 30) rfl ?_
        refine S_goto dX6_mark_30 47 rfl ?_
        refine S_stai ml_X6_95 ms_X6_in dX6_mark_47 [.long a3.toInt64, .long 0, .long 9] rfl (fun v h2 q => c_X6_in Z l _ _ _ _ q) ⟨Nat.le_of_ble_eq_true rfl, Nat.le_of_ble_eq_true rfl⟩ (rest := []) (Nat.le_of_ble_eq_true rfl) rfl (pc' := 50) rfl (fun x47 h47 => ?_)
        refine S_if_ne dX6_mark_50 60 rfl (pc' := 53) rfl (fun g50 => ?_) (fun g50 => ?_)
        · refine S_iload_n dX6_mark_60 rfl 2 rfl (pc' := 61) rfl ?_
          refine S_if_ne_N dX6_mark_61 73 rfl (pc' := 64) rfl g24 ?_
          refine S_aload_n dX6_mark_64 rfl 0 rfl (pc' := 65) rfl ?_
          refine S_getR fl_X6_56 rfl dX6_mark_65 (pc' := 68) rfl (fun x65 => ?_)
          refine S_iload_n dX6_mark_68 rfl 1 rfl (pc' := 69) rfl ?_
          refine S_iaload dX6_mark_69 (pc' := 70) rfl (fun x69 => ?_)
          refine S_goto dX6_mark_70 93 rfl ?_
          refine S_istore dX6_mark_93 (by decide) (lo' := [(4, .int x69), (0, .ref (zb Z + t)), (1, .int a1), (2, .int a2), (3, .int a3)]) rfl (pc' := 95) rfl ?_
          refine S_aload_n dX6_mark_95 rfl 1 rfl (pc' := 96) rfl ?_
          refine S_getR fl_X6_56 rfl dX6_mark_96 (pc' := 99) rfl (fun x96 => ?_)
          refine S_iload_n dX6_mark_99 rfl 2 rfl (pc' := 100) rfl ?_
          refine S_iload_n dX6_mark_100 rfl 3 rfl (pc' := 101) rfl ?_
          refine S_if_ne_N dX6_mark_101 108 rfl (pc' := 104) rfl g24 ?_
          refine S_iload_n dX6_mark_104 rfl 4 rfl (pc' := 105) rfl ?_
          refine S_goto dX6_mark_105 114 rfl ?_
          refine S_iastore dX6_mark_114 (pc' := 115) rfl (fun h114 => ?_)
          refine S_aload_n dX6_mark_115 rfl 1 rfl (pc' := 116) rfl ?_
          refine S_getR fl_X6_59 rfl dX6_mark_116 (pc' := 119) rfl (fun x116 => ?_)
          refine S_iload_n dX6_mark_119 rfl 2 rfl (pc' := 120) rfl ?_
          refine S_iload_n dX6_mark_120 rfl 3 rfl (pc' := 121) rfl ?_
          refine S_iconst dX6_mark_121 (v := 1) rfl (pc' := 122) rfl ?_
          refine S_icmp_ne_J dX6_mark_122 129 rfl (pc' := 125) rfl (fun q9 => absurd (g24.symm.trans q9) (by decide)) ?_
          refine S_aload_n dX6_mark_129 rfl 1 rfl (pc' := 130) rfl ?_
          refine S_getR fl_X6_59 rfl dX6_mark_130 (pc' := 133) rfl (fun x130 => ?_)
          refine S_iload_n dX6_mark_133 rfl 2 rfl (pc' := 134) rfl ?_
          refine S_iaload dX6_mark_134 (pc' := 135) rfl (fun x134 => ?_)
          refine S_iastore dX6_mark_135 (pc' := 136) rfl (fun h135 => ?_)
          refine S_aload_n dX6_mark_136 rfl 1 rfl (pc' := 137) rfl ?_
          refine S_getR fl_X6_62 rfl dX6_mark_137 (pc' := 140) rfl (fun x137 => ?_)
          refine S_iload_n dX6_mark_140 rfl 2 rfl (pc' := 141) rfl ?_
          refine S_iload_n dX6_mark_141 rfl 3 rfl (pc' := 142) rfl ?_
          refine S_iconst dX6_mark_142 (v := 2) rfl (pc' := 143) rfl ?_
          refine S_icmp_ne_J dX6_mark_143 150 rfl (pc' := 146) rfl (fun q9 => absurd (g24.symm.trans q9) (by decide)) ?_
          refine S_aload_n dX6_mark_150 rfl 1 rfl (pc' := 151) rfl ?_
          refine S_getR fl_X6_62 rfl dX6_mark_151 (pc' := 154) rfl (fun x151 => ?_)
          refine S_iload_n dX6_mark_154 rfl 2 rfl (pc' := 155) rfl ?_
          refine S_iaload dX6_mark_155 (pc' := 156) rfl (fun x155 => ?_)
          refine S_iastore dX6_mark_156 (pc' := 157) rfl (fun h156 => ?_)
          refine S_iload dX6_mark_157 0 rfl (pc' := 159) rfl ?_
          exact S_iret rfl dX6_mark_159
        · refine S_aload_n dX6_mark_53 rfl 0 rfl (pc' := 54) rfl ?_
          refine S_bipush dX6_mark_54 (v := (-2)) rfl (pc' := 56) rfl ?_
          refine S_invi ml_X6_108 mi_X6_refuse (ci := 6) ⟨_, rfl, rfl⟩ (by decide) dX6_mark_56 [.int (-2)] rfl (fun v h2 q => c_X6_refuse Z l _ _ _ q) ⟨Nat.le_of_ble_eq_true rfl, Nat.le_of_ble_eq_true rfl⟩ (rest := []) (Nat.le_of_ble_eq_true rfl) rfl (pc' := 59) rfl (fun x56 h56 => ?_)
          exact S_iret rfl dX6_mark_59
theorem dX6_note_0 : decode cX6_note 0 = .ok (.aload_n 0, 1) := by decide +kernel
theorem dX6_note_1 : decode cX6_note 1 = .ok (.iload_n 1, 1) := by decide +kernel
theorem dX6_note_2 : decode cX6_note 2 = .ok (.invokevirtual 148, 3) := by decide +kernel
theorem dX6_note_5 : decode cX6_note 5 = .ok (.ifCond .eq 27, 3) := by decide +kernel
theorem dX6_note_8 : decode cX6_note 8 = .ok (.iload_n 2, 1) := by decide +kernel
theorem dX6_note_9 : decode cX6_note 9 = .ok (.i2l, 1) := by decide +kernel
theorem dX6_note_10 : decode cX6_note 10 = .ok (.lconst 0, 1) := by decide +kernel
theorem dX6_note_11 : decode cX6_note 11 = .ok (.ldc2_w 102, 3) := by decide +kernel
theorem dX6_note_14 : decode cX6_note 14 = .ok (.invokestatic 95, 3) := by decide +kernel
theorem dX6_note_17 : decode cX6_note 17 = .ok (.ifCond .eq 15, 3) := by decide +kernel
theorem dX6_note_20 : decode cX6_note 20 = .ok (.iload_n 3, 1) := by decide +kernel
theorem dX6_note_21 : decode cX6_note 21 = .ok (.i2l, 1) := by decide +kernel
theorem dX6_note_22 : decode cX6_note 22 = .ok (.lconst 0, 1) := by decide +kernel
theorem dX6_note_23 : decode cX6_note 23 = .ok (.ldc2_w 104, 3) := by decide +kernel
theorem dX6_note_26 : decode cX6_note 26 = .ok (.invokestatic 95, 3) := by decide +kernel
theorem dX6_note_29 : decode cX6_note 29 = .ok (.ifCond .ne 10, 3) := by decide +kernel
theorem dX6_note_32 : decode cX6_note 32 = .ok (.aload_n 0, 1) := by decide +kernel
theorem dX6_note_33 : decode cX6_note 33 = .ok (.bipush (-2), 2) := by decide +kernel
theorem dX6_note_35 : decode cX6_note 35 = .ok (.invokevirtual 108, 3) := by decide +kernel
theorem dX6_note_38 : decode cX6_note 38 = .ok (.ireturn, 1) := by decide +kernel
theorem dX6_note_39 : decode cX6_note 39 = .ok (.aload_n 0, 1) := by decide +kernel
theorem dX6_note_40 : decode cX6_note 40 = .ok (.getfield 65, 3) := by decide +kernel
theorem dX6_note_43 : decode cX6_note 43 = .ok (.iload_n 1, 1) := by decide +kernel
theorem dX6_note_44 : decode cX6_note 44 = .ok (.bipush 8, 2) := by decide +kernel
theorem dX6_note_46 : decode cX6_note 46 = .ok (.imul, 1) := by decide +kernel
theorem dX6_note_47 : decode cX6_note 47 = .ok (.iload_n 2, 1) := by decide +kernel
theorem dX6_note_48 : decode cX6_note 48 = .ok (.iadd, 1) := by decide +kernel
theorem dX6_note_49 : decode cX6_note 49 = .ok (.iaload, 1) := by decide +kernel
theorem dX6_note_50 : decode cX6_note 50 = .ok (.istore 4, 2) := by decide +kernel
theorem dX6_note_52 : decode cX6_note 52 = .ok (.aload_n 0, 1) := by decide +kernel
theorem dX6_note_53 : decode cX6_note 53 = .ok (.getfield 65, 3) := by decide +kernel
theorem dX6_note_56 : decode cX6_note 56 = .ok (.iload_n 1, 1) := by decide +kernel
theorem dX6_note_57 : decode cX6_note 57 = .ok (.bipush 8, 2) := by decide +kernel
theorem dX6_note_59 : decode cX6_note 59 = .ok (.imul, 1) := by decide +kernel
theorem dX6_note_60 : decode cX6_note 60 = .ok (.iload_n 2, 1) := by decide +kernel
theorem dX6_note_61 : decode cX6_note 61 = .ok (.iadd, 1) := by decide +kernel
theorem dX6_note_62 : decode cX6_note 62 = .ok (.iload_n 3, 1) := by decide +kernel
theorem dX6_note_63 : decode cX6_note 63 = .ok (.iastore, 1) := by decide +kernel
theorem dX6_note_64 : decode cX6_note 64 = .ok (.iload 4, 2) := by decide +kernel
theorem dX6_note_66 : decode cX6_note 66 = .ok (.ireturn, 1) := by decide +kernel
set_option maxRecDepth 100000 in
set_option maxHeartbeats 4000000 in
theorem c_X6_note (Z : ZZ) (l : Launch) (t : Nat) (a1 : Int32) (a2 : Int32) (a3 : Int32) (h : HP) {v : Int32} {h1 : HP} (ho : f_X6_note t a1 a2 a3 h = some (v, h1)) : MetP Z l yX6_note cX6_note 5 (some .int) 2 46 [.ref (zb Z + t), .int a1, .int a2, .int a3] h (some (.int v)) h1 := by
  refine MetP_of ho (by decide +kernel) (Nat.le_of_ble_eq_true rfl) [(0, .ref (zb Z + t)), (1, .int a1), (2, .int a2), (3, .int a3)] rfl (own := RX6) rfl (nm := "note") rfl ?_
  unfold f_X6_note
  refine S_aload_n dX6_note_0 rfl 0 rfl (pc' := 1) rfl ?_
  refine S_iload_n dX6_note_1 rfl 1 rfl (pc' := 2) rfl ?_
  refine S_invi ml_X6_148 mi_X6_isSong (ci := 6) ⟨_, rfl, rfl⟩ (by decide) dX6_note_2 [.int a1] rfl (fun v h2 q => c_X6_isSong Z l _ _ _ q) ⟨Nat.le_of_ble_eq_true rfl, Nat.le_of_ble_eq_true rfl⟩ (rest := []) (Nat.le_of_ble_eq_true rfl) rfl (pc' := 5) rfl (fun x2 h2 => ?_)
  refine S_if_eq dX6_note_5 32 rfl (pc' := 8) rfl (fun g5 => ?_) (fun g5 => ?_)
  · refine S_aload_n dX6_note_32 rfl 0 rfl (pc' := 33) rfl ?_
    refine S_bipush dX6_note_33 (v := (-2)) rfl (pc' := 35) rfl ?_
    refine S_invi ml_X6_108 mi_X6_refuse (ci := 6) ⟨_, rfl, rfl⟩ (by decide) dX6_note_35 [.int (-2)] rfl (fun v h2 q => c_X6_refuse Z l _ _ _ q) ⟨Nat.le_of_ble_eq_true rfl, Nat.le_of_ble_eq_true rfl⟩ (rest := []) (Nat.le_of_ble_eq_true rfl) rfl (pc' := 38) rfl (fun x35 h35 => ?_)
    exact S_iret rfl dX6_note_38
  · refine S_iload_n dX6_note_8 rfl 2 rfl (pc' := 9) rfl ?_
    refine S_i2l dX6_note_9 (pc' := 10) rfl ?_
    refine S_lconst dX6_note_10 (v := 0) rfl (pc' := 11) rfl ?_
    refine S_ldc2 dX6_note_11 kc_X6_102 (pc' := 14) rfl ?_
    refine S_stai ml_X6_95 ms_X6_in dX6_note_14 [.long a2.toInt64, .long 0, .long 7] rfl (fun v h2 q => c_X6_in Z l _ _ _ _ q) ⟨Nat.le_of_ble_eq_true rfl, Nat.le_of_ble_eq_true rfl⟩ (rest := []) (Nat.le_of_ble_eq_true rfl) rfl (pc' := 17) rfl (fun x14 h14 => ?_)
    refine S_if_eq dX6_note_17 32 rfl (pc' := 20) rfl (fun g17 => ?_) (fun g17 => ?_)
    · refine S_aload_n dX6_note_32 rfl 0 rfl (pc' := 33) rfl ?_
      refine S_bipush dX6_note_33 (v := (-2)) rfl (pc' := 35) rfl ?_
      refine S_invi ml_X6_108 mi_X6_refuse (ci := 6) ⟨_, rfl, rfl⟩ (by decide) dX6_note_35 [.int (-2)] rfl (fun v h2 q => c_X6_refuse Z l _ _ _ q) ⟨Nat.le_of_ble_eq_true rfl, Nat.le_of_ble_eq_true rfl⟩ (rest := []) (Nat.le_of_ble_eq_true rfl) rfl (pc' := 38) rfl (fun x35 h35 => ?_)
      exact S_iret rfl dX6_note_38
    · refine S_iload_n dX6_note_20 rfl 3 rfl (pc' := 21) rfl ?_
      refine S_i2l dX6_note_21 (pc' := 22) rfl ?_
      refine S_lconst dX6_note_22 (v := 0) rfl (pc' := 23) rfl ?_
      refine S_ldc2 dX6_note_23 kc_X6_104 (pc' := 26) rfl ?_
      refine S_stai ml_X6_95 ms_X6_in dX6_note_26 [.long a3.toInt64, .long 0, .long 4] rfl (fun v h2 q => c_X6_in Z l _ _ _ _ q) ⟨Nat.le_of_ble_eq_true rfl, Nat.le_of_ble_eq_true rfl⟩ (rest := []) (Nat.le_of_ble_eq_true rfl) rfl (pc' := 29) rfl (fun x26 h26 => ?_)
      refine S_if_ne dX6_note_29 39 rfl (pc' := 32) rfl (fun g29 => ?_) (fun g29 => ?_)
      · refine S_aload_n dX6_note_39 rfl 0 rfl (pc' := 40) rfl ?_
        refine S_getR fl_X6_65 rfl dX6_note_40 (pc' := 43) rfl (fun x40 => ?_)
        refine S_iload_n dX6_note_43 rfl 1 rfl (pc' := 44) rfl ?_
        refine S_bipush dX6_note_44 (v := 8) rfl (pc' := 46) rfl ?_
        refine S_imul dX6_note_46 (pc' := 47) rfl ?_
        refine S_iload_n dX6_note_47 rfl 2 rfl (pc' := 48) rfl ?_
        refine S_iadd dX6_note_48 (pc' := 49) rfl ?_
        refine S_iaload dX6_note_49 (pc' := 50) rfl (fun x49 => ?_)
        refine S_istore dX6_note_50 (by decide) (lo' := [(4, .int x49), (0, .ref (zb Z + t)), (1, .int a1), (2, .int a2), (3, .int a3)]) rfl (pc' := 52) rfl ?_
        refine S_aload_n dX6_note_52 rfl 1 rfl (pc' := 53) rfl ?_
        refine S_getR fl_X6_65 rfl dX6_note_53 (pc' := 56) rfl (fun x53 => ?_)
        refine S_iload_n dX6_note_56 rfl 2 rfl (pc' := 57) rfl ?_
        refine S_bipush dX6_note_57 (v := 8) rfl (pc' := 59) rfl ?_
        refine S_imul dX6_note_59 (pc' := 60) rfl ?_
        refine S_iload_n dX6_note_60 rfl 3 rfl (pc' := 61) rfl ?_
        refine S_iadd dX6_note_61 (pc' := 62) rfl ?_
        refine S_iload_n dX6_note_62 rfl 4 rfl (pc' := 63) rfl ?_
        refine S_iastore dX6_note_63 (pc' := 64) rfl (fun h63 => ?_)
        refine S_iload dX6_note_64 0 rfl (pc' := 66) rfl ?_
        exact S_iret rfl dX6_note_66
      · refine S_aload_n dX6_note_32 rfl 0 rfl (pc' := 33) rfl ?_
        refine S_bipush dX6_note_33 (v := (-2)) rfl (pc' := 35) rfl ?_
        refine S_invi ml_X6_108 mi_X6_refuse (ci := 6) ⟨_, rfl, rfl⟩ (by decide) dX6_note_35 [.int (-2)] rfl (fun v h2 q => c_X6_refuse Z l _ _ _ q) ⟨Nat.le_of_ble_eq_true rfl, Nat.le_of_ble_eq_true rfl⟩ (rest := []) (Nat.le_of_ble_eq_true rfl) rfl (pc' := 38) rfl (fun x35 h35 => ?_)
        exact S_iret rfl dX6_note_38
theorem dX6_knows_0 : decode cX6_knows 0 = .ok (.aload_n 0, 1) := by decide +kernel
theorem dX6_knows_1 : decode cX6_knows 1 = .ok (.iload_n 1, 1) := by decide +kernel
theorem dX6_knows_2 : decode cX6_knows 2 = .ok (.invokevirtual 119, 3) := by decide +kernel
theorem dX6_knows_5 : decode cX6_knows 5 = .ok (.ifCond .eq 25, 3) := by decide +kernel
theorem dX6_knows_8 : decode cX6_knows 8 = .ok (.aload_n 0, 1) := by decide +kernel
theorem dX6_knows_9 : decode cX6_knows 9 = .ok (.iload_n 2, 1) := by decide +kernel
theorem dX6_knows_10 : decode cX6_knows 10 = .ok (.invokevirtual 148, 3) := by decide +kernel
theorem dX6_knows_13 : decode cX6_knows 13 = .ok (.ifCond .eq 17, 3) := by decide +kernel
theorem dX6_knows_16 : decode cX6_knows 16 = .ok (.iload_n 3, 1) := by decide +kernel
theorem dX6_knows_17 : decode cX6_knows 17 = .ok (.i2l, 1) := by decide +kernel
theorem dX6_knows_18 : decode cX6_knows 18 = .ok (.ldc2_w 151, 3) := by decide +kernel
theorem dX6_knows_21 : decode cX6_knows 21 = .ok (.ldc2_w 153, 3) := by decide +kernel
theorem dX6_knows_24 : decode cX6_knows 24 = .ok (.invokestatic 95, 3) := by decide +kernel
theorem dX6_knows_27 : decode cX6_knows 27 = .ok (.ifCond .ne 10, 3) := by decide +kernel
theorem dX6_knows_30 : decode cX6_knows 30 = .ok (.aload_n 0, 1) := by decide +kernel
theorem dX6_knows_31 : decode cX6_knows 31 = .ok (.bipush (-2), 2) := by decide +kernel
theorem dX6_knows_33 : decode cX6_knows 33 = .ok (.invokevirtual 108, 3) := by decide +kernel
theorem dX6_knows_36 : decode cX6_knows 36 = .ok (.ireturn, 1) := by decide +kernel
theorem dX6_knows_37 : decode cX6_knows 37 = .ok (.aload_n 0, 1) := by decide +kernel
theorem dX6_knows_38 : decode cX6_knows 38 = .ok (.getfield 68, 3) := by decide +kernel
theorem dX6_knows_41 : decode cX6_knows 41 = .ok (.iload_n 1, 1) := by decide +kernel
theorem dX6_knows_42 : decode cX6_knows 42 = .ok (.bipush 6, 2) := by decide +kernel
theorem dX6_knows_44 : decode cX6_knows 44 = .ok (.imul, 1) := by decide +kernel
theorem dX6_knows_45 : decode cX6_knows 45 = .ok (.iload_n 2, 1) := by decide +kernel
theorem dX6_knows_46 : decode cX6_knows 46 = .ok (.iadd, 1) := by decide +kernel
theorem dX6_knows_47 : decode cX6_knows 47 = .ok (.iaload, 1) := by decide +kernel
theorem dX6_knows_48 : decode cX6_knows 48 = .ok (.istore 4, 2) := by decide +kernel
theorem dX6_knows_50 : decode cX6_knows 50 = .ok (.aload_n 0, 1) := by decide +kernel
theorem dX6_knows_51 : decode cX6_knows 51 = .ok (.getfield 68, 3) := by decide +kernel
theorem dX6_knows_54 : decode cX6_knows 54 = .ok (.iload_n 1, 1) := by decide +kernel
theorem dX6_knows_55 : decode cX6_knows 55 = .ok (.bipush 6, 2) := by decide +kernel
theorem dX6_knows_57 : decode cX6_knows 57 = .ok (.imul, 1) := by decide +kernel
theorem dX6_knows_58 : decode cX6_knows 58 = .ok (.iload_n 2, 1) := by decide +kernel
theorem dX6_knows_59 : decode cX6_knows 59 = .ok (.iadd, 1) := by decide +kernel
theorem dX6_knows_60 : decode cX6_knows 60 = .ok (.iload_n 3, 1) := by decide +kernel
theorem dX6_knows_61 : decode cX6_knows 61 = .ok (.iastore, 1) := by decide +kernel
theorem dX6_knows_62 : decode cX6_knows 62 = .ok (.iload 4, 2) := by decide +kernel
theorem dX6_knows_64 : decode cX6_knows 64 = .ok (.ireturn, 1) := by decide +kernel
set_option maxRecDepth 100000 in
set_option maxHeartbeats 4000000 in
theorem c_X6_knows (Z : ZZ) (l : Launch) (t : Nat) (a1 : Int32) (a2 : Int32) (a3 : Int32) (h : HP) {v : Int32} {h1 : HP} (ho : f_X6_knows t a1 a2 a3 h = some (v, h1)) : MetP Z l yX6_knows cX6_knows 5 (some .int) 2 46 [.ref (zb Z + t), .int a1, .int a2, .int a3] h (some (.int v)) h1 := by
  refine MetP_of ho (by decide +kernel) (Nat.le_of_ble_eq_true rfl) [(0, .ref (zb Z + t)), (1, .int a1), (2, .int a2), (3, .int a3)] rfl (own := RX6) rfl (nm := "knows") rfl ?_
  unfold f_X6_knows
  refine S_aload_n dX6_knows_0 rfl 0 rfl (pc' := 1) rfl ?_
  refine S_iload_n dX6_knows_1 rfl 1 rfl (pc' := 2) rfl ?_
  refine S_invi ml_X6_119 mi_X6_isPerson (ci := 6) ⟨_, rfl, rfl⟩ (by decide) dX6_knows_2 [.int a1] rfl (fun v h2 q => c_X6_isPerson Z l _ _ _ q) ⟨Nat.le_of_ble_eq_true rfl, Nat.le_of_ble_eq_true rfl⟩ (rest := []) (Nat.le_of_ble_eq_true rfl) rfl (pc' := 5) rfl (fun x2 h2 => ?_)
  refine S_if_eq dX6_knows_5 30 rfl (pc' := 8) rfl (fun g5 => ?_) (fun g5 => ?_)
  · refine S_aload_n dX6_knows_30 rfl 0 rfl (pc' := 31) rfl ?_
    refine S_bipush dX6_knows_31 (v := (-2)) rfl (pc' := 33) rfl ?_
    refine S_invi ml_X6_108 mi_X6_refuse (ci := 6) ⟨_, rfl, rfl⟩ (by decide) dX6_knows_33 [.int (-2)] rfl (fun v h2 q => c_X6_refuse Z l _ _ _ q) ⟨Nat.le_of_ble_eq_true rfl, Nat.le_of_ble_eq_true rfl⟩ (rest := []) (Nat.le_of_ble_eq_true rfl) rfl (pc' := 36) rfl (fun x33 h33 => ?_)
    exact S_iret rfl dX6_knows_36
  · refine S_aload_n dX6_knows_8 rfl 0 rfl (pc' := 9) rfl ?_
    refine S_iload_n dX6_knows_9 rfl 2 rfl (pc' := 10) rfl ?_
    refine S_invi ml_X6_148 mi_X6_isSong (ci := 6) ⟨_, rfl, rfl⟩ (by decide) dX6_knows_10 [.int a2] rfl (fun v h2 q => c_X6_isSong Z l _ _ _ q) ⟨Nat.le_of_ble_eq_true rfl, Nat.le_of_ble_eq_true rfl⟩ (rest := []) (Nat.le_of_ble_eq_true rfl) rfl (pc' := 13) rfl (fun x10 h10 => ?_)
    refine S_if_eq dX6_knows_13 30 rfl (pc' := 16) rfl (fun g13 => ?_) (fun g13 => ?_)
    · refine S_aload_n dX6_knows_30 rfl 0 rfl (pc' := 31) rfl ?_
      refine S_bipush dX6_knows_31 (v := (-2)) rfl (pc' := 33) rfl ?_
      refine S_invi ml_X6_108 mi_X6_refuse (ci := 6) ⟨_, rfl, rfl⟩ (by decide) dX6_knows_33 [.int (-2)] rfl (fun v h2 q => c_X6_refuse Z l _ _ _ q) ⟨Nat.le_of_ble_eq_true rfl, Nat.le_of_ble_eq_true rfl⟩ (rest := []) (Nat.le_of_ble_eq_true rfl) rfl (pc' := 36) rfl (fun x33 h33 => ?_)
      exact S_iret rfl dX6_knows_36
    · refine S_iload_n dX6_knows_16 rfl 3 rfl (pc' := 17) rfl ?_
      refine S_i2l dX6_knows_17 (pc' := 18) rfl ?_
      refine S_ldc2 dX6_knows_18 kc_X6_151 (pc' := 21) rfl ?_
      refine S_ldc2 dX6_knows_21 kc_X6_153 (pc' := 24) rfl ?_
      refine S_stai ml_X6_95 ms_X6_in dX6_knows_24 [.long a3.toInt64, .long (-1), .long 99] rfl (fun v h2 q => c_X6_in Z l _ _ _ _ q) ⟨Nat.le_of_ble_eq_true rfl, Nat.le_of_ble_eq_true rfl⟩ (rest := []) (Nat.le_of_ble_eq_true rfl) rfl (pc' := 27) rfl (fun x24 h24 => ?_)
      refine S_if_ne dX6_knows_27 37 rfl (pc' := 30) rfl (fun g27 => ?_) (fun g27 => ?_)
      · refine S_aload_n dX6_knows_37 rfl 0 rfl (pc' := 38) rfl ?_
        refine S_getR fl_X6_68 rfl dX6_knows_38 (pc' := 41) rfl (fun x38 => ?_)
        refine S_iload_n dX6_knows_41 rfl 1 rfl (pc' := 42) rfl ?_
        refine S_bipush dX6_knows_42 (v := 6) rfl (pc' := 44) rfl ?_
        refine S_imul dX6_knows_44 (pc' := 45) rfl ?_
        refine S_iload_n dX6_knows_45 rfl 2 rfl (pc' := 46) rfl ?_
        refine S_iadd dX6_knows_46 (pc' := 47) rfl ?_
        refine S_iaload dX6_knows_47 (pc' := 48) rfl (fun x47 => ?_)
        refine S_istore dX6_knows_48 (by decide) (lo' := [(4, .int x47), (0, .ref (zb Z + t)), (1, .int a1), (2, .int a2), (3, .int a3)]) rfl (pc' := 50) rfl ?_
        refine S_aload_n dX6_knows_50 rfl 1 rfl (pc' := 51) rfl ?_
        refine S_getR fl_X6_68 rfl dX6_knows_51 (pc' := 54) rfl (fun x51 => ?_)
        refine S_iload_n dX6_knows_54 rfl 2 rfl (pc' := 55) rfl ?_
        refine S_bipush dX6_knows_55 (v := 6) rfl (pc' := 57) rfl ?_
        refine S_imul dX6_knows_57 (pc' := 58) rfl ?_
        refine S_iload_n dX6_knows_58 rfl 3 rfl (pc' := 59) rfl ?_
        refine S_iadd dX6_knows_59 (pc' := 60) rfl ?_
        refine S_iload_n dX6_knows_60 rfl 4 rfl (pc' := 61) rfl ?_
        refine S_iastore dX6_knows_61 (pc' := 62) rfl (fun h61 => ?_)
        refine S_iload dX6_knows_62 0 rfl (pc' := 64) rfl ?_
        exact S_iret rfl dX6_knows_64
      · refine S_aload_n dX6_knows_30 rfl 0 rfl (pc' := 31) rfl ?_
        refine S_bipush dX6_knows_31 (v := (-2)) rfl (pc' := 33) rfl ?_
        refine S_invi ml_X6_108 mi_X6_refuse (ci := 6) ⟨_, rfl, rfl⟩ (by decide) dX6_knows_33 [.int (-2)] rfl (fun v h2 q => c_X6_refuse Z l _ _ _ q) ⟨Nat.le_of_ble_eq_true rfl, Nat.le_of_ble_eq_true rfl⟩ (rest := []) (Nat.le_of_ble_eq_true rfl) rfl (pc' := 36) rfl (fun x33 h33 => ?_)
        exact S_iret rfl dX6_knows_36
theorem dX6_seats_0 : decode cX6_seats 0 = .ok (.aload_n 0, 1) := by decide +kernel
theorem dX6_seats_1 : decode cX6_seats 1 = .ok (.getfield 53, 3) := by decide +kernel
theorem dX6_seats_4 : decode cX6_seats 4 = .ok (.iload_n 1, 1) := by decide +kernel
theorem dX6_seats_5 : decode cX6_seats 5 = .ok (.iload_n 3, 1) := by decide +kernel
theorem dX6_seats_6 : decode cX6_seats 6 = .ok (.ifCond .eq 16, 3) := by decide +kernel
theorem dX6_seats_9 : decode cX6_seats 9 = .ok (.aload_n 0, 1) := by decide +kernel
theorem dX6_seats_10 : decode cX6_seats 10 = .ok (.getfield 53, 3) := by decide +kernel
theorem dX6_seats_13 : decode cX6_seats 13 = .ok (.iload_n 1, 1) := by decide +kernel
theorem dX6_seats_14 : decode cX6_seats 14 = .ok (.iaload, 1) := by decide +kernel
theorem dX6_seats_15 : decode cX6_seats 15 = .ok (.iconst 1, 1) := by decide +kernel
theorem dX6_seats_16 : decode cX6_seats 16 = .ok (.iload_n 2, 1) := by decide +kernel
theorem dX6_seats_17 : decode cX6_seats 17 = .ok (.ishl, 1) := by decide +kernel
theorem dX6_seats_18 : decode cX6_seats 18 = .ok (.ior, 1) := by decide +kernel
theorem dX6_seats_19 : decode cX6_seats 19 = .ok (.goto 15, 3) := by decide +kernel
theorem dX6_seats_22 : decode cX6_seats 22 = .ok (.aload_n 0, 1) := by decide +kernel
theorem dX6_seats_23 : decode cX6_seats 23 = .ok (.getfield 53, 3) := by decide +kernel
theorem dX6_seats_26 : decode cX6_seats 26 = .ok (.iload_n 1, 1) := by decide +kernel
theorem dX6_seats_27 : decode cX6_seats 27 = .ok (.iaload, 1) := by decide +kernel
theorem dX6_seats_28 : decode cX6_seats 28 = .ok (.iconst 1, 1) := by decide +kernel
theorem dX6_seats_29 : decode cX6_seats 29 = .ok (.iload_n 2, 1) := by decide +kernel
theorem dX6_seats_30 : decode cX6_seats 30 = .ok (.ishl, 1) := by decide +kernel
theorem dX6_seats_31 : decode cX6_seats 31 = .ok (.iconst (-1), 1) := by decide +kernel
theorem dX6_seats_32 : decode cX6_seats 32 = .ok (.ixor, 1) := by decide +kernel
theorem dX6_seats_33 : decode cX6_seats 33 = .ok (.iand, 1) := by decide +kernel
theorem dX6_seats_34 : decode cX6_seats 34 = .ok (.iastore, 1) := by decide +kernel
theorem dX6_seats_35 : decode cX6_seats 35 = .ok (.aload_n 0, 1) := by decide +kernel
theorem dX6_seats_36 : decode cX6_seats 36 = .ok (.getfield 53, 3) := by decide +kernel
theorem dX6_seats_39 : decode cX6_seats 39 = .ok (.iload_n 2, 1) := by decide +kernel
theorem dX6_seats_40 : decode cX6_seats 40 = .ok (.iload_n 3, 1) := by decide +kernel
theorem dX6_seats_41 : decode cX6_seats 41 = .ok (.ifCond .eq 16, 3) := by decide +kernel
theorem dX6_seats_44 : decode cX6_seats 44 = .ok (.aload_n 0, 1) := by decide +kernel
theorem dX6_seats_45 : decode cX6_seats 45 = .ok (.getfield 53, 3) := by decide +kernel
theorem dX6_seats_48 : decode cX6_seats 48 = .ok (.iload_n 2, 1) := by decide +kernel
theorem dX6_seats_49 : decode cX6_seats 49 = .ok (.iaload, 1) := by decide +kernel
theorem dX6_seats_50 : decode cX6_seats 50 = .ok (.iconst 1, 1) := by decide +kernel
theorem dX6_seats_51 : decode cX6_seats 51 = .ok (.iload_n 1, 1) := by decide +kernel
theorem dX6_seats_52 : decode cX6_seats 52 = .ok (.ishl, 1) := by decide +kernel
theorem dX6_seats_53 : decode cX6_seats 53 = .ok (.ior, 1) := by decide +kernel
theorem dX6_seats_54 : decode cX6_seats 54 = .ok (.goto 15, 3) := by decide +kernel
theorem dX6_seats_57 : decode cX6_seats 57 = .ok (.aload_n 0, 1) := by decide +kernel
theorem dX6_seats_58 : decode cX6_seats 58 = .ok (.getfield 53, 3) := by decide +kernel
theorem dX6_seats_61 : decode cX6_seats 61 = .ok (.iload_n 2, 1) := by decide +kernel
theorem dX6_seats_62 : decode cX6_seats 62 = .ok (.iaload, 1) := by decide +kernel
theorem dX6_seats_63 : decode cX6_seats 63 = .ok (.iconst 1, 1) := by decide +kernel
theorem dX6_seats_64 : decode cX6_seats 64 = .ok (.iload_n 1, 1) := by decide +kernel
theorem dX6_seats_65 : decode cX6_seats 65 = .ok (.ishl, 1) := by decide +kernel
theorem dX6_seats_66 : decode cX6_seats 66 = .ok (.iconst (-1), 1) := by decide +kernel
theorem dX6_seats_67 : decode cX6_seats 67 = .ok (.ixor, 1) := by decide +kernel
theorem dX6_seats_68 : decode cX6_seats 68 = .ok (.iand, 1) := by decide +kernel
theorem dX6_seats_69 : decode cX6_seats 69 = .ok (.iastore, 1) := by decide +kernel
theorem dX6_seats_70 : decode cX6_seats 70 = .ok (.return_, 1) := by decide +kernel
set_option maxRecDepth 100000 in
set_option maxHeartbeats 4000000 in
theorem c_X6_seats (Z : ZZ) (l : Launch) (t : Nat) (a1 : Int32) (a2 : Int32) (a3 : Int32) (h : HP) {v : Unit} {h1 : HP} (ho : f_X6_seats t a1 a2 a3 h = some (v, h1)) : MetP Z l yX6_seats cX6_seats 4 (none) 0 0 [.ref (zb Z + t), .int a1, .int a2, .int a3] h (none) h1 := by
  refine MetP_of ho (by decide +kernel) (Nat.le_of_ble_eq_true rfl) [(0, .ref (zb Z + t)), (1, .int a1), (2, .int a2), (3, .int a3)] rfl (own := RX6) rfl (nm := "seats") rfl ?_
  unfold f_X6_seats
  refine S_aload_n dX6_seats_0 rfl 0 rfl (pc' := 1) rfl ?_
  refine S_getR fl_X6_53 rfl dX6_seats_1 (pc' := 4) rfl (fun x1 => ?_)
  refine S_iload_n dX6_seats_4 rfl 1 rfl (pc' := 5) rfl ?_
  refine S_iload_n dX6_seats_5 rfl 3 rfl (pc' := 6) rfl ?_
  refine S_if_eq dX6_seats_6 22 rfl (pc' := 9) rfl (fun g6 => ?_) (fun g6 => ?_)
  · refine S_aload_n dX6_seats_22 rfl 0 rfl (pc' := 23) rfl ?_
    refine S_getR fl_X6_53 rfl dX6_seats_23 (pc' := 26) rfl (fun x23 => ?_)
    refine S_iload_n dX6_seats_26 rfl 1 rfl (pc' := 27) rfl ?_
    refine S_iaload dX6_seats_27 (pc' := 28) rfl (fun x27 => ?_)
    refine S_iconst dX6_seats_28 (v := 1) rfl (pc' := 29) rfl ?_
    refine S_iload_n dX6_seats_29 rfl 2 rfl (pc' := 30) rfl ?_
    refine S_ishl dX6_seats_30 (pc' := 31) rfl ?_
    refine S_iconst dX6_seats_31 (v := (-1)) rfl (pc' := 32) rfl ?_
    refine S_ixor dX6_seats_32 (pc' := 33) rfl ?_
    refine S_iand dX6_seats_33 (pc' := 34) rfl ?_
    refine S_iastore dX6_seats_34 (pc' := 35) rfl (fun h34 => ?_)
    refine S_aload_n dX6_seats_35 rfl 0 rfl (pc' := 36) rfl ?_
    refine S_getR fl_X6_53 rfl dX6_seats_36 (pc' := 39) rfl (fun x36 => ?_)
    refine S_iload_n dX6_seats_39 rfl 2 rfl (pc' := 40) rfl ?_
    refine S_iload_n dX6_seats_40 rfl 3 rfl (pc' := 41) rfl ?_
    refine S_if_eq_J dX6_seats_41 57 rfl (pc' := 44) rfl g6 ?_
    refine S_aload_n dX6_seats_57 rfl 0 rfl (pc' := 58) rfl ?_
    refine S_getR fl_X6_53 rfl dX6_seats_58 (pc' := 61) rfl (fun x58 => ?_)
    refine S_iload_n dX6_seats_61 rfl 2 rfl (pc' := 62) rfl ?_
    refine S_iaload dX6_seats_62 (pc' := 63) rfl (fun x62 => ?_)
    refine S_iconst dX6_seats_63 (v := 1) rfl (pc' := 64) rfl ?_
    refine S_iload_n dX6_seats_64 rfl 1 rfl (pc' := 65) rfl ?_
    refine S_ishl dX6_seats_65 (pc' := 66) rfl ?_
    refine S_iconst dX6_seats_66 (v := (-1)) rfl (pc' := 67) rfl ?_
    refine S_ixor dX6_seats_67 (pc' := 68) rfl ?_
    refine S_iand dX6_seats_68 (pc' := 69) rfl ?_
    refine S_iastore dX6_seats_69 (pc' := 70) rfl (fun h69 => ?_)
    exact S_vret rfl dX6_seats_70
  · refine S_aload_n dX6_seats_9 rfl 0 rfl (pc' := 10) rfl ?_
    refine S_getR fl_X6_53 rfl dX6_seats_10 (pc' := 13) rfl (fun x10 => ?_)
    refine S_iload_n dX6_seats_13 rfl 1 rfl (pc' := 14) rfl ?_
    refine S_iaload dX6_seats_14 (pc' := 15) rfl (fun x14 => ?_)
    refine S_iconst dX6_seats_15 (v := 1) rfl (pc' := 16) rfl ?_
    refine S_iload_n dX6_seats_16 rfl 2 rfl (pc' := 17) rfl ?_
    refine S_ishl dX6_seats_17 (pc' := 18) rfl ?_
    refine S_ior dX6_seats_18 (pc' := 19) rfl ?_
    refine S_goto dX6_seats_19 34 rfl ?_
    refine S_iastore dX6_seats_34 (pc' := 35) rfl (fun h34 => ?_)
    refine S_aload_n dX6_seats_35 rfl 0 rfl (pc' := 36) rfl ?_
    refine S_getR fl_X6_53 rfl dX6_seats_36 (pc' := 39) rfl (fun x36 => ?_)
    refine S_iload_n dX6_seats_39 rfl 2 rfl (pc' := 40) rfl ?_
    refine S_iload_n dX6_seats_40 rfl 3 rfl (pc' := 41) rfl ?_
    refine S_if_eq_N dX6_seats_41 57 rfl (pc' := 44) rfl g6 ?_
    refine S_aload_n dX6_seats_44 rfl 0 rfl (pc' := 45) rfl ?_
    refine S_getR fl_X6_53 rfl dX6_seats_45 (pc' := 48) rfl (fun x45 => ?_)
    refine S_iload_n dX6_seats_48 rfl 2 rfl (pc' := 49) rfl ?_
    refine S_iaload dX6_seats_49 (pc' := 50) rfl (fun x49 => ?_)
    refine S_iconst dX6_seats_50 (v := 1) rfl (pc' := 51) rfl ?_
    refine S_iload_n dX6_seats_51 rfl 1 rfl (pc' := 52) rfl ?_
    refine S_ishl dX6_seats_52 (pc' := 53) rfl ?_
    refine S_ior dX6_seats_53 (pc' := 54) rfl ?_
    refine S_goto dX6_seats_54 69 rfl ?_
    refine S_iastore dX6_seats_69 (pc' := 70) rfl (fun h69 => ?_)
    exact S_vret rfl dX6_seats_70
theorem dX6_seat_0 : decode cX6_seat 0 = .ok (.aload_n 0, 1) := by decide +kernel
theorem dX6_seat_1 : decode cX6_seat 1 = .ok (.iload_n 1, 1) := by decide +kernel
theorem dX6_seat_2 : decode cX6_seat 2 = .ok (.invokevirtual 119, 3) := by decide +kernel
theorem dX6_seat_5 : decode cX6_seat 5 = .ok (.ifCond .eq 26, 3) := by decide +kernel
theorem dX6_seat_8 : decode cX6_seat 8 = .ok (.aload_n 0, 1) := by decide +kernel
theorem dX6_seat_9 : decode cX6_seat 9 = .ok (.iload_n 2, 1) := by decide +kernel
theorem dX6_seat_10 : decode cX6_seat 10 = .ok (.invokevirtual 119, 3) := by decide +kernel
theorem dX6_seat_13 : decode cX6_seat 13 = .ok (.ifCond .eq 18, 3) := by decide +kernel
theorem dX6_seat_16 : decode cX6_seat 16 = .ok (.iload_n 1, 1) := by decide +kernel
theorem dX6_seat_17 : decode cX6_seat 17 = .ok (.iload_n 2, 1) := by decide +kernel
theorem dX6_seat_18 : decode cX6_seat 18 = .ok (.if_icmp .eq 13, 3) := by decide +kernel
theorem dX6_seat_21 : decode cX6_seat 21 = .ok (.iload_n 3, 1) := by decide +kernel
theorem dX6_seat_22 : decode cX6_seat 22 = .ok (.i2l, 1) := by decide +kernel
theorem dX6_seat_23 : decode cX6_seat 23 = .ok (.lconst 0, 1) := by decide +kernel
theorem dX6_seat_24 : decode cX6_seat 24 = .ok (.lconst 1, 1) := by decide +kernel
theorem dX6_seat_25 : decode cX6_seat 25 = .ok (.invokestatic 95, 3) := by decide +kernel
theorem dX6_seat_28 : decode cX6_seat 28 = .ok (.ifCond .ne 10, 3) := by decide +kernel
theorem dX6_seat_31 : decode cX6_seat 31 = .ok (.aload_n 0, 1) := by decide +kernel
theorem dX6_seat_32 : decode cX6_seat 32 = .ok (.bipush (-2), 2) := by decide +kernel
theorem dX6_seat_34 : decode cX6_seat 34 = .ok (.invokevirtual 108, 3) := by decide +kernel
theorem dX6_seat_37 : decode cX6_seat 37 = .ok (.ireturn, 1) := by decide +kernel
theorem dX6_seat_38 : decode cX6_seat 38 = .ok (.aload_n 0, 1) := by decide +kernel
theorem dX6_seat_39 : decode cX6_seat 39 = .ok (.getfield 53, 3) := by decide +kernel
theorem dX6_seat_42 : decode cX6_seat 42 = .ok (.iload_n 1, 1) := by decide +kernel
theorem dX6_seat_43 : decode cX6_seat 43 = .ok (.iaload, 1) := by decide +kernel
theorem dX6_seat_44 : decode cX6_seat 44 = .ok (.iload_n 2, 1) := by decide +kernel
theorem dX6_seat_45 : decode cX6_seat 45 = .ok (.ishr, 1) := by decide +kernel
theorem dX6_seat_46 : decode cX6_seat 46 = .ok (.iconst 1, 1) := by decide +kernel
theorem dX6_seat_47 : decode cX6_seat 47 = .ok (.iand, 1) := by decide +kernel
theorem dX6_seat_48 : decode cX6_seat 48 = .ok (.istore 4, 2) := by decide +kernel
theorem dX6_seat_50 : decode cX6_seat 50 = .ok (.aload_n 0, 1) := by decide +kernel
theorem dX6_seat_51 : decode cX6_seat 51 = .ok (.iload_n 1, 1) := by decide +kernel
theorem dX6_seat_52 : decode cX6_seat 52 = .ok (.iload_n 2, 1) := by decide +kernel
theorem dX6_seat_53 : decode cX6_seat 53 = .ok (.iload_n 3, 1) := by decide +kernel
theorem dX6_seat_54 : decode cX6_seat 54 = .ok (.iconst 1, 1) := by decide +kernel
theorem dX6_seat_55 : decode cX6_seat 55 = .ok (.if_icmp .ne 7, 3) := by decide +kernel
theorem dX6_seat_58 : decode cX6_seat 58 = .ok (.iconst 1, 1) := by decide +kernel
theorem dX6_seat_59 : decode cX6_seat 59 = .ok (.goto 4, 3) := by decide +kernel
theorem dX6_seat_62 : decode cX6_seat 62 = .ok (.iconst 0, 1) := by decide +kernel
theorem dX6_seat_63 : decode cX6_seat 63 = .ok (.invokevirtual 155, 3) := by decide +kernel
theorem dX6_seat_66 : decode cX6_seat 66 = .ok (.iload 4, 2) := by decide +kernel
theorem dX6_seat_68 : decode cX6_seat 68 = .ok (.ireturn, 1) := by decide +kernel
set_option maxRecDepth 100000 in
set_option maxHeartbeats 4000000 in
theorem c_X6_seat (Z : ZZ) (l : Launch) (t : Nat) (a1 : Int32) (a2 : Int32) (a3 : Int32) (h : HP) {v : Int32} {h1 : HP} (ho : f_X6_seat t a1 a2 a3 h = some (v, h1)) : MetP Z l yX6_seat cX6_seat 5 (some .int) 2 46 [.ref (zb Z + t), .int a1, .int a2, .int a3] h (some (.int v)) h1 := by
  refine MetP_of ho (by decide +kernel) (Nat.le_of_ble_eq_true rfl) [(0, .ref (zb Z + t)), (1, .int a1), (2, .int a2), (3, .int a3)] rfl (own := RX6) rfl (nm := "seat") rfl ?_
  unfold f_X6_seat
  refine S_aload_n dX6_seat_0 rfl 0 rfl (pc' := 1) rfl ?_
  refine S_iload_n dX6_seat_1 rfl 1 rfl (pc' := 2) rfl ?_
  refine S_invi ml_X6_119 mi_X6_isPerson (ci := 6) ⟨_, rfl, rfl⟩ (by decide) dX6_seat_2 [.int a1] rfl (fun v h2 q => c_X6_isPerson Z l _ _ _ q) ⟨Nat.le_of_ble_eq_true rfl, Nat.le_of_ble_eq_true rfl⟩ (rest := []) (Nat.le_of_ble_eq_true rfl) rfl (pc' := 5) rfl (fun x2 h2 => ?_)
  refine S_if_eq dX6_seat_5 31 rfl (pc' := 8) rfl (fun g5 => ?_) (fun g5 => ?_)
  · refine S_aload_n dX6_seat_31 rfl 0 rfl (pc' := 32) rfl ?_
    refine S_bipush dX6_seat_32 (v := (-2)) rfl (pc' := 34) rfl ?_
    refine S_invi ml_X6_108 mi_X6_refuse (ci := 6) ⟨_, rfl, rfl⟩ (by decide) dX6_seat_34 [.int (-2)] rfl (fun v h2 q => c_X6_refuse Z l _ _ _ q) ⟨Nat.le_of_ble_eq_true rfl, Nat.le_of_ble_eq_true rfl⟩ (rest := []) (Nat.le_of_ble_eq_true rfl) rfl (pc' := 37) rfl (fun x34 h34 => ?_)
    exact S_iret rfl dX6_seat_37
  · refine S_aload_n dX6_seat_8 rfl 0 rfl (pc' := 9) rfl ?_
    refine S_iload_n dX6_seat_9 rfl 2 rfl (pc' := 10) rfl ?_
    refine S_invi ml_X6_119 mi_X6_isPerson (ci := 6) ⟨_, rfl, rfl⟩ (by decide) dX6_seat_10 [.int a2] rfl (fun v h2 q => c_X6_isPerson Z l _ _ _ q) ⟨Nat.le_of_ble_eq_true rfl, Nat.le_of_ble_eq_true rfl⟩ (rest := []) (Nat.le_of_ble_eq_true rfl) rfl (pc' := 13) rfl (fun x10 h10 => ?_)
    refine S_if_eq dX6_seat_13 31 rfl (pc' := 16) rfl (fun g13 => ?_) (fun g13 => ?_)
    · refine S_aload_n dX6_seat_31 rfl 0 rfl (pc' := 32) rfl ?_
      refine S_bipush dX6_seat_32 (v := (-2)) rfl (pc' := 34) rfl ?_
      refine S_invi ml_X6_108 mi_X6_refuse (ci := 6) ⟨_, rfl, rfl⟩ (by decide) dX6_seat_34 [.int (-2)] rfl (fun v h2 q => c_X6_refuse Z l _ _ _ q) ⟨Nat.le_of_ble_eq_true rfl, Nat.le_of_ble_eq_true rfl⟩ (rest := []) (Nat.le_of_ble_eq_true rfl) rfl (pc' := 37) rfl (fun x34 h34 => ?_)
      exact S_iret rfl dX6_seat_37
    · refine S_iload_n dX6_seat_16 rfl 1 rfl (pc' := 17) rfl ?_
      refine S_iload_n dX6_seat_17 rfl 2 rfl (pc' := 18) rfl ?_
      refine S_icmp_eq dX6_seat_18 31 rfl (pc' := 21) rfl (fun g18 => ?_) (fun g18 => ?_)
      · refine S_aload_n dX6_seat_31 rfl 0 rfl (pc' := 32) rfl ?_
        refine S_bipush dX6_seat_32 (v := (-2)) rfl (pc' := 34) rfl ?_
        refine S_invi ml_X6_108 mi_X6_refuse (ci := 6) ⟨_, rfl, rfl⟩ (by decide) dX6_seat_34 [.int (-2)] rfl (fun v h2 q => c_X6_refuse Z l _ _ _ q) ⟨Nat.le_of_ble_eq_true rfl, Nat.le_of_ble_eq_true rfl⟩ (rest := []) (Nat.le_of_ble_eq_true rfl) rfl (pc' := 37) rfl (fun x34 h34 => ?_)
        exact S_iret rfl dX6_seat_37
      · refine S_iload_n dX6_seat_21 rfl 3 rfl (pc' := 22) rfl ?_
        refine S_i2l dX6_seat_22 (pc' := 23) rfl ?_
        refine S_lconst dX6_seat_23 (v := 0) rfl (pc' := 24) rfl ?_
        refine S_lconst dX6_seat_24 (v := 1) rfl (pc' := 25) rfl ?_
        refine S_stai ml_X6_95 ms_X6_in dX6_seat_25 [.long a3.toInt64, .long 0, .long 1] rfl (fun v h2 q => c_X6_in Z l _ _ _ _ q) ⟨Nat.le_of_ble_eq_true rfl, Nat.le_of_ble_eq_true rfl⟩ (rest := []) (Nat.le_of_ble_eq_true rfl) rfl (pc' := 28) rfl (fun x25 h25 => ?_)
        refine S_if_ne dX6_seat_28 38 rfl (pc' := 31) rfl (fun g28 => ?_) (fun g28 => ?_)
        · refine S_aload_n dX6_seat_38 rfl 0 rfl (pc' := 39) rfl ?_
          refine S_getR fl_X6_53 rfl dX6_seat_39 (pc' := 42) rfl (fun x39 => ?_)
          refine S_iload_n dX6_seat_42 rfl 1 rfl (pc' := 43) rfl ?_
          refine S_iaload dX6_seat_43 (pc' := 44) rfl (fun x43 => ?_)
          refine S_iload_n dX6_seat_44 rfl 2 rfl (pc' := 45) rfl ?_
          refine S_ishr dX6_seat_45 (pc' := 46) rfl ?_
          refine S_iconst dX6_seat_46 (v := 1) rfl (pc' := 47) rfl ?_
          refine S_iand dX6_seat_47 (pc' := 48) rfl ?_
          refine S_istore dX6_seat_48 (by decide) (lo' := [(4, .int ((x43 >>> (a2 &&& 31)) &&& 1)), (0, .ref (zb Z + t)), (1, .int a1), (2, .int a2), (3, .int a3)]) rfl (pc' := 50) rfl ?_
          refine S_aload_n dX6_seat_50 rfl 1 rfl (pc' := 51) rfl ?_
          refine S_iload_n dX6_seat_51 rfl 2 rfl (pc' := 52) rfl ?_
          refine S_iload_n dX6_seat_52 rfl 3 rfl (pc' := 53) rfl ?_
          refine S_iload_n dX6_seat_53 rfl 4 rfl (pc' := 54) rfl ?_
          refine S_iconst dX6_seat_54 (v := 1) rfl (pc' := 55) rfl ?_
          refine S_icmp_ne dX6_seat_55 62 rfl (pc' := 58) rfl (fun g55 => ?_) (fun g55 => ?_)
          · refine S_iconst dX6_seat_62 (v := 0) rfl (pc' := 63) rfl ?_
            refine S_invv ml_X6_155 mi_X6_seats (ci := 6) ⟨_, rfl, rfl⟩ (by decide) dX6_seat_63 [.int a1, .int a2, .int 0] rfl (fun v h2 q => c_X6_seats Z l _ _ _ _ _ q) ⟨Nat.le_of_ble_eq_true rfl, Nat.le_of_ble_eq_true rfl⟩ (rest := []) (Nat.le_of_ble_eq_true rfl) rfl (pc' := 66) rfl (fun _ h63 => ?_)
            refine S_iload dX6_seat_66 0 rfl (pc' := 68) rfl ?_
            exact S_iret rfl dX6_seat_68
          · refine S_iconst dX6_seat_58 (v := 1) rfl (pc' := 59) rfl ?_
            refine S_goto dX6_seat_59 63 rfl ?_
            refine S_invv ml_X6_155 mi_X6_seats (ci := 6) ⟨_, rfl, rfl⟩ (by decide) dX6_seat_63 [.int a1, .int a2, .int 1] rfl (fun v h2 q => c_X6_seats Z l _ _ _ _ _ q) ⟨Nat.le_of_ble_eq_true rfl, Nat.le_of_ble_eq_true rfl⟩ (rest := []) (Nat.le_of_ble_eq_true rfl) rfl (pc' := 66) rfl (fun _ h63 => ?_)
            refine S_iload dX6_seat_66 0 rfl (pc' := 68) rfl ?_
            exact S_iret rfl dX6_seat_68
        · refine S_aload_n dX6_seat_31 rfl 0 rfl (pc' := 32) rfl ?_
          refine S_bipush dX6_seat_32 (v := (-2)) rfl (pc' := 34) rfl ?_
          refine S_invi ml_X6_108 mi_X6_refuse (ci := 6) ⟨_, rfl, rfl⟩ (by decide) dX6_seat_34 [.int (-2)] rfl (fun v h2 q => c_X6_refuse Z l _ _ _ q) ⟨Nat.le_of_ble_eq_true rfl, Nat.le_of_ble_eq_true rfl⟩ (rest := []) (Nat.le_of_ble_eq_true rfl) rfl (pc' := 37) rfl (fun x34 h34 => ?_)
          exact S_iret rfl dX6_seat_37
