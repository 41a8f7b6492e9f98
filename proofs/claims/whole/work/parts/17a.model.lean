theorem dX9_reset_0 : decode cX9_reset 0 = .ok (.aload_n 0, 1) := by decide +kernel
theorem dX9_reset_1 : decode cX9_reset 1 = .ok (.iload_n 1, 1) := by decide +kernel
theorem dX9_reset_2 : decode cX9_reset 2 = .ok (.putfield 97, 3) := by decide +kernel
theorem dX9_reset_5 : decode cX9_reset 5 = .ok (.aload_n 0, 1) := by decide +kernel
theorem dX9_reset_6 : decode cX9_reset 6 = .ok (.iload_n 2, 1) := by decide +kernel
theorem dX9_reset_7 : decode cX9_reset 7 = .ok (.putfield 100, 3) := by decide +kernel
theorem dX9_reset_10 : decode cX9_reset 10 = .ok (.aload_n 0, 1) := by decide +kernel
theorem dX9_reset_11 : decode cX9_reset 11 = .ok (.iconst 0, 1) := by decide +kernel
theorem dX9_reset_12 : decode cX9_reset 12 = .ok (.putfield 103, 3) := by decide +kernel
theorem dX9_reset_15 : decode cX9_reset 15 = .ok (.aload_n 0, 1) := by decide +kernel
theorem dX9_reset_16 : decode cX9_reset 16 = .ok (.iconst 0, 1) := by decide +kernel
theorem dX9_reset_17 : decode cX9_reset 17 = .ok (.putfield 106, 3) := by decide +kernel
theorem dX9_reset_20 : decode cX9_reset 20 = .ok (.aload_n 0, 1) := by decide +kernel
theorem dX9_reset_21 : decode cX9_reset 21 = .ok (.iconst 0, 1) := by decide +kernel
theorem dX9_reset_22 : decode cX9_reset 22 = .ok (.putfield 109, 3) := by decide +kernel
theorem dX9_reset_25 : decode cX9_reset 25 = .ok (.aload_n 0, 1) := by decide +kernel
theorem dX9_reset_26 : decode cX9_reset 26 = .ok (.iconst 0, 1) := by decide +kernel
theorem dX9_reset_27 : decode cX9_reset 27 = .ok (.putfield 112, 3) := by decide +kernel
theorem dX9_reset_30 : decode cX9_reset 30 = .ok (.aload_n 0, 1) := by decide +kernel
theorem dX9_reset_31 : decode cX9_reset 31 = .ok (.iconst 0, 1) := by decide +kernel
theorem dX9_reset_32 : decode cX9_reset 32 = .ok (.putfield 115, 3) := by decide +kernel
theorem dX9_reset_35 : decode cX9_reset 35 = .ok (.aload_n 0, 1) := by decide +kernel
theorem dX9_reset_36 : decode cX9_reset 36 = .ok (.iconst 0, 1) := by decide +kernel
theorem dX9_reset_37 : decode cX9_reset 37 = .ok (.putfield 118, 3) := by decide +kernel
theorem dX9_reset_40 : decode cX9_reset 40 = .ok (.aload_n 0, 1) := by decide +kernel
theorem dX9_reset_41 : decode cX9_reset 41 = .ok (.iconst 0, 1) := by decide +kernel
theorem dX9_reset_42 : decode cX9_reset 42 = .ok (.putfield 121, 3) := by decide +kernel
theorem dX9_reset_45 : decode cX9_reset 45 = .ok (.aload_n 0, 1) := by decide +kernel
theorem dX9_reset_46 : decode cX9_reset 46 = .ok (.iconst 0, 1) := by decide +kernel
theorem dX9_reset_47 : decode cX9_reset 47 = .ok (.putfield 124, 3) := by decide +kernel
theorem dX9_reset_50 : decode cX9_reset 50 = .ok (.aload_n 0, 1) := by decide +kernel
theorem dX9_reset_51 : decode cX9_reset 51 = .ok (.iconst 1, 1) := by decide +kernel
theorem dX9_reset_52 : decode cX9_reset 52 = .ok (.putfield 127, 3) := by decide +kernel
theorem dX9_reset_55 : decode cX9_reset 55 = .ok (.aload_n 0, 1) := by decide +kernel
theorem dX9_reset_56 : decode cX9_reset 56 = .ok (.iconst 1, 1) := by decide +kernel
theorem dX9_reset_57 : decode cX9_reset 57 = .ok (.putfield 131, 3) := by decide +kernel
theorem dX9_reset_60 : decode cX9_reset 60 = .ok (.aload_n 0, 1) := by decide +kernel
theorem dX9_reset_61 : decode cX9_reset 61 = .ok (.iconst 1, 1) := by decide +kernel
theorem dX9_reset_62 : decode cX9_reset 62 = .ok (.putfield 134, 3) := by decide +kernel
theorem dX9_reset_65 : decode cX9_reset 65 = .ok (.aload_n 0, 1) := by decide +kernel
theorem dX9_reset_66 : decode cX9_reset 66 = .ok (.iconst (-1), 1) := by decide +kernel
theorem dX9_reset_67 : decode cX9_reset 67 = .ok (.putfield 137, 3) := by decide +kernel
theorem dX9_reset_70 : decode cX9_reset 70 = .ok (.aload_n 0, 1) := by decide +kernel
theorem dX9_reset_71 : decode cX9_reset 71 = .ok (.iconst 0, 1) := by decide +kernel
theorem dX9_reset_72 : decode cX9_reset 72 = .ok (.putfield 140, 3) := by decide +kernel
theorem dX9_reset_75 : decode cX9_reset 75 = .ok (.aload_n 0, 1) := by decide +kernel
theorem dX9_reset_76 : decode cX9_reset 76 = .ok (.iconst 0, 1) := by decide +kernel
theorem dX9_reset_77 : decode cX9_reset 77 = .ok (.putfield 143, 3) := by decide +kernel
theorem dX9_reset_80 : decode cX9_reset 80 = .ok (.aload_n 0, 1) := by decide +kernel
theorem dX9_reset_81 : decode cX9_reset 81 = .ok (.iconst (-1), 1) := by decide +kernel
theorem dX9_reset_82 : decode cX9_reset 82 = .ok (.putfield 146, 3) := by decide +kernel
theorem dX9_reset_85 : decode cX9_reset 85 = .ok (.return_, 1) := by decide +kernel
def X9_reset (a0 : Nat) (i1 : Int32) (i2 : Int32) : M Unit := bd (pV 12 1 a0 (.int i1)) (fun _ => bd (pV 12 2 a0 (.int i2)) (fun _ => bd (pV 12 4 a0 (.int 0)) (fun _ => bd (pV 12 8 a0 (.int 0)) (fun _ => bd (pV 12 12 a0 (.int 0)) (fun _ => bd (pV 12 18 a0 (.int 0)) (fun _ => bd (pV 12 19 a0 (.int 0)) (fun _ => bd (pV 12 20 a0 (.int 0)) (fun _ => bd (pV 12 21 a0 (.int 0)) (fun _ => bd (pV 12 22 a0 (.int 0)) (fun _ => bd (pZ 12 23 a0 1) (fun _ => bd (pV 12 24 a0 (.int 1)) (fun _ => bd (pV 12 25 a0 (.int 1)) (fun _ => bd (pV 12 26 a0 (.int (-1))) (fun _ => bd (pV 12 33 a0 (.int 0)) (fun _ => bd (pV 12 34 a0 (.int 0)) (fun _ => bd (pV 12 35 a0 (.int (-1))) (fun _ => pu ())))))))))))))))))
section
variable {G : Gx} {p : Program} {l : Launch} {e : Env} {R : Room} {s : State} {m : MethodId} {args : Array Value} {below : List Frame} {meth : Method} {c : Code} {h0 : Hp} {r : Unit} {h' : Hp}
end
set_option maxRecDepth 20000 in
theorem con_X9_reset (l : Launch) (G : Gx) (a0 : Nat) (i1 : Int32) (i2 : Int32) : Con G rvU l yX9_reset cX9_reset 3 none 0 0 [.ref a0, .int i1, .int i2] (X9_reset a0 i1 i2) := by
  refine con_of (lv := [(0, .ref a0), (1, .int i1), (2, .int i2)]) (by decide) (Nat.le_of_ble_eq_true rfl) rfl (fun p e R s m args below meth c h0 r h' C hF hO hr hm => ?_)
  refine s_aload_n C 0 dX9_reset_0 rfl rfl ?_
  refine s_iload_n C 1 dX9_reset_1 rfl rfl ?_
  refine s_pV C ci12 1 (by decide) rfl (Or.inl wd_6_116) dX9_reset_2 rfl rfl ?_
  refine s_aload_n C 0 dX9_reset_5 rfl rfl ?_
  refine s_iload_n C 2 dX9_reset_6 rfl rfl ?_
  refine s_pV C ci12 2 (by decide) rfl (Or.inl wd_6_117) dX9_reset_7 rfl rfl ?_
  refine s_aload_n C 0 dX9_reset_10 rfl rfl ?_
  refine s_iconst (v := 0) C dX9_reset_11 (by decide) ?_
  refine s_pV C ci12 4 (by decide) rfl (Or.inl wd_6_119) dX9_reset_12 rfl rfl ?_
  refine s_aload_n C 0 dX9_reset_15 rfl rfl ?_
  refine s_iconst (v := 0) C dX9_reset_16 (by decide) ?_
  refine s_pV C ci12 8 (by decide) rfl (Or.inl wd_6_123) dX9_reset_17 rfl rfl ?_
  refine s_aload_n C 0 dX9_reset_20 rfl rfl ?_
  refine s_iconst (v := 0) C dX9_reset_21 (by decide) ?_
  refine s_pV C ci12 12 (by decide) rfl (Or.inl wd_6_127) dX9_reset_22 rfl rfl ?_
  refine s_aload_n C 0 dX9_reset_25 rfl rfl ?_
  refine s_iconst (v := 0) C dX9_reset_26 (by decide) ?_
  refine s_pV C ci12 18 (by decide) rfl (Or.inl wd_6_133) dX9_reset_27 rfl rfl ?_
  refine s_aload_n C 0 dX9_reset_30 rfl rfl ?_
  refine s_iconst (v := 0) C dX9_reset_31 (by decide) ?_
  refine s_pV C ci12 19 (by decide) rfl (Or.inl wd_6_134) dX9_reset_32 rfl rfl ?_
  refine s_aload_n C 0 dX9_reset_35 rfl rfl ?_
  refine s_iconst (v := 0) C dX9_reset_36 (by decide) ?_
  refine s_pV C ci12 20 (by decide) rfl (Or.inl wd_6_135) dX9_reset_37 rfl rfl ?_
  refine s_aload_n C 0 dX9_reset_40 rfl rfl ?_
  refine s_iconst (v := 0) C dX9_reset_41 (by decide) ?_
  refine s_pV C ci12 21 (by decide) rfl (Or.inl wd_6_136) dX9_reset_42 rfl rfl ?_
  refine s_aload_n C 0 dX9_reset_45 rfl rfl ?_
  refine s_iconst (v := 0) C dX9_reset_46 (by decide) ?_
  refine s_pV C ci12 22 (by decide) rfl (Or.inl wd_6_137) dX9_reset_47 rfl rfl ?_
  refine s_aload_n C 0 dX9_reset_50 rfl rfl ?_
  refine s_iconst (v := 1) C dX9_reset_51 (by decide) ?_
  refine s_pZ C ci12 23 (by decide) rfl rfl (Or.inl wd_6_138) dX9_reset_52 ?_
  refine s_aload_n C 0 dX9_reset_55 rfl rfl ?_
  refine s_iconst (v := 1) C dX9_reset_56 (by decide) ?_
  refine s_pV C ci12 24 (by decide) rfl (Or.inl wd_6_139) dX9_reset_57 rfl rfl ?_
  refine s_aload_n C 0 dX9_reset_60 rfl rfl ?_
  refine s_iconst (v := 1) C dX9_reset_61 (by decide) ?_
  refine s_pV C ci12 25 (by decide) rfl (Or.inl wd_6_140) dX9_reset_62 rfl rfl ?_
  refine s_aload_n C 0 dX9_reset_65 rfl rfl ?_
  refine s_iconst (v := (-1)) C dX9_reset_66 (by decide) ?_
  refine s_pV C ci12 26 (by decide) rfl (Or.inl wd_6_141) dX9_reset_67 rfl rfl ?_
  refine s_aload_n C 0 dX9_reset_70 rfl rfl ?_
  refine s_iconst (v := 0) C dX9_reset_71 (by decide) ?_
  refine s_pV C ci12 33 (by decide) rfl (Or.inl wd_6_148) dX9_reset_72 rfl rfl ?_
  refine s_aload_n C 0 dX9_reset_75 rfl rfl ?_
  refine s_iconst (v := 0) C dX9_reset_76 (by decide) ?_
  refine s_pV C ci12 34 (by decide) rfl (Or.inl wd_6_149) dX9_reset_77 rfl rfl ?_
  refine s_aload_n C 0 dX9_reset_80 rfl rfl ?_
  refine s_iconst (v := (-1)) C dX9_reset_81 (by decide) ?_
  refine s_pV C ci12 35 (by decide) rfl (Or.inl wd_6_150) dX9_reset_82 rfl rfl ?_
  exact s_vret C hr rfl dX9_reset_85

theorem dX9_init_0 : decode cX9_init 0 = .ok (.aload_n 0, 1) := by decide +kernel
theorem dX9_init_1 : decode cX9_init 1 = .ok (.invokespecial 1, 3) := by decide +kernel
theorem dX9_init_4 : decode cX9_init 4 = .ok (.aload_n 0, 1) := by decide +kernel
theorem dX9_init_5 : decode cX9_init 5 = .ok (.sipush 16384, 3) := by decide +kernel
theorem dX9_init_8 : decode cX9_init 8 = .ok (.newarray .byte, 2) := by decide +kernel
theorem dX9_init_10 : decode cX9_init 10 = .ok (.putfield 9, 3) := by decide +kernel
theorem dX9_init_13 : decode cX9_init 13 = .ok (.aload_n 0, 1) := by decide +kernel
theorem dX9_init_14 : decode cX9_init 14 = .ok (.sipush 4200, 3) := by decide +kernel
theorem dX9_init_17 : decode cX9_init 17 = .ok (.newarray .int, 2) := by decide +kernel
theorem dX9_init_19 : decode cX9_init 19 = .ok (.putfield 13, 3) := by decide +kernel
theorem dX9_init_22 : decode cX9_init 22 = .ok (.aload_n 0, 1) := by decide +kernel
theorem dX9_init_23 : decode cX9_init 23 = .ok (.sipush 4200, 3) := by decide +kernel
theorem dX9_init_26 : decode cX9_init 26 = .ok (.newarray .int, 2) := by decide +kernel
theorem dX9_init_28 : decode cX9_init 28 = .ok (.putfield 17, 3) := by decide +kernel
theorem dX9_init_31 : decode cX9_init 31 = .ok (.aload_n 0, 1) := by decide +kernel
theorem dX9_init_32 : decode cX9_init 32 = .ok (.sipush 4200, 3) := by decide +kernel
theorem dX9_init_35 : decode cX9_init 35 = .ok (.newarray .int, 2) := by decide +kernel
theorem dX9_init_37 : decode cX9_init 37 = .ok (.putfield 20, 3) := by decide +kernel
theorem dX9_init_40 : decode cX9_init 40 = .ok (.aload_n 0, 1) := by decide +kernel
theorem dX9_init_41 : decode cX9_init 41 = .ok (.sipush 4200, 3) := by decide +kernel
theorem dX9_init_44 : decode cX9_init 44 = .ok (.newarray .int, 2) := by decide +kernel
theorem dX9_init_46 : decode cX9_init 46 = .ok (.putfield 23, 3) := by decide +kernel
theorem dX9_init_49 : decode cX9_init 49 = .ok (.aload_n 0, 1) := by decide +kernel
theorem dX9_init_50 : decode cX9_init 50 = .ok (.sipush 4200, 3) := by decide +kernel
theorem dX9_init_53 : decode cX9_init 53 = .ok (.newarray .int, 2) := by decide +kernel
theorem dX9_init_55 : decode cX9_init 55 = .ok (.putfield 26, 3) := by decide +kernel
theorem dX9_init_58 : decode cX9_init 58 = .ok (.aload_n 0, 1) := by decide +kernel
theorem dX9_init_59 : decode cX9_init 59 = .ok (.sipush 4200, 3) := by decide +kernel
theorem dX9_init_62 : decode cX9_init 62 = .ok (.newarray .int, 2) := by decide +kernel
theorem dX9_init_64 : decode cX9_init 64 = .ok (.putfield 29, 3) := by decide +kernel
theorem dX9_init_67 : decode cX9_init 67 = .ok (.aload_n 0, 1) := by decide +kernel
theorem dX9_init_68 : decode cX9_init 68 = .ok (.sipush 16484, 3) := by decide +kernel
theorem dX9_init_71 : decode cX9_init 71 = .ok (.newarray .byte, 2) := by decide +kernel
theorem dX9_init_73 : decode cX9_init 73 = .ok (.putfield 32, 3) := by decide +kernel
theorem dX9_init_76 : decode cX9_init 76 = .ok (.aload_n 0, 1) := by decide +kernel
theorem dX9_init_77 : decode cX9_init 77 = .ok (.bipush 80, 2) := by decide +kernel
theorem dX9_init_79 : decode cX9_init 79 = .ok (.newarray .byte, 2) := by decide +kernel
theorem dX9_init_81 : decode cX9_init 81 = .ok (.putfield 35, 3) := by decide +kernel
theorem dX9_init_84 : decode cX9_init 84 = .ok (.aload_n 0, 1) := by decide +kernel
theorem dX9_init_85 : decode cX9_init 85 = .ok (.bipush 64, 2) := by decide +kernel
theorem dX9_init_87 : decode cX9_init 87 = .ok (.newarray .byte, 2) := by decide +kernel
theorem dX9_init_89 : decode cX9_init 89 = .ok (.putfield 38, 3) := by decide +kernel
theorem dX9_init_92 : decode cX9_init 92 = .ok (.aload_n 0, 1) := by decide +kernel
theorem dX9_init_93 : decode cX9_init 93 = .ok (.sipush 19200, 3) := by decide +kernel
theorem dX9_init_96 : decode cX9_init 96 = .ok (.newarray .byte, 2) := by decide +kernel
theorem dX9_init_98 : decode cX9_init 98 = .ok (.putfield 41, 3) := by decide +kernel
theorem dX9_init_101 : decode cX9_init 101 = .ok (.aload_n 0, 1) := by decide +kernel
theorem dX9_init_102 : decode cX9_init 102 = .ok (.sipush 1200, 3) := by decide +kernel
theorem dX9_init_105 : decode cX9_init 105 = .ok (.newarray .int, 2) := by decide +kernel
theorem dX9_init_107 : decode cX9_init 107 = .ok (.putfield 44, 3) := by decide +kernel
theorem dX9_init_110 : decode cX9_init 110 = .ok (.aload_n 0, 1) := by decide +kernel
theorem dX9_init_111 : decode cX9_init 111 = .ok (.sipush 1200, 3) := by decide +kernel
theorem dX9_init_114 : decode cX9_init 114 = .ok (.newarray .int, 2) := by decide +kernel
theorem dX9_init_116 : decode cX9_init 116 = .ok (.putfield 47, 3) := by decide +kernel
theorem dX9_init_119 : decode cX9_init 119 = .ok (.aload_n 0, 1) := by decide +kernel
theorem dX9_init_120 : decode cX9_init 120 = .ok (.sipush 1200, 3) := by decide +kernel
theorem dX9_init_123 : decode cX9_init 123 = .ok (.newarray .int, 2) := by decide +kernel
theorem dX9_init_125 : decode cX9_init 125 = .ok (.putfield 50, 3) := by decide +kernel
theorem dX9_init_128 : decode cX9_init 128 = .ok (.aload_n 0, 1) := by decide +kernel
theorem dX9_init_129 : decode cX9_init 129 = .ok (.sipush 1200, 3) := by decide +kernel
theorem dX9_init_132 : decode cX9_init 132 = .ok (.newarray .int, 2) := by decide +kernel
theorem dX9_init_134 : decode cX9_init 134 = .ok (.putfield 53, 3) := by decide +kernel
theorem dX9_init_137 : decode cX9_init 137 = .ok (.aload_n 0, 1) := by decide +kernel
theorem dX9_init_138 : decode cX9_init 138 = .ok (.sipush 1200, 3) := by decide +kernel
theorem dX9_init_141 : decode cX9_init 141 = .ok (.newarray .int, 2) := by decide +kernel
theorem dX9_init_143 : decode cX9_init 143 = .ok (.putfield 56, 3) := by decide +kernel
theorem dX9_init_146 : decode cX9_init 146 = .ok (.aload_n 0, 1) := by decide +kernel
theorem dX9_init_147 : decode cX9_init 147 = .ok (.sipush 19200, 3) := by decide +kernel
theorem dX9_init_150 : decode cX9_init 150 = .ok (.newarray .byte, 2) := by decide +kernel
theorem dX9_init_152 : decode cX9_init 152 = .ok (.putfield 59, 3) := by decide +kernel
theorem dX9_init_155 : decode cX9_init 155 = .ok (.aload_n 0, 1) := by decide +kernel
theorem dX9_init_156 : decode cX9_init 156 = .ok (.sipush 1200, 3) := by decide +kernel
theorem dX9_init_159 : decode cX9_init 159 = .ok (.newarray .int, 2) := by decide +kernel
theorem dX9_init_161 : decode cX9_init 161 = .ok (.putfield 62, 3) := by decide +kernel
theorem dX9_init_164 : decode cX9_init 164 = .ok (.aload_n 0, 1) := by decide +kernel
theorem dX9_init_165 : decode cX9_init 165 = .ok (.sipush 1200, 3) := by decide +kernel
theorem dX9_init_168 : decode cX9_init 168 = .ok (.newarray .int, 2) := by decide +kernel
theorem dX9_init_170 : decode cX9_init 170 = .ok (.putfield 65, 3) := by decide +kernel
theorem dX9_init_173 : decode cX9_init 173 = .ok (.aload_n 0, 1) := by decide +kernel
theorem dX9_init_174 : decode cX9_init 174 = .ok (.sipush 1200, 3) := by decide +kernel
theorem dX9_init_177 : decode cX9_init 177 = .ok (.newarray .int, 2) := by decide +kernel
theorem dX9_init_179 : decode cX9_init 179 = .ok (.putfield 68, 3) := by decide +kernel
theorem dX9_init_182 : decode cX9_init 182 = .ok (.aload_n 0, 1) := by decide +kernel
theorem dX9_init_183 : decode cX9_init 183 = .ok (.sipush 4200, 3) := by decide +kernel
theorem dX9_init_186 : decode cX9_init 186 = .ok (.newarray .int, 2) := by decide +kernel
theorem dX9_init_188 : decode cX9_init 188 = .ok (.putfield 71, 3) := by decide +kernel
theorem dX9_init_191 : decode cX9_init 191 = .ok (.aload_n 0, 1) := by decide +kernel
theorem dX9_init_192 : decode cX9_init 192 = .ok (.sipush 19200, 3) := by decide +kernel
theorem dX9_init_195 : decode cX9_init 195 = .ok (.newarray .byte, 2) := by decide +kernel
theorem dX9_init_197 : decode cX9_init 197 = .ok (.putfield 74, 3) := by decide +kernel
theorem dX9_init_200 : decode cX9_init 200 = .ok (.aload_n 0, 1) := by decide +kernel
theorem dX9_init_201 : decode cX9_init 201 = .ok (.sipush 1200, 3) := by decide +kernel
theorem dX9_init_204 : decode cX9_init 204 = .ok (.newarray .int, 2) := by decide +kernel
theorem dX9_init_206 : decode cX9_init 206 = .ok (.putfield 77, 3) := by decide +kernel
theorem dX9_init_209 : decode cX9_init 209 = .ok (.aload_n 0, 1) := by decide +kernel
theorem dX9_init_210 : decode cX9_init 210 = .ok (.sipush 1200, 3) := by decide +kernel
theorem dX9_init_213 : decode cX9_init 213 = .ok (.newarray .int, 2) := by decide +kernel
theorem dX9_init_215 : decode cX9_init 215 = .ok (.putfield 80, 3) := by decide +kernel
theorem dX9_init_218 : decode cX9_init 218 = .ok (.aload_n 0, 1) := by decide +kernel
theorem dX9_init_219 : decode cX9_init 219 = .ok (.sipush 1200, 3) := by decide +kernel
theorem dX9_init_222 : decode cX9_init 222 = .ok (.newarray .int, 2) := by decide +kernel
theorem dX9_init_224 : decode cX9_init 224 = .ok (.putfield 83, 3) := by decide +kernel
theorem dX9_init_227 : decode cX9_init 227 = .ok (.aload_n 0, 1) := by decide +kernel
theorem dX9_init_228 : decode cX9_init 228 = .ok (.sipush 1200, 3) := by decide +kernel
theorem dX9_init_231 : decode cX9_init 231 = .ok (.newarray .int, 2) := by decide +kernel
theorem dX9_init_233 : decode cX9_init 233 = .ok (.putfield 86, 3) := by decide +kernel
theorem dX9_init_236 : decode cX9_init 236 = .ok (.aload_n 0, 1) := by decide +kernel
theorem dX9_init_237 : decode cX9_init 237 = .ok (.sipush 4096, 3) := by decide +kernel
theorem dX9_init_240 : decode cX9_init 240 = .ok (.sipush 512, 3) := by decide +kernel
theorem dX9_init_243 : decode cX9_init 243 = .ok (.invokevirtual 89, 3) := by decide +kernel
theorem dX9_init_246 : decode cX9_init 246 = .ok (.return_, 1) := by decide +kernel
def X9_init (a0 : Nat) : M Unit := bd (na 21 16384) (fun y1 => bd (pV 12 3 a0 (.ref y1)) (fun _ => bd (na 22 4200) (fun y2 => bd (pV 12 5 a0 (.ref y2)) (fun _ => bd (na 22 4200) (fun y3 => bd (pV 12 6 a0 (.ref y3)) (fun _ => bd (na 22 4200) (fun y4 => bd (pV 12 7 a0 (.ref y4)) (fun _ => bd (na 22 4200) (fun y5 => bd (pV 12 9 a0 (.ref y5)) (fun _ => bd (na 22 4200) (fun y6 => bd (pV 12 10 a0 (.ref y6)) (fun _ => bd (na 22 4200) (fun y7 => bd (pV 12 11 a0 (.ref y7)) (fun _ => bd (na 21 16484) (fun y8 => bd (pV 12 13 a0 (.ref y8)) (fun _ => bd (na 21 80) (fun y9 => bd (pV 12 15 a0 (.ref y9)) (fun _ => bd (na 21 64) (fun y10 => bd (pV 12 17 a0 (.ref y10)) (fun _ => bd (na 21 19200) (fun y11 => bd (pV 12 27 a0 (.ref y11)) (fun _ => bd (na 22 1200) (fun y12 => bd (pV 12 28 a0 (.ref y12)) (fun _ => bd (na 22 1200) (fun y13 => bd (pV 12 29 a0 (.ref y13)) (fun _ => bd (na 22 1200) (fun y14 => bd (pV 12 30 a0 (.ref y14)) (fun _ => bd (na 22 1200) (fun y15 => bd (pV 12 31 a0 (.ref y15)) (fun _ => bd (na 22 1200) (fun y16 => bd (pV 12 32 a0 (.ref y16)) (fun _ => bd (na 21 19200) (fun y17 => bd (pV 12 38 a0 (.ref y17)) (fun _ => bd (na 22 1200) (fun y18 => bd (pV 12 39 a0 (.ref y18)) (fun _ => bd (na 22 1200) (fun y19 => bd (pV 12 40 a0 (.ref y19)) (fun _ => bd (na 22 1200) (fun y20 => bd (pV 12 41 a0 (.ref y20)) (fun _ => bd (na 22 4200) (fun y21 => bd (pV 12 44 a0 (.ref y21)) (fun _ => bd (na 21 19200) (fun y22 => bd (pV 12 48 a0 (.ref y22)) (fun _ => bd (na 22 1200) (fun y23 => bd (pV 12 49 a0 (.ref y23)) (fun _ => bd (na 22 1200) (fun y24 => bd (pV 12 50 a0 (.ref y24)) (fun _ => bd (na 22 1200) (fun y25 => bd (pV 12 51 a0 (.ref y25)) (fun _ => bd (na 22 1200) (fun y26 => bd (pV 12 52 a0 (.ref y26)) (fun _ => bd (ck 12 a0) (fun _ => bd (X9_reset a0 4096 512) (fun _ => pu ()))))))))))))))))))))))))))))))))))))))))))))))))))))))
section
variable {G : Gx} {p : Program} {l : Launch} {e : Env} {R : Room} {s : State} {m : MethodId} {args : Array Value} {below : List Frame} {meth : Method} {c : Code} {h0 : Hp} {r : Unit} {h' : Hp}
end
set_option maxRecDepth 20000 in
theorem con_X9_init (l : Launch) (G : Gx) (a0 : Nat) : Con G rvU l yX9_init cX9_init 1 none 1 30 [.ref a0] (X9_init a0) := by
  refine con_of (lv := [(0, .ref a0)]) (by decide) (Nat.le_of_ble_eq_true rfl) rfl (fun p e R s m args below meth c h0 r h' C hF hO hr hm => ?_)
  refine s_aload_n C 0 dX9_init_0 rfl rfl ?_
  refine s_obj C wd_6_110 wd_1_39 wd_1_40 (by rw [hF]; decide) (by rw [hO]; exact Nat.le_of_ble_eq_true rfl) dX9_init_1 ?_
  refine s_aload_n C 0 dX9_init_4 rfl rfl ?_
  refine s_sipush (v := 16384) C dX9_init_5 (by decide) ?_
  refine s_na21 C wd_1_54 dX9_init_8 (fun y1 => ?_)
  refine s_pF C ci12 3 (by decide) rfl rfl hm wd_6_118 dX9_init_10 rfl rfl ?_
  refine s_aload_n C 0 dX9_init_13 rfl rfl ?_
  refine s_sipush (v := 4200) C dX9_init_14 (by decide) ?_
  refine s_na22 C wd_7_38 dX9_init_17 (fun y2 => ?_)
  refine s_pF C ci12 5 (by decide) rfl rfl hm wd_6_120 dX9_init_19 rfl rfl ?_
  refine s_aload_n C 0 dX9_init_22 rfl rfl ?_
  refine s_sipush (v := 4200) C dX9_init_23 (by decide) ?_
  refine s_na22 C wd_7_38 dX9_init_26 (fun y3 => ?_)
  refine s_pF C ci12 6 (by decide) rfl rfl hm wd_6_121 dX9_init_28 rfl rfl ?_
  refine s_aload_n C 0 dX9_init_31 rfl rfl ?_
  refine s_sipush (v := 4200) C dX9_init_32 (by decide) ?_
  refine s_na22 C wd_7_38 dX9_init_35 (fun y4 => ?_)
  refine s_pF C ci12 7 (by decide) rfl rfl hm wd_6_122 dX9_init_37 rfl rfl ?_
  refine s_aload_n C 0 dX9_init_40 rfl rfl ?_
  refine s_sipush (v := 4200) C dX9_init_41 (by decide) ?_
  refine s_na22 C wd_7_38 dX9_init_44 (fun y5 => ?_)
  refine s_pF C ci12 9 (by decide) rfl rfl hm wd_6_124 dX9_init_46 rfl rfl ?_
  refine s_aload_n C 0 dX9_init_49 rfl rfl ?_
  refine s_sipush (v := 4200) C dX9_init_50 (by decide) ?_
  refine s_na22 C wd_7_38 dX9_init_53 (fun y6 => ?_)
  refine s_pF C ci12 10 (by decide) rfl rfl hm wd_6_125 dX9_init_55 rfl rfl ?_
  refine s_aload_n C 0 dX9_init_58 rfl rfl ?_
  refine s_sipush (v := 4200) C dX9_init_59 (by decide) ?_
  refine s_na22 C wd_7_38 dX9_init_62 (fun y7 => ?_)
  refine s_pF C ci12 11 (by decide) rfl rfl hm wd_6_126 dX9_init_64 rfl rfl ?_
  refine s_aload_n C 0 dX9_init_67 rfl rfl ?_
  refine s_sipush (v := 16484) C dX9_init_68 (by decide) ?_
  refine s_na21 C wd_1_54 dX9_init_71 (fun y8 => ?_)
  refine s_pF C ci12 13 (by decide) rfl rfl hm wd_6_128 dX9_init_73 rfl rfl ?_
  refine s_aload_n C 0 dX9_init_76 rfl rfl ?_
  refine s_bipush (v := 80) C dX9_init_77 (by decide) ?_
  refine s_na21 C wd_1_54 dX9_init_79 (fun y9 => ?_)
  refine s_pF C ci12 15 (by decide) rfl rfl hm wd_6_130 dX9_init_81 rfl rfl ?_
  refine s_aload_n C 0 dX9_init_84 rfl rfl ?_
  refine s_bipush (v := 64) C dX9_init_85 (by decide) ?_
  refine s_na21 C wd_1_54 dX9_init_87 (fun y10 => ?_)
  refine s_pF C ci12 17 (by decide) rfl rfl hm wd_6_132 dX9_init_89 rfl rfl ?_
  refine s_aload_n C 0 dX9_init_92 rfl rfl ?_
  refine s_sipush (v := 19200) C dX9_init_93 (by decide) ?_
  refine s_na21 C wd_1_54 dX9_init_96 (fun y11 => ?_)
  refine s_pF C ci12 27 (by decide) rfl rfl hm wd_6_142 dX9_init_98 rfl rfl ?_
  refine s_aload_n C 0 dX9_init_101 rfl rfl ?_
  refine s_sipush (v := 1200) C dX9_init_102 (by decide) ?_
  refine s_na22 C wd_7_38 dX9_init_105 (fun y12 => ?_)
  refine s_pF C ci12 28 (by decide) rfl rfl hm wd_6_143 dX9_init_107 rfl rfl ?_
  refine s_aload_n C 0 dX9_init_110 rfl rfl ?_
  refine s_sipush (v := 1200) C dX9_init_111 (by decide) ?_
  refine s_na22 C wd_7_38 dX9_init_114 (fun y13 => ?_)
  refine s_pF C ci12 29 (by decide) rfl rfl hm wd_6_144 dX9_init_116 rfl rfl ?_
  refine s_aload_n C 0 dX9_init_119 rfl rfl ?_
  refine s_sipush (v := 1200) C dX9_init_120 (by decide) ?_
  refine s_na22 C wd_7_38 dX9_init_123 (fun y14 => ?_)
  refine s_pF C ci12 30 (by decide) rfl rfl hm wd_6_145 dX9_init_125 rfl rfl ?_
  refine s_aload_n C 0 dX9_init_128 rfl rfl ?_
  refine s_sipush (v := 1200) C dX9_init_129 (by decide) ?_
  refine s_na22 C wd_7_38 dX9_init_132 (fun y15 => ?_)
  refine s_pF C ci12 31 (by decide) rfl rfl hm wd_6_146 dX9_init_134 rfl rfl ?_
  refine s_aload_n C 0 dX9_init_137 rfl rfl ?_
  refine s_sipush (v := 1200) C dX9_init_138 (by decide) ?_
  refine s_na22 C wd_7_38 dX9_init_141 (fun y16 => ?_)
  refine s_pF C ci12 32 (by decide) rfl rfl hm wd_6_147 dX9_init_143 rfl rfl ?_
  refine s_aload_n C 0 dX9_init_146 rfl rfl ?_
  refine s_sipush (v := 19200) C dX9_init_147 (by decide) ?_
  refine s_na21 C wd_1_54 dX9_init_150 (fun y17 => ?_)
  refine s_pF C ci12 38 (by decide) rfl rfl hm wd_6_153 dX9_init_152 rfl rfl ?_
  refine s_aload_n C 0 dX9_init_155 rfl rfl ?_
  refine s_sipush (v := 1200) C dX9_init_156 (by decide) ?_
  refine s_na22 C wd_7_38 dX9_init_159 (fun y18 => ?_)
  refine s_pF C ci12 39 (by decide) rfl rfl hm wd_6_154 dX9_init_161 rfl rfl ?_
  refine s_aload_n C 0 dX9_init_164 rfl rfl ?_
  refine s_sipush (v := 1200) C dX9_init_165 (by decide) ?_
  refine s_na22 C wd_7_38 dX9_init_168 (fun y19 => ?_)
  refine s_pF C ci12 40 (by decide) rfl rfl hm wd_6_155 dX9_init_170 rfl rfl ?_
  refine s_aload_n C 0 dX9_init_173 rfl rfl ?_
  refine s_sipush (v := 1200) C dX9_init_174 (by decide) ?_
  refine s_na22 C wd_7_38 dX9_init_177 (fun y20 => ?_)
  refine s_pF C ci12 41 (by decide) rfl rfl hm wd_6_156 dX9_init_179 rfl rfl ?_
  refine s_aload_n C 0 dX9_init_182 rfl rfl ?_
  refine s_sipush (v := 4200) C dX9_init_183 (by decide) ?_
  refine s_na22 C wd_7_38 dX9_init_186 (fun y21 => ?_)
  refine s_pF C ci12 44 (by decide) rfl rfl hm wd_6_159 dX9_init_188 rfl rfl ?_
  refine s_aload_n C 0 dX9_init_191 rfl rfl ?_
  refine s_sipush (v := 19200) C dX9_init_192 (by decide) ?_
  refine s_na21 C wd_1_54 dX9_init_195 (fun y22 => ?_)
  refine s_pF C ci12 48 (by decide) rfl rfl hm wd_6_163 dX9_init_197 rfl rfl ?_
  refine s_aload_n C 0 dX9_init_200 rfl rfl ?_
  refine s_sipush (v := 1200) C dX9_init_201 (by decide) ?_
  refine s_na22 C wd_7_38 dX9_init_204 (fun y23 => ?_)
  refine s_pF C ci12 49 (by decide) rfl rfl hm wd_6_164 dX9_init_206 rfl rfl ?_
  refine s_aload_n C 0 dX9_init_209 rfl rfl ?_
  refine s_sipush (v := 1200) C dX9_init_210 (by decide) ?_
  refine s_na22 C wd_7_38 dX9_init_213 (fun y24 => ?_)
  refine s_pF C ci12 50 (by decide) rfl rfl hm wd_6_165 dX9_init_215 rfl rfl ?_
  refine s_aload_n C 0 dX9_init_218 rfl rfl ?_
  refine s_sipush (v := 1200) C dX9_init_219 (by decide) ?_
  refine s_na22 C wd_7_38 dX9_init_222 (fun y25 => ?_)
  refine s_pF C ci12 51 (by decide) rfl rfl hm wd_6_166 dX9_init_224 rfl rfl ?_
  refine s_aload_n C 0 dX9_init_227 rfl rfl ?_
  refine s_sipush (v := 1200) C dX9_init_228 (by decide) ?_
  refine s_na22 C wd_7_38 dX9_init_231 (fun y26 => ?_)
  refine s_pF C ci12 52 (by decide) rfl rfl hm wd_6_167 dX9_init_233 rfl rfl ?_
  refine s_aload_n C 0 dX9_init_236 rfl rfl ?_
  refine s_sipush (v := 4096) C dX9_init_237 (by decide) ?_
  refine s_sipush (v := 512) C dX9_init_240 (by decide) ?_
  refine s_invV_u C ci12 cy_X9_reset (Or.inl wd_6_111) rfl wd_6_113 wp_30 (con_X9_reset l G a0 4096 512) rfl rfl (Nat.le_of_ble_eq_true rfl) (by rw [hF]; decide) (by rw [hO]; exact Nat.le_of_ble_eq_true rfl) dX9_init_243 ?_
  exact s_vret C hr rfl dX9_init_246

theorem dX9_thrown_0 : decode cX9_thrown 0 = .ok (.aload_n 0, 1) := by decide +kernel
theorem dX9_thrown_1 : decode cX9_thrown 1 = .ok (.getfield 93, 3) := by decide +kernel
theorem dX9_thrown_4 : decode cX9_thrown 4 = .ok (.ireturn, 1) := by decide +kernel
def X9_thrown (a0 : Nat) : M Int32 := bd (gI 12 0 a0) (fun x1 => pu x1)
section
variable {G : Gx} {p : Program} {l : Launch} {e : Env} {R : Room} {s : State} {m : MethodId} {args : Array Value} {below : List Frame} {meth : Method} {c : Code} {h0 : Hp} {r : Int32} {h' : Hp}
end
set_option maxRecDepth 20000 in
theorem con_X9_thrown (l : Launch) (G : Gx) (a0 : Nat) : Con G rvI l yX9_thrown cX9_thrown 1 (some .int) 0 0 [.ref a0] (X9_thrown a0) := by
  refine con_of (lv := [(0, .ref a0)]) (by decide) (Nat.le_of_ble_eq_true rfl) rfl (fun p e R s m args below meth c h0 r h' C hF hO hr hm => ?_)
  refine s_aload_n C 0 dX9_thrown_0 rfl rfl ?_
  refine s_gI C ci12 0 (by decide) (Or.inl wd_6_115) dX9_thrown_1 (fun x1 => ?_)
  exact s_iret C hr rfl dX9_thrown_4

theorem dX9_format_0 : decode cX9_format 0 = .ok (.aload_n 0, 1) := by decide +kernel
theorem dX9_format_1 : decode cX9_format 1 = .ok (.iload_n 1, 1) := by decide +kernel
theorem dX9_format_2 : decode cX9_format 2 = .ok (.sipush 128, 3) := by decide +kernel
theorem dX9_format_5 : decode cX9_format 5 = .ok (.if_icmp .lt 24, 3) := by decide +kernel
theorem dX9_format_8 : decode cX9_format 8 = .ok (.iload_n 1, 1) := by decide +kernel
theorem dX9_format_9 : decode cX9_format 9 = .ok (.sipush 16384, 3) := by decide +kernel
theorem dX9_format_12 : decode cX9_format 12 = .ok (.if_icmp .gt 17, 3) := by decide +kernel
theorem dX9_format_15 : decode cX9_format 15 = .ok (.iload_n 2, 1) := by decide +kernel
theorem dX9_format_16 : decode cX9_format 16 = .ok (.sipush 128, 3) := by decide +kernel
theorem dX9_format_19 : decode cX9_format 19 = .ok (.if_icmp .lt 10, 3) := by decide +kernel
theorem dX9_format_22 : decode cX9_format 22 = .ok (.iload_n 2, 1) := by decide +kernel
theorem dX9_format_23 : decode cX9_format 23 = .ok (.sipush 4096, 3) := by decide +kernel
theorem dX9_format_26 : decode cX9_format 26 = .ok (.if_icmp .le 7, 3) := by decide +kernel
theorem dX9_format_29 : decode cX9_format 29 = .ok (.iconst 1, 1) := by decide +kernel
theorem dX9_format_30 : decode cX9_format 30 = .ok (.goto 4, 3) := by decide +kernel
theorem dX9_format_33 : decode cX9_format 33 = .ok (.iconst 0, 1) := by decide +kernel
theorem dX9_format_34 : decode cX9_format 34 = .ok (.putfield 93, 3) := by decide +kernel
theorem dX9_format_37 : decode cX9_format 37 = .ok (.aload_n 0, 1) := by decide +kernel
theorem dX9_format_38 : decode cX9_format 38 = .ok (.getfield 93, 3) := by decide +kernel
theorem dX9_format_41 : decode cX9_format 41 = .ok (.ifCond .ne 9, 3) := by decide +kernel
theorem dX9_format_44 : decode cX9_format 44 = .ok (.aload_n 0, 1) := by decide +kernel
theorem dX9_format_45 : decode cX9_format 45 = .ok (.iload_n 1, 1) := by decide +kernel
theorem dX9_format_46 : decode cX9_format 46 = .ok (.iload_n 2, 1) := by decide +kernel
theorem dX9_format_47 : decode cX9_format 47 = .ok (.invokevirtual 89, 3) := by decide +kernel
theorem dX9_format_50 : decode cX9_format 50 = .ok (.return_, 1) := by decide +kernel
def X9_format_b34   (a0 : Nat) (i1 : Int32) (i2 : Int32) (s0 : Int32) (s1 : Nat) : M Unit := bd (pV 12 0 s1 (.int s0)) (fun _ => bd (gI 12 0 a0) (fun x1 => it (¬ x1 = 0) (pu ()) (bd (ck 12 a0) (fun _ => bd (X9_reset a0 i1 i2) (fun _ => pu ())))))
def X9_format_b29   (a0 : Nat) (i1 : Int32) (i2 : Int32) (s0 : Nat) : M Unit := X9_format_b34   a0 i1 i2 1 s0
def X9_format (a0 : Nat) (i1 : Int32) (i2 : Int32) : M Unit := it (i1 < 128) (X9_format_b29   a0 i1 i2 a0) (it (16384 < i1) (X9_format_b29   a0 i1 i2 a0) (it (i2 < 128) (X9_format_b29   a0 i1 i2 a0) (it (i2 ≤ 4096) (X9_format_b34   a0 i1 i2 0 a0) (X9_format_b29   a0 i1 i2 a0))))
section
variable {G : Gx} {p : Program} {l : Launch} {e : Env} {R : Room} {s : State} {m : MethodId} {args : Array Value} {below : List Frame} {meth : Method} {c : Code} {h0 : Hp} {r : Unit} {h' : Hp}
set_option maxRecDepth 20000 in
theorem X9_format_b34_s (C : Cx G p R s m args meth c cX9_format 3 yX9_format.cls h0 h') (hF : R.frames = 1) (hO : R.locals = 22) (hr : meth.sig.returnType = none) (hm : meth.name = yX9_format.name)   (a0 : Nat) (i1 : Int32) (i2 : Int32) (s0 : Int32) (s1 : Nat) : Sm G (QM G rvU below args s h0 r h') p l e R s m args below meth c 3 h0 r h' 34 [(0, .ref a0), (1, .int i1), (2, .int i2)] [.int s0, .ref s1] (X9_format_b34   a0 i1 i2 s0 s1) := by
  refine s_pV C ci12 0 (by decide) rfl (Or.inl wd_6_115) dX9_format_34 rfl rfl ?_
  refine s_aload_n C 0 dX9_format_37 rfl rfl ?_
  refine s_gI C ci12 0 (by decide) (Or.inl wd_6_115) dX9_format_38 (fun x1 => ?_)
  refine s_if_ne (tgt := 50) C dX9_format_41 (by decide) ?_ ?_
  · exact s_vret C hr rfl dX9_format_50
  refine s_aload_n C 0 dX9_format_44 rfl rfl ?_
  refine s_iload_n C 1 dX9_format_45 rfl rfl ?_
  refine s_iload_n C 2 dX9_format_46 rfl rfl ?_
  refine s_invV_u C ci12 cy_X9_reset (Or.inl wd_6_111) rfl wd_6_113 wp_30 (con_X9_reset l G a0 i1 i2) rfl rfl (Nat.le_of_ble_eq_true rfl) (by rw [hF]; decide) (by rw [hO]; exact Nat.le_of_ble_eq_true rfl) dX9_format_47 ?_
  exact s_vret C hr rfl dX9_format_50
set_option maxRecDepth 20000 in
theorem X9_format_b29_s (C : Cx G p R s m args meth c cX9_format 3 yX9_format.cls h0 h') (hF : R.frames = 1) (hO : R.locals = 22) (hr : meth.sig.returnType = none) (hm : meth.name = yX9_format.name)   (a0 : Nat) (i1 : Int32) (i2 : Int32) (s0 : Nat) : Sm G (QM G rvU below args s h0 r h') p l e R s m args below meth c 3 h0 r h' 29 [(0, .ref a0), (1, .int i1), (2, .int i2)] [.ref s0] (X9_format_b29   a0 i1 i2 s0) := by
  refine s_iconst (v := 1) C dX9_format_29 (by decide) ?_
  refine s_goto (tgt := 34) C dX9_format_30 (by decide) ?_
  exact X9_format_b34_s C hF hO hr hm   a0 i1 i2 1 s0
end
set_option maxRecDepth 20000 in
theorem con_X9_format (l : Launch) (G : Gx) (a0 : Nat) (i1 : Int32) (i2 : Int32) : Con G rvU l yX9_format cX9_format 3 none 1 22 [.ref a0, .int i1, .int i2] (X9_format a0 i1 i2) := by
  refine con_of (lv := [(0, .ref a0), (1, .int i1), (2, .int i2)]) (by decide) (Nat.le_of_ble_eq_true rfl) rfl (fun p e R s m args below meth c h0 r h' C hF hO hr hm => ?_)
  refine s_aload_n C 0 dX9_format_0 rfl rfl ?_
  refine s_iload_n C 1 dX9_format_1 rfl rfl ?_
  refine s_sipush (v := 128) C dX9_format_2 (by decide) ?_
  refine s_icmp_lt (tgt := 29) C dX9_format_5 (by decide) ?_ ?_
  · exact X9_format_b29_s C hF hO hr hm   a0 i1 i2 a0
  refine s_iload_n C 1 dX9_format_8 rfl rfl ?_
  refine s_sipush (v := 16384) C dX9_format_9 (by decide) ?_
  refine s_icmp_gt (tgt := 29) C dX9_format_12 (by decide) ?_ ?_
  · exact X9_format_b29_s C hF hO hr hm   a0 i1 i2 a0
  refine s_iload_n C 2 dX9_format_15 rfl rfl ?_
  refine s_sipush (v := 128) C dX9_format_16 (by decide) ?_
  refine s_icmp_lt (tgt := 29) C dX9_format_19 (by decide) ?_ ?_
  · exact X9_format_b29_s C hF hO hr hm   a0 i1 i2 a0
  refine s_iload_n C 2 dX9_format_22 rfl rfl ?_
  refine s_sipush (v := 4096) C dX9_format_23 (by decide) ?_
  refine s_icmp_le (tgt := 33) C dX9_format_26 (by decide) ?_ ?_
  · refine s_iconst (v := 0) C dX9_format_33 (by decide) ?_
    exact X9_format_b34_s C hF hO hr hm   a0 i1 i2 0 a0
  exact X9_format_b29_s C hF hO hr hm   a0 i1 i2 a0

theorem dX9_fileAt_0 : decode cX9_fileAt 0 = .ok (.iconst 0, 1) := by decide +kernel
theorem dX9_fileAt_1 : decode cX9_fileAt 1 = .ok (.istore_n 3, 1) := by decide +kernel
theorem dX9_fileAt_2 : decode cX9_fileAt 2 = .ok (.iload_n 3, 1) := by decide +kernel
theorem dX9_fileAt_3 : decode cX9_fileAt 3 = .ok (.aload_n 0, 1) := by decide +kernel
theorem dX9_fileAt_4 : decode cX9_fileAt 4 = .ok (.getfield 106, 3) := by decide +kernel
theorem dX9_fileAt_7 : decode cX9_fileAt 7 = .ok (.if_icmp .ge 31, 3) := by decide +kernel
theorem dX9_fileAt_10 : decode cX9_fileAt 10 = .ok (.aload_n 0, 1) := by decide +kernel
theorem dX9_fileAt_11 : decode cX9_fileAt 11 = .ok (.getfield 13, 3) := by decide +kernel
theorem dX9_fileAt_14 : decode cX9_fileAt 14 = .ok (.iload_n 3, 1) := by decide +kernel
theorem dX9_fileAt_15 : decode cX9_fileAt 15 = .ok (.iaload, 1) := by decide +kernel
theorem dX9_fileAt_16 : decode cX9_fileAt 16 = .ok (.iload_n 1, 1) := by decide +kernel
theorem dX9_fileAt_17 : decode cX9_fileAt 17 = .ok (.if_icmp .ne 15, 3) := by decide +kernel
theorem dX9_fileAt_20 : decode cX9_fileAt 20 = .ok (.aload_n 0, 1) := by decide +kernel
theorem dX9_fileAt_21 : decode cX9_fileAt 21 = .ok (.getfield 17, 3) := by decide +kernel
theorem dX9_fileAt_24 : decode cX9_fileAt 24 = .ok (.iload_n 3, 1) := by decide +kernel
theorem dX9_fileAt_25 : decode cX9_fileAt 25 = .ok (.iaload, 1) := by decide +kernel
theorem dX9_fileAt_26 : decode cX9_fileAt 26 = .ok (.iload_n 2, 1) := by decide +kernel
theorem dX9_fileAt_27 : decode cX9_fileAt 27 = .ok (.if_icmp .ne 5, 3) := by decide +kernel
theorem dX9_fileAt_30 : decode cX9_fileAt 30 = .ok (.iload_n 3, 1) := by decide +kernel
theorem dX9_fileAt_31 : decode cX9_fileAt 31 = .ok (.ireturn, 1) := by decide +kernel
theorem dX9_fileAt_32 : decode cX9_fileAt 32 = .ok (.iinc 3 1, 3) := by decide +kernel
theorem dX9_fileAt_35 : decode cX9_fileAt 35 = .ok (.goto (-33), 3) := by decide +kernel
theorem dX9_fileAt_38 : decode cX9_fileAt 38 = .ok (.iconst (-1), 1) := by decide +kernel
theorem dX9_fileAt_39 : decode cX9_fileAt 39 = .ok (.ireturn, 1) := by decide +kernel
def X9_fileAt_b32 (k2 : Nat → Int32 → Int32 → Int32 → M Int32)  (a0 : Nat) (i1 : Int32) (i2 : Int32) (i3 : Int32) : M Int32 := k2 a0 i1 i2 (i3 + 1)
def X9_fileAt_b2b  (k2 : Nat → Int32 → Int32 → Int32 → M Int32) (a0 : Nat) (i1 : Int32) (i2 : Int32) (i3 : Int32) : M Int32 := bd (gI 12 8 a0) (fun x1 => it (x1 ≤ i3) (pu (-1)) (bd (gR 12 5 a0) (fun y2 => bd (al 22 y2 i3) (fun x3 => it (¬ x3 = i1) (X9_fileAt_b32 k2  a0 i1 i2 i3) (bd (gR 12 6 a0) (fun y4 => bd (al 22 y4 i3) (fun x5 => it (¬ x5 = i2) (X9_fileAt_b32 k2  a0 i1 i2 i3) (pu i3))))))))
def X9_fileAt_b2  : Nat → Nat → Int32 → Int32 → Int32 → M Int32
  | 0 => fun _ _ _ _ => fl
  | n + 1 => fun a0 i1 i2 i3 => X9_fileAt_b2b  (X9_fileAt_b2  n) a0 i1 i2 i3
def X9_fileAt (a0 : Nat) (i1 : Int32) (i2 : Int32) : M Int32 := X9_fileAt_b2  FU a0 i1 i2 0
section
variable {G : Gx} {p : Program} {l : Launch} {e : Env} {R : Room} {s : State} {m : MethodId} {args : Array Value} {below : List Frame} {meth : Method} {c : Code} {h0 : Hp} {r : Int32} {h' : Hp}
set_option maxRecDepth 20000 in
theorem X9_fileAt_b32_s (C : Cx G p R s m args meth c cX9_fileAt 4 yX9_fileAt.cls h0 h') (hF : R.frames = 0) (hO : R.locals = 0) (hr : meth.sig.returnType = (some .int)) (hm : meth.name = yX9_fileAt.name) {k2 : Nat → Int32 → Int32 → Int32 → M Int32} (hk2 : ∀ (a0 : Nat) (i1 : Int32) (i2 : Int32) (i3 : Int32), Sm G (QM G rvI below args s h0 r h') p l e R s m args below meth c 4 h0 r h' 2 [(0, .ref a0), (1, .int i1), (2, .int i2), (3, .int i3)] [] (k2 a0 i1 i2 i3))  (a0 : Nat) (i1 : Int32) (i2 : Int32) (i3 : Int32) : Sm G (QM G rvI below args s h0 r h') p l e R s m args below meth c 4 h0 r h' 32 [(0, .ref a0), (1, .int i1), (2, .int i2), (3, .int i3)] [] (X9_fileAt_b32 k2  a0 i1 i2 i3) := by
  refine s_iincK (lv' := [(3, .int (i3 + 1)), (0, .ref a0), (1, .int i1), (2, .int i2)]) (w := 1) C 3 dX9_fileAt_32 rfl (by decide) (by decide) rfl ?_
  refine s_goto (tgt := 2) C dX9_fileAt_35 (by decide) ?_
  refine s_sub [1, 2, 3, 0] rfl ?_
  exact hk2 a0 i1 i2 (i3 + 1)
set_option maxRecDepth 20000 in
theorem X9_fileAt_b2b_s (C : Cx G p R s m args meth c cX9_fileAt 4 yX9_fileAt.cls h0 h') (hF : R.frames = 0) (hO : R.locals = 0) (hr : meth.sig.returnType = (some .int)) (hm : meth.name = yX9_fileAt.name)  {k2 : Nat → Int32 → Int32 → Int32 → M Int32} (hk2 : ∀ (a0 : Nat) (i1 : Int32) (i2 : Int32) (i3 : Int32), Sm G (QM G rvI below args s h0 r h') p l e R s m args below meth c 4 h0 r h' 2 [(0, .ref a0), (1, .int i1), (2, .int i2), (3, .int i3)] [] (k2 a0 i1 i2 i3)) (a0 : Nat) (i1 : Int32) (i2 : Int32) (i3 : Int32) : Sm G (QM G rvI below args s h0 r h') p l e R s m args below meth c 4 h0 r h' 2 [(0, .ref a0), (1, .int i1), (2, .int i2), (3, .int i3)] [] (X9_fileAt_b2b  k2 a0 i1 i2 i3) := by
  refine s_iload_n C 3 dX9_fileAt_2 rfl rfl ?_
  refine s_aload_n C 0 dX9_fileAt_3 rfl rfl ?_
  refine s_gI C ci12 8 (by decide) (Or.inl wd_6_123) dX9_fileAt_4 (fun x1 => ?_)
  refine s_icmp_ge (tgt := 38) C dX9_fileAt_7 (by decide) ?_ ?_
  · refine s_iconst (v := (-1)) C dX9_fileAt_38 (by decide) ?_
    exact s_iret C hr rfl dX9_fileAt_39
  refine s_aload_n C 0 dX9_fileAt_10 rfl rfl ?_
  refine s_gR C ci12 5 (by decide) (Or.inl wd_6_120) dX9_fileAt_11 (fun y2 => ?_)
  refine s_iload_n C 3 dX9_fileAt_14 rfl rfl ?_
  refine s_al22 C dX9_fileAt_15 (fun x3 => ?_)
  refine s_iload_n C 1 dX9_fileAt_16 rfl rfl ?_
  refine s_icmp_ne (tgt := 32) C dX9_fileAt_17 (by decide) ?_ ?_
  · exact X9_fileAt_b32_s C hF hO hr hm hk2  a0 i1 i2 i3
  refine s_aload_n C 0 dX9_fileAt_20 rfl rfl ?_
  refine s_gR C ci12 6 (by decide) (Or.inl wd_6_121) dX9_fileAt_21 (fun y4 => ?_)
  refine s_iload_n C 3 dX9_fileAt_24 rfl rfl ?_
  refine s_al22 C dX9_fileAt_25 (fun x5 => ?_)
  refine s_iload_n C 2 dX9_fileAt_26 rfl rfl ?_
  refine s_icmp_ne (tgt := 32) C dX9_fileAt_27 (by decide) ?_ ?_
  · exact X9_fileAt_b32_s C hF hO hr hm hk2  a0 i1 i2 i3
  refine s_iload_n C 3 dX9_fileAt_30 rfl rfl ?_
  exact s_iret C hr rfl dX9_fileAt_31
set_option maxRecDepth 20000 in
theorem X9_fileAt_b2_s (C : Cx G p R s m args meth c cX9_fileAt 4 yX9_fileAt.cls h0 h') (hF : R.frames = 0) (hO : R.locals = 0) (hr : meth.sig.returnType = (some .int)) (hm : meth.name = yX9_fileAt.name)  (n : Nat) : ∀ (a0 : Nat) (i1 : Int32) (i2 : Int32) (i3 : Int32), Sm G (QM G rvI below args s h0 r h') p l e R s m args below meth c 4 h0 r h' 2 [(0, .ref a0), (1, .int i1), (2, .int i2), (3, .int i3)] [] (X9_fileAt_b2  n a0 i1 i2 i3) := by
  induction n with
  | zero => intro a0 i1 i2 i3; exact s_fl
  | succ n ih => intro a0 i1 i2 i3; exact X9_fileAt_b2b_s C hF hO hr hm  ih a0 i1 i2 i3
end
set_option maxRecDepth 20000 in
theorem con_X9_fileAt (l : Launch) (G : Gx) (a0 : Nat) (i1 : Int32) (i2 : Int32) : Con G rvI l yX9_fileAt cX9_fileAt 4 (some .int) 0 0 [.ref a0, .int i1, .int i2] (X9_fileAt a0 i1 i2) := by
  refine con_of (lv := [(0, .ref a0), (1, .int i1), (2, .int i2)]) (by decide) (Nat.le_of_ble_eq_true rfl) rfl (fun p e R s m args below meth c h0 r h' C hF hO hr hm => ?_)
  refine s_iconst (v := 0) C dX9_fileAt_0 (by decide) ?_
  refine s_istore_n (lv' := [(3, .int 0), (0, .ref a0), (1, .int i1), (2, .int i2)]) C dX9_fileAt_1 rfl (by decide) rfl ?_
  refine s_sub [1, 2, 3, 0] rfl ?_
  exact X9_fileAt_b2_s C hF hO hr hm  FU a0 i1 i2 0

theorem dX9_startOf_0 : decode cX9_startOf 0 = .ok (.iconst 0, 1) := by decide +kernel
theorem dX9_startOf_1 : decode cX9_startOf 1 = .ok (.istore_n 2, 1) := by decide +kernel
theorem dX9_startOf_2 : decode cX9_startOf 2 = .ok (.iconst 0, 1) := by decide +kernel
theorem dX9_startOf_3 : decode cX9_startOf 3 = .ok (.istore_n 3, 1) := by decide +kernel
theorem dX9_startOf_4 : decode cX9_startOf 4 = .ok (.iload_n 3, 1) := by decide +kernel
theorem dX9_startOf_5 : decode cX9_startOf 5 = .ok (.iload_n 1, 1) := by decide +kernel
theorem dX9_startOf_6 : decode cX9_startOf 6 = .ok (.if_icmp .ge 18, 3) := by decide +kernel
theorem dX9_startOf_9 : decode cX9_startOf 9 = .ok (.iload_n 2, 1) := by decide +kernel
theorem dX9_startOf_10 : decode cX9_startOf 10 = .ok (.aload_n 0, 1) := by decide +kernel
theorem dX9_startOf_11 : decode cX9_startOf 11 = .ok (.getfield 20, 3) := by decide +kernel
theorem dX9_startOf_14 : decode cX9_startOf 14 = .ok (.iload_n 3, 1) := by decide +kernel
theorem dX9_startOf_15 : decode cX9_startOf 15 = .ok (.iaload, 1) := by decide +kernel
theorem dX9_startOf_16 : decode cX9_startOf 16 = .ok (.iadd, 1) := by decide +kernel
theorem dX9_startOf_17 : decode cX9_startOf 17 = .ok (.istore_n 2, 1) := by decide +kernel
theorem dX9_startOf_18 : decode cX9_startOf 18 = .ok (.iinc 3 1, 3) := by decide +kernel
theorem dX9_startOf_21 : decode cX9_startOf 21 = .ok (.goto (-17), 3) := by decide +kernel
theorem dX9_startOf_24 : decode cX9_startOf 24 = .ok (.iload_n 2, 1) := by decide +kernel
theorem dX9_startOf_25 : decode cX9_startOf 25 = .ok (.ireturn, 1) := by decide +kernel
def X9_startOf_b4b  (k4 : Nat → Int32 → Int32 → Int32 → M Int32) (a0 : Nat) (i1 : Int32) (i2 : Int32) (i3 : Int32) : M Int32 := it (i1 ≤ i3) (pu i2) (bd (gR 12 7 a0) (fun y1 => bd (al 22 y1 i3) (fun x2 => bd (pu (i2 + x2)) (fun x3 => k4 a0 i1 x3 (i3 + 1)))))
def X9_startOf_b4  : Nat → Nat → Int32 → Int32 → Int32 → M Int32
  | 0 => fun _ _ _ _ => fl
  | n + 1 => fun a0 i1 i2 i3 => X9_startOf_b4b  (X9_startOf_b4  n) a0 i1 i2 i3
def X9_startOf (a0 : Nat) (i1 : Int32) : M Int32 := X9_startOf_b4  FU a0 i1 0 0
section
variable {G : Gx} {p : Program} {l : Launch} {e : Env} {R : Room} {s : State} {m : MethodId} {args : Array Value} {below : List Frame} {meth : Method} {c : Code} {h0 : Hp} {r : Int32} {h' : Hp}
set_option maxRecDepth 20000 in
theorem X9_startOf_b4b_s (C : Cx G p R s m args meth c cX9_startOf 4 yX9_startOf.cls h0 h') (hF : R.frames = 0) (hO : R.locals = 0) (hr : meth.sig.returnType = (some .int)) (hm : meth.name = yX9_startOf.name)  {k4 : Nat → Int32 → Int32 → Int32 → M Int32} (hk4 : ∀ (a0 : Nat) (i1 : Int32) (i2 : Int32) (i3 : Int32), Sm G (QM G rvI below args s h0 r h') p l e R s m args below meth c 4 h0 r h' 4 [(0, .ref a0), (1, .int i1), (2, .int i2), (3, .int i3)] [] (k4 a0 i1 i2 i3)) (a0 : Nat) (i1 : Int32) (i2 : Int32) (i3 : Int32) : Sm G (QM G rvI below args s h0 r h') p l e R s m args below meth c 4 h0 r h' 4 [(0, .ref a0), (1, .int i1), (2, .int i2), (3, .int i3)] [] (X9_startOf_b4b  k4 a0 i1 i2 i3) := by
  refine s_iload_n C 3 dX9_startOf_4 rfl rfl ?_
  refine s_iload_n C 1 dX9_startOf_5 rfl rfl ?_
  refine s_icmp_ge (tgt := 24) C dX9_startOf_6 (by decide) ?_ ?_
  · refine s_iload_n C 2 dX9_startOf_24 rfl rfl ?_
    exact s_iret C hr rfl dX9_startOf_25
  refine s_iload_n C 2 dX9_startOf_9 rfl rfl ?_
  refine s_aload_n C 0 dX9_startOf_10 rfl rfl ?_
  refine s_gR C ci12 7 (by decide) (Or.inl wd_6_122) dX9_startOf_11 (fun y1 => ?_)
  refine s_iload_n C 3 dX9_startOf_14 rfl rfl ?_
  refine s_al22 C dX9_startOf_15 (fun x2 => ?_)
  refine s_iadd C dX9_startOf_16 ?_
  refine s_let (fun x3 => ?_)
  refine s_istore_n (lv' := [(2, .int x3), (0, .ref a0), (1, .int i1), (3, .int i3)]) C dX9_startOf_17 rfl (by decide) rfl ?_
  refine s_iincK (lv' := [(3, .int (i3 + 1)), (2, .int x3), (0, .ref a0), (1, .int i1)]) (w := 1) C 3 dX9_startOf_18 rfl (by decide) (by decide) rfl ?_
  refine s_goto (tgt := 4) C dX9_startOf_21 (by decide) ?_
  refine s_sub [2, 3, 1, 0] rfl ?_
  exact hk4 a0 i1 x3 (i3 + 1)
set_option maxRecDepth 20000 in
theorem X9_startOf_b4_s (C : Cx G p R s m args meth c cX9_startOf 4 yX9_startOf.cls h0 h') (hF : R.frames = 0) (hO : R.locals = 0) (hr : meth.sig.returnType = (some .int)) (hm : meth.name = yX9_startOf.name)  (n : Nat) : ∀ (a0 : Nat) (i1 : Int32) (i2 : Int32) (i3 : Int32), Sm G (QM G rvI below args s h0 r h') p l e R s m args below meth c 4 h0 r h' 4 [(0, .ref a0), (1, .int i1), (2, .int i2), (3, .int i3)] [] (X9_startOf_b4  n a0 i1 i2 i3) := by
  induction n with
  | zero => intro a0 i1 i2 i3; exact s_fl
  | succ n ih => intro a0 i1 i2 i3; exact X9_startOf_b4b_s C hF hO hr hm  ih a0 i1 i2 i3
end
set_option maxRecDepth 20000 in
theorem con_X9_startOf (l : Launch) (G : Gx) (a0 : Nat) (i1 : Int32) : Con G rvI l yX9_startOf cX9_startOf 4 (some .int) 0 0 [.ref a0, .int i1] (X9_startOf a0 i1) := by
  refine con_of (lv := [(0, .ref a0), (1, .int i1)]) (by decide) (Nat.le_of_ble_eq_true rfl) rfl (fun p e R s m args below meth c h0 r h' C hF hO hr hm => ?_)
  refine s_iconst (v := 0) C dX9_startOf_0 (by decide) ?_
  refine s_istore_n (lv' := [(2, .int 0), (0, .ref a0), (1, .int i1)]) C dX9_startOf_1 rfl (by decide) rfl ?_
  refine s_iconst (v := 0) C dX9_startOf_2 (by decide) ?_
  refine s_istore_n (lv' := [(3, .int 0), (2, .int 0), (0, .ref a0), (1, .int i1)]) C dX9_startOf_3 rfl (by decide) rfl ?_
  refine s_sub [2, 3, 1, 0] rfl ?_
  exact X9_startOf_b4_s C hF hO hr hm  FU a0 i1 0 0

theorem dX9_sizeOf_0 : decode cX9_sizeOf 0 = .ok (.aload_n 0, 1) := by decide +kernel
theorem dX9_sizeOf_1 : decode cX9_sizeOf 1 = .ok (.iload_n 1, 1) := by decide +kernel
theorem dX9_sizeOf_2 : decode cX9_sizeOf 2 = .ok (.iload_n 2, 1) := by decide +kernel
theorem dX9_sizeOf_3 : decode cX9_sizeOf 3 = .ok (.invokevirtual 149, 3) := by decide +kernel
theorem dX9_sizeOf_6 : decode cX9_sizeOf 6 = .ok (.istore_n 3, 1) := by decide +kernel
theorem dX9_sizeOf_7 : decode cX9_sizeOf 7 = .ok (.iload_n 3, 1) := by decide +kernel
theorem dX9_sizeOf_8 : decode cX9_sizeOf 8 = .ok (.ifCond .ge 7, 3) := by decide +kernel
theorem dX9_sizeOf_11 : decode cX9_sizeOf 11 = .ok (.iconst 0, 1) := by decide +kernel
theorem dX9_sizeOf_12 : decode cX9_sizeOf 12 = .ok (.goto 9, 3) := by decide +kernel
theorem dX9_sizeOf_15 : decode cX9_sizeOf 15 = .ok (.aload_n 0, 1) := by decide +kernel
theorem dX9_sizeOf_16 : decode cX9_sizeOf 16 = .ok (.getfield 20, 3) := by decide +kernel
theorem dX9_sizeOf_19 : decode cX9_sizeOf 19 = .ok (.iload_n 3, 1) := by decide +kernel
theorem dX9_sizeOf_20 : decode cX9_sizeOf 20 = .ok (.iaload, 1) := by decide +kernel
theorem dX9_sizeOf_21 : decode cX9_sizeOf 21 = .ok (.ireturn, 1) := by decide +kernel
def X9_sizeOf (a0 : Nat) (i1 : Int32) (i2 : Int32) : M Int32 := bd (ck 12 a0) (fun _ => bd (X9_fileAt a0 i1 i2) (fun x1 => it (0 ≤ x1) (bd (gR 12 7 a0) (fun y2 => bd (al 22 y2 x1) (fun x3 => pu x3))) (pu 0)))
section
variable {G : Gx} {p : Program} {l : Launch} {e : Env} {R : Room} {s : State} {m : MethodId} {args : Array Value} {below : List Frame} {meth : Method} {c : Code} {h0 : Hp} {r : Int32} {h' : Hp}
end
set_option maxRecDepth 20000 in
theorem con_X9_sizeOf (l : Launch) (G : Gx) (a0 : Nat) (i1 : Int32) (i2 : Int32) : Con G rvI l yX9_sizeOf cX9_sizeOf 4 (some .int) 1 23 [.ref a0, .int i1, .int i2] (X9_sizeOf a0 i1 i2) := by
  refine con_of (lv := [(0, .ref a0), (1, .int i1), (2, .int i2)]) (by decide) (Nat.le_of_ble_eq_true rfl) rfl (fun p e R s m args below meth c h0 r h' C hF hO hr hm => ?_)
  refine s_aload_n C 0 dX9_sizeOf_0 rfl rfl ?_
  refine s_iload_n C 1 dX9_sizeOf_1 rfl rfl ?_
  refine s_iload_n C 2 dX9_sizeOf_2 rfl rfl ?_
  refine s_invV_i C ci12 cy_X9_fileAt (Or.inl wd_7_80) rfl wd_7_82 wp_36 (con_X9_fileAt l G a0 i1 i2) rfl rfl (Nat.le_of_ble_eq_true rfl) (by rw [hF]; decide) (by rw [hO]; exact Nat.le_of_ble_eq_true rfl) dX9_sizeOf_3 (fun x1 => ?_)
  refine s_istore_n (lv' := [(3, .int x1), (0, .ref a0), (1, .int i1), (2, .int i2)]) C dX9_sizeOf_6 rfl (by decide) rfl ?_
  refine s_iload_n C 0 dX9_sizeOf_7 rfl rfl ?_
  refine s_if_ge (tgt := 15) C dX9_sizeOf_8 (by decide) ?_ ?_
  · refine s_aload_n C 1 dX9_sizeOf_15 rfl rfl ?_
    refine s_gR C ci12 7 (by decide) (Or.inl wd_6_122) dX9_sizeOf_16 (fun y2 => ?_)
    refine s_iload_n C 0 dX9_sizeOf_19 rfl rfl ?_
    refine s_al22 C dX9_sizeOf_20 (fun x3 => ?_)
    exact s_iret C hr rfl dX9_sizeOf_21
  refine s_iconst (v := 0) C dX9_sizeOf_11 (by decide) ?_
  refine s_goto (tgt := 21) C dX9_sizeOf_12 (by decide) ?_
  exact s_iret C hr rfl dX9_sizeOf_21

theorem dX9_room_0 : decode cX9_room 0 = .ok (.aload_n 0, 1) := by decide +kernel
theorem dX9_room_1 : decode cX9_room 1 = .ok (.getfield 97, 3) := by decide +kernel
theorem dX9_room_4 : decode cX9_room 4 = .ok (.aload_n 0, 1) := by decide +kernel
theorem dX9_room_5 : decode cX9_room 5 = .ok (.getfield 103, 3) := by decide +kernel
theorem dX9_room_8 : decode cX9_room 8 = .ok (.isub, 1) := by decide +kernel
theorem dX9_room_9 : decode cX9_room 9 = .ok (.ireturn, 1) := by decide +kernel
def X9_room (a0 : Nat) : M Int32 := bd (gI 12 1 a0) (fun x1 => bd (gI 12 4 a0) (fun x2 => pu (x1 - x2)))
section
variable {G : Gx} {p : Program} {l : Launch} {e : Env} {R : Room} {s : State} {m : MethodId} {args : Array Value} {below : List Frame} {meth : Method} {c : Code} {h0 : Hp} {r : Int32} {h' : Hp}
end
set_option maxRecDepth 20000 in
theorem con_X9_room (l : Launch) (G : Gx) (a0 : Nat) : Con G rvI l yX9_room cX9_room 1 (some .int) 0 0 [.ref a0] (X9_room a0) := by
  refine con_of (lv := [(0, .ref a0)]) (by decide) (Nat.le_of_ble_eq_true rfl) rfl (fun p e R s m args below meth c h0 r h' C hF hO hr hm => ?_)
  refine s_aload_n C 0 dX9_room_0 rfl rfl ?_
  refine s_gI C ci12 1 (by decide) (Or.inl wd_6_116) dX9_room_1 (fun x1 => ?_)
  refine s_aload_n C 0 dX9_room_4 rfl rfl ?_
  refine s_gI C ci12 4 (by decide) (Or.inl wd_6_119) dX9_room_5 (fun x2 => ?_)
  refine s_isub C dX9_room_8 ?_
  exact s_iret C hr rfl dX9_room_9

theorem dX9_comes_0 : decode cX9_comes 0 = .ok (.iconst 0, 1) := by decide +kernel
theorem dX9_comes_1 : decode cX9_comes 1 = .ok (.istore_n 3, 1) := by decide +kernel
theorem dX9_comes_2 : decode cX9_comes 2 = .ok (.iload_n 3, 1) := by decide +kernel
theorem dX9_comes_3 : decode cX9_comes 3 = .ok (.aload_n 0, 1) := by decide +kernel
theorem dX9_comes_4 : decode cX9_comes 4 = .ok (.getfield 106, 3) := by decide +kernel
theorem dX9_comes_7 : decode cX9_comes 7 = .ok (.if_icmp .ge 39, 3) := by decide +kernel
theorem dX9_comes_10 : decode cX9_comes 10 = .ok (.aload_n 0, 1) := by decide +kernel
theorem dX9_comes_11 : decode cX9_comes 11 = .ok (.getfield 13, 3) := by decide +kernel
theorem dX9_comes_14 : decode cX9_comes 14 = .ok (.iload_n 3, 1) := by decide +kernel
theorem dX9_comes_15 : decode cX9_comes 15 = .ok (.iaload, 1) := by decide +kernel
theorem dX9_comes_16 : decode cX9_comes 16 = .ok (.iload_n 1, 1) := by decide +kernel
theorem dX9_comes_17 : decode cX9_comes 17 = .ok (.if_icmp .lt 23, 3) := by decide +kernel
theorem dX9_comes_20 : decode cX9_comes 20 = .ok (.aload_n 0, 1) := by decide +kernel
theorem dX9_comes_21 : decode cX9_comes 21 = .ok (.getfield 13, 3) := by decide +kernel
theorem dX9_comes_24 : decode cX9_comes 24 = .ok (.iload_n 3, 1) := by decide +kernel
theorem dX9_comes_25 : decode cX9_comes 25 = .ok (.iaload, 1) := by decide +kernel
theorem dX9_comes_26 : decode cX9_comes 26 = .ok (.iload_n 1, 1) := by decide +kernel
theorem dX9_comes_27 : decode cX9_comes 27 = .ok (.if_icmp .ne 19, 3) := by decide +kernel
theorem dX9_comes_30 : decode cX9_comes 30 = .ok (.aload_n 0, 1) := by decide +kernel
theorem dX9_comes_31 : decode cX9_comes 31 = .ok (.getfield 17, 3) := by decide +kernel
theorem dX9_comes_34 : decode cX9_comes 34 = .ok (.iload_n 3, 1) := by decide +kernel
theorem dX9_comes_35 : decode cX9_comes 35 = .ok (.iaload, 1) := by decide +kernel
theorem dX9_comes_36 : decode cX9_comes 36 = .ok (.iload_n 2, 1) := by decide +kernel
theorem dX9_comes_37 : decode cX9_comes 37 = .ok (.if_icmp .ge 9, 3) := by decide +kernel
theorem dX9_comes_40 : decode cX9_comes 40 = .ok (.iinc 3 1, 3) := by decide +kernel
theorem dX9_comes_43 : decode cX9_comes 43 = .ok (.goto (-41), 3) := by decide +kernel
theorem dX9_comes_46 : decode cX9_comes 46 = .ok (.iload_n 3, 1) := by decide +kernel
theorem dX9_comes_47 : decode cX9_comes 47 = .ok (.aload_n 0, 1) := by decide +kernel
theorem dX9_comes_48 : decode cX9_comes 48 = .ok (.getfield 106, 3) := by decide +kernel
theorem dX9_comes_51 : decode cX9_comes 51 = .ok (.if_icmp .eq 23, 3) := by decide +kernel
theorem dX9_comes_54 : decode cX9_comes 54 = .ok (.aload_n 0, 1) := by decide +kernel
theorem dX9_comes_55 : decode cX9_comes 55 = .ok (.getfield 13, 3) := by decide +kernel
theorem dX9_comes_58 : decode cX9_comes 58 = .ok (.iload_n 3, 1) := by decide +kernel
theorem dX9_comes_59 : decode cX9_comes 59 = .ok (.iaload, 1) := by decide +kernel
theorem dX9_comes_60 : decode cX9_comes 60 = .ok (.iload_n 1, 1) := by decide +kernel
theorem dX9_comes_61 : decode cX9_comes 61 = .ok (.if_icmp .ne 13, 3) := by decide +kernel
theorem dX9_comes_64 : decode cX9_comes 64 = .ok (.aload_n 0, 1) := by decide +kernel
theorem dX9_comes_65 : decode cX9_comes 65 = .ok (.getfield 17, 3) := by decide +kernel
theorem dX9_comes_68 : decode cX9_comes 68 = .ok (.iload_n 3, 1) := by decide +kernel
theorem dX9_comes_69 : decode cX9_comes 69 = .ok (.iaload, 1) := by decide +kernel
theorem dX9_comes_70 : decode cX9_comes 70 = .ok (.iload_n 2, 1) := by decide +kernel
theorem dX9_comes_71 : decode cX9_comes 71 = .ok (.if_icmp .eq 100, 3) := by decide +kernel
theorem dX9_comes_74 : decode cX9_comes 74 = .ok (.aload_n 0, 1) := by decide +kernel
theorem dX9_comes_75 : decode cX9_comes 75 = .ok (.getfield 106, 3) := by decide +kernel
theorem dX9_comes_78 : decode cX9_comes 78 = .ok (.istore 4, 2) := by decide +kernel
theorem dX9_comes_80 : decode cX9_comes 80 = .ok (.iload 4, 2) := by decide +kernel
theorem dX9_comes_82 : decode cX9_comes 82 = .ok (.iload_n 3, 1) := by decide +kernel
theorem dX9_comes_83 : decode cX9_comes 83 = .ok (.if_icmp .le 57, 3) := by decide +kernel
theorem dX9_comes_86 : decode cX9_comes 86 = .ok (.aload_n 0, 1) := by decide +kernel
theorem dX9_comes_87 : decode cX9_comes 87 = .ok (.getfield 13, 3) := by decide +kernel
theorem dX9_comes_90 : decode cX9_comes 90 = .ok (.iload 4, 2) := by decide +kernel
theorem dX9_comes_92 : decode cX9_comes 92 = .ok (.aload_n 0, 1) := by decide +kernel
theorem dX9_comes_93 : decode cX9_comes 93 = .ok (.getfield 13, 3) := by decide +kernel
theorem dX9_comes_96 : decode cX9_comes 96 = .ok (.iload 4, 2) := by decide +kernel
theorem dX9_comes_98 : decode cX9_comes 98 = .ok (.iconst 1, 1) := by decide +kernel
theorem dX9_comes_99 : decode cX9_comes 99 = .ok (.isub, 1) := by decide +kernel
theorem dX9_comes_100 : decode cX9_comes 100 = .ok (.iaload, 1) := by decide +kernel
theorem dX9_comes_101 : decode cX9_comes 101 = .ok (.iastore, 1) := by decide +kernel
theorem dX9_comes_102 : decode cX9_comes 102 = .ok (.aload_n 0, 1) := by decide +kernel
theorem dX9_comes_103 : decode cX9_comes 103 = .ok (.getfield 17, 3) := by decide +kernel
theorem dX9_comes_106 : decode cX9_comes 106 = .ok (.iload 4, 2) := by decide +kernel
theorem dX9_comes_108 : decode cX9_comes 108 = .ok (.aload_n 0, 1) := by decide +kernel
theorem dX9_comes_109 : decode cX9_comes 109 = .ok (.getfield 17, 3) := by decide +kernel
theorem dX9_comes_112 : decode cX9_comes 112 = .ok (.iload 4, 2) := by decide +kernel
theorem dX9_comes_114 : decode cX9_comes 114 = .ok (.iconst 1, 1) := by decide +kernel
theorem dX9_comes_115 : decode cX9_comes 115 = .ok (.isub, 1) := by decide +kernel
theorem dX9_comes_116 : decode cX9_comes 116 = .ok (.iaload, 1) := by decide +kernel
theorem dX9_comes_117 : decode cX9_comes 117 = .ok (.iastore, 1) := by decide +kernel
theorem dX9_comes_118 : decode cX9_comes 118 = .ok (.aload_n 0, 1) := by decide +kernel
theorem dX9_comes_119 : decode cX9_comes 119 = .ok (.getfield 20, 3) := by decide +kernel
theorem dX9_comes_122 : decode cX9_comes 122 = .ok (.iload 4, 2) := by decide +kernel
theorem dX9_comes_124 : decode cX9_comes 124 = .ok (.aload_n 0, 1) := by decide +kernel
theorem dX9_comes_125 : decode cX9_comes 125 = .ok (.getfield 20, 3) := by decide +kernel
theorem dX9_comes_128 : decode cX9_comes 128 = .ok (.iload 4, 2) := by decide +kernel
theorem dX9_comes_130 : decode cX9_comes 130 = .ok (.iconst 1, 1) := by decide +kernel
theorem dX9_comes_131 : decode cX9_comes 131 = .ok (.isub, 1) := by decide +kernel
theorem dX9_comes_132 : decode cX9_comes 132 = .ok (.iaload, 1) := by decide +kernel
theorem dX9_comes_133 : decode cX9_comes 133 = .ok (.iastore, 1) := by decide +kernel
theorem dX9_comes_134 : decode cX9_comes 134 = .ok (.iinc 4 (-1), 3) := by decide +kernel
theorem dX9_comes_137 : decode cX9_comes 137 = .ok (.goto (-57), 3) := by decide +kernel
theorem dX9_comes_140 : decode cX9_comes 140 = .ok (.aload_n 0, 1) := by decide +kernel
theorem dX9_comes_141 : decode cX9_comes 141 = .ok (.getfield 13, 3) := by decide +kernel
theorem dX9_comes_144 : decode cX9_comes 144 = .ok (.iload_n 3, 1) := by decide +kernel
theorem dX9_comes_145 : decode cX9_comes 145 = .ok (.iload_n 1, 1) := by decide +kernel
theorem dX9_comes_146 : decode cX9_comes 146 = .ok (.iastore, 1) := by decide +kernel
theorem dX9_comes_147 : decode cX9_comes 147 = .ok (.aload_n 0, 1) := by decide +kernel
theorem dX9_comes_148 : decode cX9_comes 148 = .ok (.getfield 17, 3) := by decide +kernel
theorem dX9_comes_151 : decode cX9_comes 151 = .ok (.iload_n 3, 1) := by decide +kernel
theorem dX9_comes_152 : decode cX9_comes 152 = .ok (.iload_n 2, 1) := by decide +kernel
theorem dX9_comes_153 : decode cX9_comes 153 = .ok (.iastore, 1) := by decide +kernel
theorem dX9_comes_154 : decode cX9_comes 154 = .ok (.aload_n 0, 1) := by decide +kernel
theorem dX9_comes_155 : decode cX9_comes 155 = .ok (.getfield 20, 3) := by decide +kernel
theorem dX9_comes_158 : decode cX9_comes 158 = .ok (.iload_n 3, 1) := by decide +kernel
theorem dX9_comes_159 : decode cX9_comes 159 = .ok (.iconst 0, 1) := by decide +kernel
theorem dX9_comes_160 : decode cX9_comes 160 = .ok (.iastore, 1) := by decide +kernel
theorem dX9_comes_161 : decode cX9_comes 161 = .ok (.aload_n 0, 1) := by decide +kernel
theorem dX9_comes_162 : decode cX9_comes 162 = .ok (.dup, 1) := by decide +kernel
theorem dX9_comes_163 : decode cX9_comes 163 = .ok (.getfield 106, 3) := by decide +kernel
theorem dX9_comes_166 : decode cX9_comes 166 = .ok (.iconst 1, 1) := by decide +kernel
theorem dX9_comes_167 : decode cX9_comes 167 = .ok (.iadd, 1) := by decide +kernel
theorem dX9_comes_168 : decode cX9_comes 168 = .ok (.putfield 106, 3) := by decide +kernel
theorem dX9_comes_171 : decode cX9_comes 171 = .ok (.aload_n 0, 1) := by decide +kernel
theorem dX9_comes_172 : decode cX9_comes 172 = .ok (.iload_n 3, 1) := by decide +kernel
theorem dX9_comes_173 : decode cX9_comes 173 = .ok (.invokevirtual 153, 3) := by decide +kernel
theorem dX9_comes_176 : decode cX9_comes 176 = .ok (.aload_n 0, 1) := by decide +kernel
theorem dX9_comes_177 : decode cX9_comes 177 = .ok (.getfield 20, 3) := by decide +kernel
theorem dX9_comes_180 : decode cX9_comes 180 = .ok (.iload_n 3, 1) := by decide +kernel
theorem dX9_comes_181 : decode cX9_comes 181 = .ok (.iaload, 1) := by decide +kernel
theorem dX9_comes_182 : decode cX9_comes 182 = .ok (.iadd, 1) := by decide +kernel
theorem dX9_comes_183 : decode cX9_comes 183 = .ok (.istore 4, 2) := by decide +kernel
theorem dX9_comes_185 : decode cX9_comes 185 = .ok (.aload_n 0, 1) := by decide +kernel
theorem dX9_comes_186 : decode cX9_comes 186 = .ok (.getfield 103, 3) := by decide +kernel
theorem dX9_comes_189 : decode cX9_comes 189 = .ok (.iconst 1, 1) := by decide +kernel
theorem dX9_comes_190 : decode cX9_comes 190 = .ok (.isub, 1) := by decide +kernel
theorem dX9_comes_191 : decode cX9_comes 191 = .ok (.istore 5, 2) := by decide +kernel
theorem dX9_comes_193 : decode cX9_comes 193 = .ok (.iload 5, 2) := by decide +kernel
theorem dX9_comes_195 : decode cX9_comes 195 = .ok (.iload 4, 2) := by decide +kernel
theorem dX9_comes_197 : decode cX9_comes 197 = .ok (.if_icmp .lt 28, 3) := by decide +kernel
theorem dX9_comes_200 : decode cX9_comes 200 = .ok (.aload_n 0, 1) := by decide +kernel
theorem dX9_comes_201 : decode cX9_comes 201 = .ok (.getfield 9, 3) := by decide +kernel
theorem dX9_comes_204 : decode cX9_comes 204 = .ok (.iload 5, 2) := by decide +kernel
theorem dX9_comes_206 : decode cX9_comes 206 = .ok (.aload_n 0, 1) := by decide +kernel
theorem dX9_comes_207 : decode cX9_comes 207 = .ok (.getfield 157, 3) := by decide +kernel
theorem dX9_comes_210 : decode cX9_comes 210 = .ok (.iadd, 1) := by decide +kernel
theorem dX9_comes_211 : decode cX9_comes 211 = .ok (.aload_n 0, 1) := by decide +kernel
theorem dX9_comes_212 : decode cX9_comes 212 = .ok (.getfield 9, 3) := by decide +kernel
theorem dX9_comes_215 : decode cX9_comes 215 = .ok (.iload 5, 2) := by decide +kernel
theorem dX9_comes_217 : decode cX9_comes 217 = .ok (.baload, 1) := by decide +kernel
theorem dX9_comes_218 : decode cX9_comes 218 = .ok (.bastore, 1) := by decide +kernel
theorem dX9_comes_219 : decode cX9_comes 219 = .ok (.iinc 5 (-1), 3) := by decide +kernel
theorem dX9_comes_222 : decode cX9_comes 222 = .ok (.goto (-29), 3) := by decide +kernel
theorem dX9_comes_225 : decode cX9_comes 225 = .ok (.iconst 0, 1) := by decide +kernel
theorem dX9_comes_226 : decode cX9_comes 226 = .ok (.istore 5, 2) := by decide +kernel
theorem dX9_comes_228 : decode cX9_comes 228 = .ok (.iload 5, 2) := by decide +kernel
theorem dX9_comes_230 : decode cX9_comes 230 = .ok (.aload_n 0, 1) := by decide +kernel
theorem dX9_comes_231 : decode cX9_comes 231 = .ok (.getfield 157, 3) := by decide +kernel
theorem dX9_comes_234 : decode cX9_comes 234 = .ok (.if_icmp .ge 26, 3) := by decide +kernel
theorem dX9_comes_237 : decode cX9_comes 237 = .ok (.aload_n 0, 1) := by decide +kernel
theorem dX9_comes_238 : decode cX9_comes 238 = .ok (.getfield 9, 3) := by decide +kernel
theorem dX9_comes_241 : decode cX9_comes 241 = .ok (.iload 4, 2) := by decide +kernel
theorem dX9_comes_243 : decode cX9_comes 243 = .ok (.iload 5, 2) := by decide +kernel
theorem dX9_comes_245 : decode cX9_comes 245 = .ok (.iadd, 1) := by decide +kernel
theorem dX9_comes_246 : decode cX9_comes 246 = .ok (.aload_n 0, 1) := by decide +kernel
theorem dX9_comes_247 : decode cX9_comes 247 = .ok (.getfield 32, 3) := by decide +kernel
theorem dX9_comes_250 : decode cX9_comes 250 = .ok (.iload 5, 2) := by decide +kernel
theorem dX9_comes_252 : decode cX9_comes 252 = .ok (.baload, 1) := by decide +kernel
theorem dX9_comes_253 : decode cX9_comes 253 = .ok (.bastore, 1) := by decide +kernel
theorem dX9_comes_254 : decode cX9_comes 254 = .ok (.iinc 5 1, 3) := by decide +kernel
theorem dX9_comes_257 : decode cX9_comes 257 = .ok (.goto (-29), 3) := by decide +kernel
theorem dX9_comes_260 : decode cX9_comes 260 = .ok (.aload_n 0, 1) := by decide +kernel
theorem dX9_comes_261 : decode cX9_comes 261 = .ok (.dup, 1) := by decide +kernel
theorem dX9_comes_262 : decode cX9_comes 262 = .ok (.getfield 103, 3) := by decide +kernel
theorem dX9_comes_265 : decode cX9_comes 265 = .ok (.aload_n 0, 1) := by decide +kernel
theorem dX9_comes_266 : decode cX9_comes 266 = .ok (.getfield 157, 3) := by decide +kernel
theorem dX9_comes_269 : decode cX9_comes 269 = .ok (.iadd, 1) := by decide +kernel
theorem dX9_comes_270 : decode cX9_comes 270 = .ok (.putfield 103, 3) := by decide +kernel
theorem dX9_comes_273 : decode cX9_comes 273 = .ok (.aload_n 0, 1) := by decide +kernel
theorem dX9_comes_274 : decode cX9_comes 274 = .ok (.getfield 20, 3) := by decide +kernel
theorem dX9_comes_277 : decode cX9_comes 277 = .ok (.iload_n 3, 1) := by decide +kernel
theorem dX9_comes_278 : decode cX9_comes 278 = .ok (.dup2, 1) := by decide +kernel
theorem dX9_comes_279 : decode cX9_comes 279 = .ok (.iaload, 1) := by decide +kernel
theorem dX9_comes_280 : decode cX9_comes 280 = .ok (.aload_n 0, 1) := by decide +kernel
theorem dX9_comes_281 : decode cX9_comes 281 = .ok (.getfield 157, 3) := by decide +kernel
theorem dX9_comes_284 : decode cX9_comes 284 = .ok (.iadd, 1) := by decide +kernel
theorem dX9_comes_285 : decode cX9_comes 285 = .ok (.iastore, 1) := by decide +kernel
theorem dX9_comes_286 : decode cX9_comes 286 = .ok (.aload_n 0, 1) := by decide +kernel
theorem dX9_comes_287 : decode cX9_comes 287 = .ok (.getfield 23, 3) := by decide +kernel
theorem dX9_comes_290 : decode cX9_comes 290 = .ok (.aload_n 0, 1) := by decide +kernel
theorem dX9_comes_291 : decode cX9_comes 291 = .ok (.getfield 109, 3) := by decide +kernel
theorem dX9_comes_294 : decode cX9_comes 294 = .ok (.iload_n 1, 1) := by decide +kernel
theorem dX9_comes_295 : decode cX9_comes 295 = .ok (.iastore, 1) := by decide +kernel
theorem dX9_comes_296 : decode cX9_comes 296 = .ok (.aload_n 0, 1) := by decide +kernel
theorem dX9_comes_297 : decode cX9_comes 297 = .ok (.getfield 26, 3) := by decide +kernel
theorem dX9_comes_300 : decode cX9_comes 300 = .ok (.aload_n 0, 1) := by decide +kernel
theorem dX9_comes_301 : decode cX9_comes 301 = .ok (.getfield 109, 3) := by decide +kernel
theorem dX9_comes_304 : decode cX9_comes 304 = .ok (.iload_n 2, 1) := by decide +kernel
theorem dX9_comes_305 : decode cX9_comes 305 = .ok (.iastore, 1) := by decide +kernel
theorem dX9_comes_306 : decode cX9_comes 306 = .ok (.aload_n 0, 1) := by decide +kernel
theorem dX9_comes_307 : decode cX9_comes 307 = .ok (.getfield 29, 3) := by decide +kernel
theorem dX9_comes_310 : decode cX9_comes 310 = .ok (.aload_n 0, 1) := by decide +kernel
theorem dX9_comes_311 : decode cX9_comes 311 = .ok (.getfield 109, 3) := by decide +kernel
theorem dX9_comes_314 : decode cX9_comes 314 = .ok (.aload_n 0, 1) := by decide +kernel
theorem dX9_comes_315 : decode cX9_comes 315 = .ok (.getfield 157, 3) := by decide +kernel
theorem dX9_comes_318 : decode cX9_comes 318 = .ok (.iastore, 1) := by decide +kernel
theorem dX9_comes_319 : decode cX9_comes 319 = .ok (.aload_n 0, 1) := by decide +kernel
theorem dX9_comes_320 : decode cX9_comes 320 = .ok (.dup, 1) := by decide +kernel
theorem dX9_comes_321 : decode cX9_comes 321 = .ok (.getfield 109, 3) := by decide +kernel
theorem dX9_comes_324 : decode cX9_comes 324 = .ok (.iconst 1, 1) := by decide +kernel
theorem dX9_comes_325 : decode cX9_comes 325 = .ok (.iadd, 1) := by decide +kernel
theorem dX9_comes_326 : decode cX9_comes 326 = .ok (.putfield 109, 3) := by decide +kernel
theorem dX9_comes_329 : decode cX9_comes 329 = .ok (.aload_n 0, 1) := by decide +kernel
theorem dX9_comes_330 : decode cX9_comes 330 = .ok (.iconst 0, 1) := by decide +kernel
theorem dX9_comes_331 : decode cX9_comes 331 = .ok (.putfield 157, 3) := by decide +kernel
theorem dX9_comes_334 : decode cX9_comes 334 = .ok (.return_, 1) := by decide +kernel
def X9_comes_b228b  (k228 : Nat → Int32 → Int32 → Int32 → Int32 → Int32 → M Unit) (a0 : Nat) (i1 : Int32) (i2 : Int32) (i3 : Int32) (i4 : Int32) (i5 : Int32) : M Unit := bd (gI 12 14 a0) (fun x1 => it (x1 ≤ i5) (bd (gI 12 4 a0) (fun x2 => bd (gI 12 14 a0) (fun x3 => bd (pV 12 4 a0 (.int (x2 + x3))) (fun _ => bd (gR 12 7 a0) (fun y4 => bd (al 22 y4 i3) (fun x5 => bd (gI 12 14 a0) (fun x6 => bd (as 22 y4 i3 (x5 + x6)) (fun _ => bd (gR 12 9 a0) (fun y7 => bd (gI 12 12 a0) (fun x8 => bd (as 22 y7 x8 i1) (fun _ => bd (gR 12 10 a0) (fun y9 => bd (gI 12 12 a0) (fun x10 => bd (as 22 y9 x10 i2) (fun _ => bd (gR 12 11 a0) (fun y11 => bd (gI 12 12 a0) (fun x12 => bd (gI 12 14 a0) (fun x13 => bd (as 22 y11 x12 x13) (fun _ => bd (gI 12 12 a0) (fun x14 => bd (pV 12 12 a0 (.int (x14 + 1))) (fun _ => bd (pV 12 14 a0 (.int 0)) (fun _ => pu ()))))))))))))))))))))) (bd (gR 12 3 a0) (fun y15 => bd (gR 12 13 a0) (fun y16 => bd (al 21 y16 i5) (fun x17 => bd (as 21 y15 (i4 + i5) x17) (fun _ => k228 a0 i1 i2 i3 i4 (i5 + 1)))))))
def X9_comes_b228  : Nat → Nat → Int32 → Int32 → Int32 → Int32 → Int32 → M Unit
  | 0 => fun _ _ _ _ _ _ => fl
  | n + 1 => fun a0 i1 i2 i3 i4 i5 => X9_comes_b228b  (X9_comes_b228  n) a0 i1 i2 i3 i4 i5
def X9_comes_b193b  (k193 : Nat → Int32 → Int32 → Int32 → Int32 → Int32 → M Unit) (a0 : Nat) (i1 : Int32) (i2 : Int32) (i3 : Int32) (i4 : Int32) (i5 : Int32) : M Unit := it (i5 < i4) (X9_comes_b228  FU a0 i1 i2 i3 i4 0) (bd (gR 12 3 a0) (fun y1 => bd (gI 12 14 a0) (fun x2 => bd (gR 12 3 a0) (fun y3 => bd (al 21 y3 i5) (fun x4 => bd (as 21 y1 (i5 + x2) x4) (fun _ => k193 a0 i1 i2 i3 i4 (i5 + (-1))))))))
def X9_comes_b193  : Nat → Nat → Int32 → Int32 → Int32 → Int32 → Int32 → M Unit
  | 0 => fun _ _ _ _ _ _ => fl
  | n + 1 => fun a0 i1 i2 i3 i4 i5 => X9_comes_b193b  (X9_comes_b193  n) a0 i1 i2 i3 i4 i5
def X9_comes_b171   (a0 : Nat) (i1 : Int32) (i2 : Int32) (i3 : Int32) : M Unit := bd (ck 12 a0) (fun _ => bd (X9_startOf a0 i3) (fun x1 => bd (gR 12 7 a0) (fun y2 => bd (al 22 y2 i3) (fun x3 => bd (pu (x1 + x3)) (fun x4 => bd (gI 12 4 a0) (fun x5 => bd (pu (x5 - 1)) (fun x6 => X9_comes_b193  FU a0 i1 i2 i3 x4 x6)))))))
def X9_comes_b80b  (k80 : Nat → Int32 → Int32 → Int32 → Int32 → M Unit) (a0 : Nat) (i1 : Int32) (i2 : Int32) (i3 : Int32) (i4 : Int32) : M Unit := it (i4 ≤ i3) (bd (gR 12 5 a0) (fun y1 => bd (as 22 y1 i3 i1) (fun _ => bd (gR 12 6 a0) (fun y2 => bd (as 22 y2 i3 i2) (fun _ => bd (gR 12 7 a0) (fun y3 => bd (as 22 y3 i3 0) (fun _ => bd (gI 12 8 a0) (fun x4 => bd (pV 12 8 a0 (.int (x4 + 1))) (fun _ => X9_comes_b171   a0 i1 i2 i3))))))))) (bd (gR 12 5 a0) (fun y5 => bd (gR 12 5 a0) (fun y6 => bd (al 22 y6 (i4 - 1)) (fun x7 => bd (as 22 y5 i4 x7) (fun _ => bd (gR 12 6 a0) (fun y8 => bd (gR 12 6 a0) (fun y9 => bd (al 22 y9 (i4 - 1)) (fun x10 => bd (as 22 y8 i4 x10) (fun _ => bd (gR 12 7 a0) (fun y11 => bd (gR 12 7 a0) (fun y12 => bd (al 22 y12 (i4 - 1)) (fun x13 => bd (as 22 y11 i4 x13) (fun _ => k80 a0 i1 i2 i3 (i4 + (-1)))))))))))))))
def X9_comes_b80  : Nat → Nat → Int32 → Int32 → Int32 → Int32 → M Unit
  | 0 => fun _ _ _ _ _ => fl
  | n + 1 => fun a0 i1 i2 i3 i4 => X9_comes_b80b  (X9_comes_b80  n) a0 i1 i2 i3 i4
def X9_comes_b74   (a0 : Nat) (i1 : Int32) (i2 : Int32) (i3 : Int32) : M Unit := bd (gI 12 8 a0) (fun x1 => X9_comes_b80  FU a0 i1 i2 i3 x1)
def X9_comes_b46   (a0 : Nat) (i1 : Int32) (i2 : Int32) (i3 : Int32) : M Unit := bd (gI 12 8 a0) (fun x1 => it (i3 = x1) (X9_comes_b74   a0 i1 i2 i3) (bd (gR 12 5 a0) (fun y2 => bd (al 22 y2 i3) (fun x3 => it (¬ x3 = i1) (X9_comes_b74   a0 i1 i2 i3) (bd (gR 12 6 a0) (fun y4 => bd (al 22 y4 i3) (fun x5 => it (x5 = i2) (X9_comes_b171   a0 i1 i2 i3) (X9_comes_b74   a0 i1 i2 i3))))))))
def X9_comes_b40 (k2 : Nat → Int32 → Int32 → Int32 → M Unit)  (a0 : Nat) (i1 : Int32) (i2 : Int32) (i3 : Int32) : M Unit := k2 a0 i1 i2 (i3 + 1)
def X9_comes_b2b  (k2 : Nat → Int32 → Int32 → Int32 → M Unit) (a0 : Nat) (i1 : Int32) (i2 : Int32) (i3 : Int32) : M Unit := bd (gI 12 8 a0) (fun x1 => it (x1 ≤ i3) (X9_comes_b46   a0 i1 i2 i3) (bd (gR 12 5 a0) (fun y2 => bd (al 22 y2 i3) (fun x3 => it (x3 < i1) (X9_comes_b40 k2  a0 i1 i2 i3) (bd (gR 12 5 a0) (fun y4 => bd (al 22 y4 i3) (fun x5 => it (¬ x5 = i1) (X9_comes_b46   a0 i1 i2 i3) (bd (gR 12 6 a0) (fun y6 => bd (al 22 y6 i3) (fun x7 => it (i2 ≤ x7) (X9_comes_b46   a0 i1 i2 i3) (X9_comes_b40 k2  a0 i1 i2 i3)))))))))))
def X9_comes_b2  : Nat → Nat → Int32 → Int32 → Int32 → M Unit
  | 0 => fun _ _ _ _ => fl
  | n + 1 => fun a0 i1 i2 i3 => X9_comes_b2b  (X9_comes_b2  n) a0 i1 i2 i3
def X9_comes (a0 : Nat) (i1 : Int32) (i2 : Int32) : M Unit := X9_comes_b2  FU a0 i1 i2 0
section
variable {G : Gx} {p : Program} {l : Launch} {e : Env} {R : Room} {s : State} {m : MethodId} {args : Array Value} {below : List Frame} {meth : Method} {c : Code} {h0 : Hp} {r : Unit} {h' : Hp}
set_option maxRecDepth 20000 in
theorem X9_comes_b228b_s (C : Cx G p R s m args meth c cX9_comes 6 yX9_comes.cls h0 h') (hF : R.frames = 1) (hO : R.locals = 23) (hr : meth.sig.returnType = none) (hm : meth.name = yX9_comes.name)  {k228 : Nat → Int32 → Int32 → Int32 → Int32 → Int32 → M Unit} (hk228 : ∀ (a0 : Nat) (i1 : Int32) (i2 : Int32) (i3 : Int32) (i4 : Int32) (i5 : Int32), Sm G (QM G rvU below args s h0 r h') p l e R s m args below meth c 6 h0 r h' 228 [(0, .ref a0), (1, .int i1), (2, .int i2), (3, .int i3), (4, .int i4), (5, .int i5)] [] (k228 a0 i1 i2 i3 i4 i5)) (a0 : Nat) (i1 : Int32) (i2 : Int32) (i3 : Int32) (i4 : Int32) (i5 : Int32) : Sm G (QM G rvU below args s h0 r h') p l e R s m args below meth c 6 h0 r h' 228 [(0, .ref a0), (1, .int i1), (2, .int i2), (3, .int i3), (4, .int i4), (5, .int i5)] [] (X9_comes_b228b  k228 a0 i1 i2 i3 i4 i5) := by
  refine s_iload C 5 dX9_comes_228 rfl ?_
  refine s_aload_n C 0 dX9_comes_230 rfl rfl ?_
  refine s_gI C ci12 14 (by decide) (Or.inl wd_6_129) dX9_comes_231 (fun x1 => ?_)
  refine s_icmp_ge (tgt := 260) C dX9_comes_234 (by decide) ?_ ?_
  · refine s_aload_n C 0 dX9_comes_260 rfl rfl ?_
    refine s_dup C dX9_comes_261 rfl ?_
    refine s_gI C ci12 4 (by decide) (Or.inl wd_6_119) dX9_comes_262 (fun x2 => ?_)
    refine s_aload_n C 0 dX9_comes_265 rfl rfl ?_
    refine s_gI C ci12 14 (by decide) (Or.inl wd_6_129) dX9_comes_266 (fun x3 => ?_)
    refine s_iadd C dX9_comes_269 ?_
    refine s_pV C ci12 4 (by decide) rfl (Or.inl wd_6_119) dX9_comes_270 rfl rfl ?_
    refine s_aload_n C 0 dX9_comes_273 rfl rfl ?_
    refine s_gR C ci12 7 (by decide) (Or.inl wd_6_122) dX9_comes_274 (fun y4 => ?_)
    refine s_iload_n C 3 dX9_comes_277 rfl rfl ?_
    refine s_dup2 C dX9_comes_278 rfl rfl ?_
    refine s_al22 C dX9_comes_279 (fun x5 => ?_)
    refine s_aload_n C 0 dX9_comes_280 rfl rfl ?_
    refine s_gI C ci12 14 (by decide) (Or.inl wd_6_129) dX9_comes_281 (fun x6 => ?_)
    refine s_iadd C dX9_comes_284 ?_
    refine s_as22 C dX9_comes_285 ?_
    refine s_aload_n C 0 dX9_comes_286 rfl rfl ?_
    refine s_gR C ci12 9 (by decide) (Or.inl wd_6_124) dX9_comes_287 (fun y7 => ?_)
    refine s_aload_n C 0 dX9_comes_290 rfl rfl ?_
    refine s_gI C ci12 12 (by decide) (Or.inl wd_6_127) dX9_comes_291 (fun x8 => ?_)
    refine s_iload_n C 1 dX9_comes_294 rfl rfl ?_
    refine s_as22 C dX9_comes_295 ?_
    refine s_aload_n C 0 dX9_comes_296 rfl rfl ?_
    refine s_gR C ci12 10 (by decide) (Or.inl wd_6_125) dX9_comes_297 (fun y9 => ?_)
    refine s_aload_n C 0 dX9_comes_300 rfl rfl ?_
    refine s_gI C ci12 12 (by decide) (Or.inl wd_6_127) dX9_comes_301 (fun x10 => ?_)
    refine s_iload_n C 2 dX9_comes_304 rfl rfl ?_
    refine s_as22 C dX9_comes_305 ?_
    refine s_aload_n C 0 dX9_comes_306 rfl rfl ?_
    refine s_gR C ci12 11 (by decide) (Or.inl wd_6_126) dX9_comes_307 (fun y11 => ?_)
    refine s_aload_n C 0 dX9_comes_310 rfl rfl ?_
    refine s_gI C ci12 12 (by decide) (Or.inl wd_6_127) dX9_comes_311 (fun x12 => ?_)
    refine s_aload_n C 0 dX9_comes_314 rfl rfl ?_
    refine s_gI C ci12 14 (by decide) (Or.inl wd_6_129) dX9_comes_315 (fun x13 => ?_)
    refine s_as22 C dX9_comes_318 ?_
    refine s_aload_n C 0 dX9_comes_319 rfl rfl ?_
    refine s_dup C dX9_comes_320 rfl ?_
    refine s_gI C ci12 12 (by decide) (Or.inl wd_6_127) dX9_comes_321 (fun x14 => ?_)
    refine s_iconst (v := 1) C dX9_comes_324 (by decide) ?_
    refine s_iadd C dX9_comes_325 ?_
    refine s_pV C ci12 12 (by decide) rfl (Or.inl wd_6_127) dX9_comes_326 rfl rfl ?_
    refine s_aload_n C 0 dX9_comes_329 rfl rfl ?_
    refine s_iconst (v := 0) C dX9_comes_330 (by decide) ?_
    refine s_pV C ci12 14 (by decide) rfl (Or.inl wd_6_129) dX9_comes_331 rfl rfl ?_
    exact s_vret C hr rfl dX9_comes_334
  refine s_aload_n C 0 dX9_comes_237 rfl rfl ?_
  refine s_gR C ci12 3 (by decide) (Or.inl wd_6_118) dX9_comes_238 (fun y15 => ?_)
  refine s_iload C 4 dX9_comes_241 rfl ?_
  refine s_iload C 5 dX9_comes_243 rfl ?_
  refine s_iadd C dX9_comes_245 ?_
  refine s_aload_n C 0 dX9_comes_246 rfl rfl ?_
  refine s_gR C ci12 13 (by decide) (Or.inl wd_6_128) dX9_comes_247 (fun y16 => ?_)
  refine s_iload C 5 dX9_comes_250 rfl ?_
  refine s_al21 C dX9_comes_252 (fun x17 => ?_)
  refine s_as21 C dX9_comes_253 ?_
  refine s_iincK (lv' := [(5, .int (i5 + 1)), (0, .ref a0), (1, .int i1), (2, .int i2), (3, .int i3), (4, .int i4)]) (w := 1) C 5 dX9_comes_254 rfl (by decide) (by decide) rfl ?_
  refine s_goto (tgt := 228) C dX9_comes_257 (by decide) ?_
  refine s_sub [1, 2, 3, 4, 5, 0] rfl ?_
  exact hk228 a0 i1 i2 i3 i4 (i5 + 1)
set_option maxRecDepth 20000 in
theorem X9_comes_b228_s (C : Cx G p R s m args meth c cX9_comes 6 yX9_comes.cls h0 h') (hF : R.frames = 1) (hO : R.locals = 23) (hr : meth.sig.returnType = none) (hm : meth.name = yX9_comes.name)  (n : Nat) : ∀ (a0 : Nat) (i1 : Int32) (i2 : Int32) (i3 : Int32) (i4 : Int32) (i5 : Int32), Sm G (QM G rvU below args s h0 r h') p l e R s m args below meth c 6 h0 r h' 228 [(0, .ref a0), (1, .int i1), (2, .int i2), (3, .int i3), (4, .int i4), (5, .int i5)] [] (X9_comes_b228  n a0 i1 i2 i3 i4 i5) := by
  induction n with
  | zero => intro a0 i1 i2 i3 i4 i5; exact s_fl
  | succ n ih => intro a0 i1 i2 i3 i4 i5; exact X9_comes_b228b_s C hF hO hr hm  ih a0 i1 i2 i3 i4 i5
set_option maxRecDepth 20000 in
theorem X9_comes_b193b_s (C : Cx G p R s m args meth c cX9_comes 6 yX9_comes.cls h0 h') (hF : R.frames = 1) (hO : R.locals = 23) (hr : meth.sig.returnType = none) (hm : meth.name = yX9_comes.name)  {k193 : Nat → Int32 → Int32 → Int32 → Int32 → Int32 → M Unit} (hk193 : ∀ (a0 : Nat) (i1 : Int32) (i2 : Int32) (i3 : Int32) (i4 : Int32) (i5 : Int32), Sm G (QM G rvU below args s h0 r h') p l e R s m args below meth c 6 h0 r h' 193 [(0, .ref a0), (1, .int i1), (2, .int i2), (3, .int i3), (4, .int i4), (5, .int i5)] [] (k193 a0 i1 i2 i3 i4 i5)) (a0 : Nat) (i1 : Int32) (i2 : Int32) (i3 : Int32) (i4 : Int32) (i5 : Int32) : Sm G (QM G rvU below args s h0 r h') p l e R s m args below meth c 6 h0 r h' 193 [(0, .ref a0), (1, .int i1), (2, .int i2), (3, .int i3), (4, .int i4), (5, .int i5)] [] (X9_comes_b193b  k193 a0 i1 i2 i3 i4 i5) := by
  refine s_iload C 5 dX9_comes_193 rfl ?_
  refine s_iload C 4 dX9_comes_195 rfl ?_
  refine s_icmp_lt (tgt := 225) C dX9_comes_197 (by decide) ?_ ?_
  · refine s_iconst (v := 0) C dX9_comes_225 (by decide) ?_
    refine s_istore (lv' := [(5, .int 0), (0, .ref a0), (1, .int i1), (2, .int i2), (3, .int i3), (4, .int i4)]) C dX9_comes_226 (by decide) rfl ?_
    refine s_sub [1, 2, 3, 4, 5, 0] rfl ?_
    exact X9_comes_b228_s C hF hO hr hm  FU a0 i1 i2 i3 i4 0
  refine s_aload_n C 0 dX9_comes_200 rfl rfl ?_
  refine s_gR C ci12 3 (by decide) (Or.inl wd_6_118) dX9_comes_201 (fun y1 => ?_)
  refine s_iload C 5 dX9_comes_204 rfl ?_
  refine s_aload_n C 0 dX9_comes_206 rfl rfl ?_
  refine s_gI C ci12 14 (by decide) (Or.inl wd_6_129) dX9_comes_207 (fun x2 => ?_)
  refine s_iadd C dX9_comes_210 ?_
  refine s_aload_n C 0 dX9_comes_211 rfl rfl ?_
  refine s_gR C ci12 3 (by decide) (Or.inl wd_6_118) dX9_comes_212 (fun y3 => ?_)
  refine s_iload C 5 dX9_comes_215 rfl ?_
  refine s_al21 C dX9_comes_217 (fun x4 => ?_)
  refine s_as21 C dX9_comes_218 ?_
  refine s_iincK (lv' := [(5, .int (i5 + (-1))), (0, .ref a0), (1, .int i1), (2, .int i2), (3, .int i3), (4, .int i4)]) (w := (-1)) C 5 dX9_comes_219 rfl (by decide) (by decide) rfl ?_
  refine s_goto (tgt := 193) C dX9_comes_222 (by decide) ?_
  refine s_sub [1, 2, 3, 4, 5, 0] rfl ?_
  exact hk193 a0 i1 i2 i3 i4 (i5 + (-1))
set_option maxRecDepth 20000 in
theorem X9_comes_b193_s (C : Cx G p R s m args meth c cX9_comes 6 yX9_comes.cls h0 h') (hF : R.frames = 1) (hO : R.locals = 23) (hr : meth.sig.returnType = none) (hm : meth.name = yX9_comes.name)  (n : Nat) : ∀ (a0 : Nat) (i1 : Int32) (i2 : Int32) (i3 : Int32) (i4 : Int32) (i5 : Int32), Sm G (QM G rvU below args s h0 r h') p l e R s m args below meth c 6 h0 r h' 193 [(0, .ref a0), (1, .int i1), (2, .int i2), (3, .int i3), (4, .int i4), (5, .int i5)] [] (X9_comes_b193  n a0 i1 i2 i3 i4 i5) := by
  induction n with
  | zero => intro a0 i1 i2 i3 i4 i5; exact s_fl
  | succ n ih => intro a0 i1 i2 i3 i4 i5; exact X9_comes_b193b_s C hF hO hr hm  ih a0 i1 i2 i3 i4 i5
set_option maxRecDepth 20000 in
theorem X9_comes_b171_s (C : Cx G p R s m args meth c cX9_comes 6 yX9_comes.cls h0 h') (hF : R.frames = 1) (hO : R.locals = 23) (hr : meth.sig.returnType = none) (hm : meth.name = yX9_comes.name)   (a0 : Nat) (i1 : Int32) (i2 : Int32) (i3 : Int32) : Sm G (QM G rvU below args s h0 r h') p l e R s m args below meth c 6 h0 r h' 171 [(0, .ref a0), (1, .int i1), (2, .int i2), (3, .int i3)] [] (X9_comes_b171   a0 i1 i2 i3) := by
  refine s_aload_n C 0 dX9_comes_171 rfl rfl ?_
  refine s_iload_n C 3 dX9_comes_172 rfl rfl ?_
  refine s_invV_i C ci12 cy_X9_startOf (Or.inl wd_7_96) rfl wd_7_98 wp_39 (con_X9_startOf l G a0 i3) rfl rfl (Nat.le_of_ble_eq_true rfl) (by rw [hF]; decide) (by rw [hO]; exact Nat.le_of_ble_eq_true rfl) dX9_comes_173 (fun x1 => ?_)
  refine s_aload_n C 0 dX9_comes_176 rfl rfl ?_
  refine s_gR C ci12 7 (by decide) (Or.inl wd_6_122) dX9_comes_177 (fun y2 => ?_)
  refine s_iload_n C 3 dX9_comes_180 rfl rfl ?_
  refine s_al22 C dX9_comes_181 (fun x3 => ?_)
  refine s_iadd C dX9_comes_182 ?_
  refine s_let (fun x4 => ?_)
  refine s_istore (lv' := [(4, .int x4), (0, .ref a0), (1, .int i1), (2, .int i2), (3, .int i3)]) C dX9_comes_183 (by decide) rfl ?_
  refine s_aload_n C 1 dX9_comes_185 rfl rfl ?_
  refine s_gI C ci12 4 (by decide) (Or.inl wd_6_119) dX9_comes_186 (fun x5 => ?_)
  refine s_iconst (v := 1) C dX9_comes_189 (by decide) ?_
  refine s_isub C dX9_comes_190 ?_
  refine s_let (fun x6 => ?_)
  refine s_istore (lv' := [(5, .int x6), (4, .int x4), (0, .ref a0), (1, .int i1), (2, .int i2), (3, .int i3)]) C dX9_comes_191 (by decide) rfl ?_
  refine s_sub [2, 3, 4, 5, 1, 0] rfl ?_
  exact X9_comes_b193_s C hF hO hr hm  FU a0 i1 i2 i3 x4 x6
set_option maxRecDepth 20000 in
theorem X9_comes_b80b_s (C : Cx G p R s m args meth c cX9_comes 6 yX9_comes.cls h0 h') (hF : R.frames = 1) (hO : R.locals = 23) (hr : meth.sig.returnType = none) (hm : meth.name = yX9_comes.name)  {k80 : Nat → Int32 → Int32 → Int32 → Int32 → M Unit} (hk80 : ∀ (a0 : Nat) (i1 : Int32) (i2 : Int32) (i3 : Int32) (i4 : Int32), Sm G (QM G rvU below args s h0 r h') p l e R s m args below meth c 6 h0 r h' 80 [(0, .ref a0), (1, .int i1), (2, .int i2), (3, .int i3), (4, .int i4)] [] (k80 a0 i1 i2 i3 i4)) (a0 : Nat) (i1 : Int32) (i2 : Int32) (i3 : Int32) (i4 : Int32) : Sm G (QM G rvU below args s h0 r h') p l e R s m args below meth c 6 h0 r h' 80 [(0, .ref a0), (1, .int i1), (2, .int i2), (3, .int i3), (4, .int i4)] [] (X9_comes_b80b  k80 a0 i1 i2 i3 i4) := by
  refine s_iload C 4 dX9_comes_80 rfl ?_
  refine s_iload_n C 3 dX9_comes_82 rfl rfl ?_
  refine s_icmp_le (tgt := 140) C dX9_comes_83 (by decide) ?_ ?_
  · refine s_aload_n C 0 dX9_comes_140 rfl rfl ?_
    refine s_gR C ci12 5 (by decide) (Or.inl wd_6_120) dX9_comes_141 (fun y1 => ?_)
    refine s_iload_n C 3 dX9_comes_144 rfl rfl ?_
    refine s_iload_n C 1 dX9_comes_145 rfl rfl ?_
    refine s_as22 C dX9_comes_146 ?_
    refine s_aload_n C 0 dX9_comes_147 rfl rfl ?_
    refine s_gR C ci12 6 (by decide) (Or.inl wd_6_121) dX9_comes_148 (fun y2 => ?_)
    refine s_iload_n C 3 dX9_comes_151 rfl rfl ?_
    refine s_iload_n C 2 dX9_comes_152 rfl rfl ?_
    refine s_as22 C dX9_comes_153 ?_
    refine s_aload_n C 0 dX9_comes_154 rfl rfl ?_
    refine s_gR C ci12 7 (by decide) (Or.inl wd_6_122) dX9_comes_155 (fun y3 => ?_)
    refine s_iload_n C 3 dX9_comes_158 rfl rfl ?_
    refine s_iconst (v := 0) C dX9_comes_159 (by decide) ?_
    refine s_as22 C dX9_comes_160 ?_
    refine s_aload_n C 0 dX9_comes_161 rfl rfl ?_
    refine s_dup C dX9_comes_162 rfl ?_
    refine s_gI C ci12 8 (by decide) (Or.inl wd_6_123) dX9_comes_163 (fun x4 => ?_)
    refine s_iconst (v := 1) C dX9_comes_166 (by decide) ?_
    refine s_iadd C dX9_comes_167 ?_
    refine s_pV C ci12 8 (by decide) rfl (Or.inl wd_6_123) dX9_comes_168 rfl rfl ?_
    refine s_sub [0, 1, 2, 3] rfl ?_
    exact X9_comes_b171_s C hF hO hr hm   a0 i1 i2 i3
  refine s_aload_n C 0 dX9_comes_86 rfl rfl ?_
  refine s_gR C ci12 5 (by decide) (Or.inl wd_6_120) dX9_comes_87 (fun y5 => ?_)
  refine s_iload C 4 dX9_comes_90 rfl ?_
  refine s_aload_n C 0 dX9_comes_92 rfl rfl ?_
  refine s_gR C ci12 5 (by decide) (Or.inl wd_6_120) dX9_comes_93 (fun y6 => ?_)
  refine s_iload C 4 dX9_comes_96 rfl ?_
  refine s_iconst (v := 1) C dX9_comes_98 (by decide) ?_
  refine s_isub C dX9_comes_99 ?_
  refine s_al22 C dX9_comes_100 (fun x7 => ?_)
  refine s_as22 C dX9_comes_101 ?_
  refine s_aload_n C 0 dX9_comes_102 rfl rfl ?_
  refine s_gR C ci12 6 (by decide) (Or.inl wd_6_121) dX9_comes_103 (fun y8 => ?_)
  refine s_iload C 4 dX9_comes_106 rfl ?_
  refine s_aload_n C 0 dX9_comes_108 rfl rfl ?_
  refine s_gR C ci12 6 (by decide) (Or.inl wd_6_121) dX9_comes_109 (fun y9 => ?_)
  refine s_iload C 4 dX9_comes_112 rfl ?_
  refine s_iconst (v := 1) C dX9_comes_114 (by decide) ?_
  refine s_isub C dX9_comes_115 ?_
  refine s_al22 C dX9_comes_116 (fun x10 => ?_)
  refine s_as22 C dX9_comes_117 ?_
  refine s_aload_n C 0 dX9_comes_118 rfl rfl ?_
  refine s_gR C ci12 7 (by decide) (Or.inl wd_6_122) dX9_comes_119 (fun y11 => ?_)
  refine s_iload C 4 dX9_comes_122 rfl ?_
  refine s_aload_n C 0 dX9_comes_124 rfl rfl ?_
  refine s_gR C ci12 7 (by decide) (Or.inl wd_6_122) dX9_comes_125 (fun y12 => ?_)
  refine s_iload C 4 dX9_comes_128 rfl ?_
  refine s_iconst (v := 1) C dX9_comes_130 (by decide) ?_
  refine s_isub C dX9_comes_131 ?_
  refine s_al22 C dX9_comes_132 (fun x13 => ?_)
  refine s_as22 C dX9_comes_133 ?_
  refine s_iincK (lv' := [(4, .int (i4 + (-1))), (0, .ref a0), (1, .int i1), (2, .int i2), (3, .int i3)]) (w := (-1)) C 4 dX9_comes_134 rfl (by decide) (by decide) rfl ?_
  refine s_goto (tgt := 80) C dX9_comes_137 (by decide) ?_
  refine s_sub [1, 2, 3, 4, 0] rfl ?_
  exact hk80 a0 i1 i2 i3 (i4 + (-1))
set_option maxRecDepth 20000 in
theorem X9_comes_b80_s (C : Cx G p R s m args meth c cX9_comes 6 yX9_comes.cls h0 h') (hF : R.frames = 1) (hO : R.locals = 23) (hr : meth.sig.returnType = none) (hm : meth.name = yX9_comes.name)  (n : Nat) : ∀ (a0 : Nat) (i1 : Int32) (i2 : Int32) (i3 : Int32) (i4 : Int32), Sm G (QM G rvU below args s h0 r h') p l e R s m args below meth c 6 h0 r h' 80 [(0, .ref a0), (1, .int i1), (2, .int i2), (3, .int i3), (4, .int i4)] [] (X9_comes_b80  n a0 i1 i2 i3 i4) := by
  induction n with
  | zero => intro a0 i1 i2 i3 i4; exact s_fl
  | succ n ih => intro a0 i1 i2 i3 i4; exact X9_comes_b80b_s C hF hO hr hm  ih a0 i1 i2 i3 i4
set_option maxRecDepth 20000 in
theorem X9_comes_b74_s (C : Cx G p R s m args meth c cX9_comes 6 yX9_comes.cls h0 h') (hF : R.frames = 1) (hO : R.locals = 23) (hr : meth.sig.returnType = none) (hm : meth.name = yX9_comes.name)   (a0 : Nat) (i1 : Int32) (i2 : Int32) (i3 : Int32) : Sm G (QM G rvU below args s h0 r h') p l e R s m args below meth c 6 h0 r h' 74 [(0, .ref a0), (1, .int i1), (2, .int i2), (3, .int i3)] [] (X9_comes_b74   a0 i1 i2 i3) := by
  refine s_aload_n C 0 dX9_comes_74 rfl rfl ?_
  refine s_gI C ci12 8 (by decide) (Or.inl wd_6_123) dX9_comes_75 (fun x1 => ?_)
  refine s_istore (lv' := [(4, .int x1), (0, .ref a0), (1, .int i1), (2, .int i2), (3, .int i3)]) C dX9_comes_78 (by decide) rfl ?_
  refine s_sub [1, 2, 3, 4, 0] rfl ?_
  exact X9_comes_b80_s C hF hO hr hm  FU a0 i1 i2 i3 x1
set_option maxRecDepth 20000 in
theorem X9_comes_b46_s (C : Cx G p R s m args meth c cX9_comes 6 yX9_comes.cls h0 h') (hF : R.frames = 1) (hO : R.locals = 23) (hr : meth.sig.returnType = none) (hm : meth.name = yX9_comes.name)   (a0 : Nat) (i1 : Int32) (i2 : Int32) (i3 : Int32) : Sm G (QM G rvU below args s h0 r h') p l e R s m args below meth c 6 h0 r h' 46 [(0, .ref a0), (1, .int i1), (2, .int i2), (3, .int i3)] [] (X9_comes_b46   a0 i1 i2 i3) := by
  refine s_iload_n C 3 dX9_comes_46 rfl rfl ?_
  refine s_aload_n C 0 dX9_comes_47 rfl rfl ?_
  refine s_gI C ci12 8 (by decide) (Or.inl wd_6_123) dX9_comes_48 (fun x1 => ?_)
  refine s_icmp_eq (tgt := 74) C dX9_comes_51 (by decide) ?_ ?_
  · exact X9_comes_b74_s C hF hO hr hm   a0 i1 i2 i3
  refine s_aload_n C 0 dX9_comes_54 rfl rfl ?_
  refine s_gR C ci12 5 (by decide) (Or.inl wd_6_120) dX9_comes_55 (fun y2 => ?_)
  refine s_iload_n C 3 dX9_comes_58 rfl rfl ?_
  refine s_al22 C dX9_comes_59 (fun x3 => ?_)
  refine s_iload_n C 1 dX9_comes_60 rfl rfl ?_
  refine s_icmp_ne (tgt := 74) C dX9_comes_61 (by decide) ?_ ?_
  · exact X9_comes_b74_s C hF hO hr hm   a0 i1 i2 i3
  refine s_aload_n C 0 dX9_comes_64 rfl rfl ?_
  refine s_gR C ci12 6 (by decide) (Or.inl wd_6_121) dX9_comes_65 (fun y4 => ?_)
  refine s_iload_n C 3 dX9_comes_68 rfl rfl ?_
  refine s_al22 C dX9_comes_69 (fun x5 => ?_)
  refine s_iload_n C 2 dX9_comes_70 rfl rfl ?_
  refine s_icmp_eq (tgt := 171) C dX9_comes_71 (by decide) ?_ ?_
  · exact X9_comes_b171_s C hF hO hr hm   a0 i1 i2 i3
  exact X9_comes_b74_s C hF hO hr hm   a0 i1 i2 i3
set_option maxRecDepth 20000 in
theorem X9_comes_b40_s (C : Cx G p R s m args meth c cX9_comes 6 yX9_comes.cls h0 h') (hF : R.frames = 1) (hO : R.locals = 23) (hr : meth.sig.returnType = none) (hm : meth.name = yX9_comes.name) {k2 : Nat → Int32 → Int32 → Int32 → M Unit} (hk2 : ∀ (a0 : Nat) (i1 : Int32) (i2 : Int32) (i3 : Int32), Sm G (QM G rvU below args s h0 r h') p l e R s m args below meth c 6 h0 r h' 2 [(0, .ref a0), (1, .int i1), (2, .int i2), (3, .int i3)] [] (k2 a0 i1 i2 i3))  (a0 : Nat) (i1 : Int32) (i2 : Int32) (i3 : Int32) : Sm G (QM G rvU below args s h0 r h') p l e R s m args below meth c 6 h0 r h' 40 [(0, .ref a0), (1, .int i1), (2, .int i2), (3, .int i3)] [] (X9_comes_b40 k2  a0 i1 i2 i3) := by
  refine s_iincK (lv' := [(3, .int (i3 + 1)), (0, .ref a0), (1, .int i1), (2, .int i2)]) (w := 1) C 3 dX9_comes_40 rfl (by decide) (by decide) rfl ?_
  refine s_goto (tgt := 2) C dX9_comes_43 (by decide) ?_
  refine s_sub [1, 2, 3, 0] rfl ?_
  exact hk2 a0 i1 i2 (i3 + 1)
set_option maxRecDepth 20000 in
theorem X9_comes_b2b_s (C : Cx G p R s m args meth c cX9_comes 6 yX9_comes.cls h0 h') (hF : R.frames = 1) (hO : R.locals = 23) (hr : meth.sig.returnType = none) (hm : meth.name = yX9_comes.name)  {k2 : Nat → Int32 → Int32 → Int32 → M Unit} (hk2 : ∀ (a0 : Nat) (i1 : Int32) (i2 : Int32) (i3 : Int32), Sm G (QM G rvU below args s h0 r h') p l e R s m args below meth c 6 h0 r h' 2 [(0, .ref a0), (1, .int i1), (2, .int i2), (3, .int i3)] [] (k2 a0 i1 i2 i3)) (a0 : Nat) (i1 : Int32) (i2 : Int32) (i3 : Int32) : Sm G (QM G rvU below args s h0 r h') p l e R s m args below meth c 6 h0 r h' 2 [(0, .ref a0), (1, .int i1), (2, .int i2), (3, .int i3)] [] (X9_comes_b2b  k2 a0 i1 i2 i3) := by
  refine s_iload_n C 3 dX9_comes_2 rfl rfl ?_
  refine s_aload_n C 0 dX9_comes_3 rfl rfl ?_
  refine s_gI C ci12 8 (by decide) (Or.inl wd_6_123) dX9_comes_4 (fun x1 => ?_)
  refine s_icmp_ge (tgt := 46) C dX9_comes_7 (by decide) ?_ ?_
  · exact X9_comes_b46_s C hF hO hr hm   a0 i1 i2 i3
  refine s_aload_n C 0 dX9_comes_10 rfl rfl ?_
  refine s_gR C ci12 5 (by decide) (Or.inl wd_6_120) dX9_comes_11 (fun y2 => ?_)
  refine s_iload_n C 3 dX9_comes_14 rfl rfl ?_
  refine s_al22 C dX9_comes_15 (fun x3 => ?_)
  refine s_iload_n C 1 dX9_comes_16 rfl rfl ?_
  refine s_icmp_lt (tgt := 40) C dX9_comes_17 (by decide) ?_ ?_
  · exact X9_comes_b40_s C hF hO hr hm hk2  a0 i1 i2 i3
  refine s_aload_n C 0 dX9_comes_20 rfl rfl ?_
  refine s_gR C ci12 5 (by decide) (Or.inl wd_6_120) dX9_comes_21 (fun y4 => ?_)
  refine s_iload_n C 3 dX9_comes_24 rfl rfl ?_
  refine s_al22 C dX9_comes_25 (fun x5 => ?_)
  refine s_iload_n C 1 dX9_comes_26 rfl rfl ?_
  refine s_icmp_ne (tgt := 46) C dX9_comes_27 (by decide) ?_ ?_
  · exact X9_comes_b46_s C hF hO hr hm   a0 i1 i2 i3
  refine s_aload_n C 0 dX9_comes_30 rfl rfl ?_
  refine s_gR C ci12 6 (by decide) (Or.inl wd_6_121) dX9_comes_31 (fun y6 => ?_)
  refine s_iload_n C 3 dX9_comes_34 rfl rfl ?_
  refine s_al22 C dX9_comes_35 (fun x7 => ?_)
  refine s_iload_n C 2 dX9_comes_36 rfl rfl ?_
  refine s_icmp_ge (tgt := 46) C dX9_comes_37 (by decide) ?_ ?_
  · exact X9_comes_b46_s C hF hO hr hm   a0 i1 i2 i3
  exact X9_comes_b40_s C hF hO hr hm hk2  a0 i1 i2 i3
set_option maxRecDepth 20000 in
theorem X9_comes_b2_s (C : Cx G p R s m args meth c cX9_comes 6 yX9_comes.cls h0 h') (hF : R.frames = 1) (hO : R.locals = 23) (hr : meth.sig.returnType = none) (hm : meth.name = yX9_comes.name)  (n : Nat) : ∀ (a0 : Nat) (i1 : Int32) (i2 : Int32) (i3 : Int32), Sm G (QM G rvU below args s h0 r h') p l e R s m args below meth c 6 h0 r h' 2 [(0, .ref a0), (1, .int i1), (2, .int i2), (3, .int i3)] [] (X9_comes_b2  n a0 i1 i2 i3) := by
  induction n with
  | zero => intro a0 i1 i2 i3; exact s_fl
  | succ n ih => intro a0 i1 i2 i3; exact X9_comes_b2b_s C hF hO hr hm  ih a0 i1 i2 i3
end
set_option maxRecDepth 20000 in
theorem con_X9_comes (l : Launch) (G : Gx) (a0 : Nat) (i1 : Int32) (i2 : Int32) : Con G rvU l yX9_comes cX9_comes 6 none 1 23 [.ref a0, .int i1, .int i2] (X9_comes a0 i1 i2) := by
  refine con_of (lv := [(0, .ref a0), (1, .int i1), (2, .int i2)]) (by decide) (Nat.le_of_ble_eq_true rfl) rfl (fun p e R s m args below meth c h0 r h' C hF hO hr hm => ?_)
  refine s_iconst (v := 0) C dX9_comes_0 (by decide) ?_
  refine s_istore_n (lv' := [(3, .int 0), (0, .ref a0), (1, .int i1), (2, .int i2)]) C dX9_comes_1 rfl (by decide) rfl ?_
  refine s_sub [1, 2, 3, 0] rfl ?_
  exact X9_comes_b2_s C hF hO hr hm  FU a0 i1 i2 0

theorem dX9_loses_0 : decode cX9_loses 0 = .ok (.aload_n 0, 1) := by decide +kernel
theorem dX9_loses_1 : decode cX9_loses 1 = .ok (.iload_n 1, 1) := by decide +kernel
theorem dX9_loses_2 : decode cX9_loses 2 = .ok (.invokevirtual 153, 3) := by decide +kernel
theorem dX9_loses_5 : decode cX9_loses 5 = .ok (.aload_n 0, 1) := by decide +kernel
theorem dX9_loses_6 : decode cX9_loses 6 = .ok (.getfield 20, 3) := by decide +kernel
theorem dX9_loses_9 : decode cX9_loses 9 = .ok (.iload_n 1, 1) := by decide +kernel
theorem dX9_loses_10 : decode cX9_loses 10 = .ok (.iaload, 1) := by decide +kernel
theorem dX9_loses_11 : decode cX9_loses 11 = .ok (.iadd, 1) := by decide +kernel
theorem dX9_loses_12 : decode cX9_loses 12 = .ok (.istore_n 3, 1) := by decide +kernel
theorem dX9_loses_13 : decode cX9_loses 13 = .ok (.iload_n 3, 1) := by decide +kernel
theorem dX9_loses_14 : decode cX9_loses 14 = .ok (.istore 4, 2) := by decide +kernel
theorem dX9_loses_16 : decode cX9_loses 16 = .ok (.iload 4, 2) := by decide +kernel
theorem dX9_loses_18 : decode cX9_loses 18 = .ok (.aload_n 0, 1) := by decide +kernel
theorem dX9_loses_19 : decode cX9_loses 19 = .ok (.getfield 103, 3) := by decide +kernel
theorem dX9_loses_22 : decode cX9_loses 22 = .ok (.if_icmp .ge 25, 3) := by decide +kernel
theorem dX9_loses_25 : decode cX9_loses 25 = .ok (.aload_n 0, 1) := by decide +kernel
theorem dX9_loses_26 : decode cX9_loses 26 = .ok (.getfield 9, 3) := by decide +kernel
theorem dX9_loses_29 : decode cX9_loses 29 = .ok (.iload 4, 2) := by decide +kernel
theorem dX9_loses_31 : decode cX9_loses 31 = .ok (.iload_n 2, 1) := by decide +kernel
theorem dX9_loses_32 : decode cX9_loses 32 = .ok (.isub, 1) := by decide +kernel
theorem dX9_loses_33 : decode cX9_loses 33 = .ok (.aload_n 0, 1) := by decide +kernel
theorem dX9_loses_34 : decode cX9_loses 34 = .ok (.getfield 9, 3) := by decide +kernel
theorem dX9_loses_37 : decode cX9_loses 37 = .ok (.iload 4, 2) := by decide +kernel
theorem dX9_loses_39 : decode cX9_loses 39 = .ok (.baload, 1) := by decide +kernel
theorem dX9_loses_40 : decode cX9_loses 40 = .ok (.bastore, 1) := by decide +kernel
theorem dX9_loses_41 : decode cX9_loses 41 = .ok (.iinc 4 1, 3) := by decide +kernel
theorem dX9_loses_44 : decode cX9_loses 44 = .ok (.goto (-28), 3) := by decide +kernel
theorem dX9_loses_47 : decode cX9_loses 47 = .ok (.aload_n 0, 1) := by decide +kernel
theorem dX9_loses_48 : decode cX9_loses 48 = .ok (.dup, 1) := by decide +kernel
theorem dX9_loses_49 : decode cX9_loses 49 = .ok (.getfield 103, 3) := by decide +kernel
theorem dX9_loses_52 : decode cX9_loses 52 = .ok (.iload_n 2, 1) := by decide +kernel
theorem dX9_loses_53 : decode cX9_loses 53 = .ok (.isub, 1) := by decide +kernel
theorem dX9_loses_54 : decode cX9_loses 54 = .ok (.putfield 103, 3) := by decide +kernel
theorem dX9_loses_57 : decode cX9_loses 57 = .ok (.aload_n 0, 1) := by decide +kernel
theorem dX9_loses_58 : decode cX9_loses 58 = .ok (.getfield 20, 3) := by decide +kernel
theorem dX9_loses_61 : decode cX9_loses 61 = .ok (.iload_n 1, 1) := by decide +kernel
theorem dX9_loses_62 : decode cX9_loses 62 = .ok (.dup2, 1) := by decide +kernel
theorem dX9_loses_63 : decode cX9_loses 63 = .ok (.iaload, 1) := by decide +kernel
theorem dX9_loses_64 : decode cX9_loses 64 = .ok (.iload_n 2, 1) := by decide +kernel
theorem dX9_loses_65 : decode cX9_loses 65 = .ok (.isub, 1) := by decide +kernel
theorem dX9_loses_66 : decode cX9_loses 66 = .ok (.iastore, 1) := by decide +kernel
theorem dX9_loses_67 : decode cX9_loses 67 = .ok (.aload_n 0, 1) := by decide +kernel
theorem dX9_loses_68 : decode cX9_loses 68 = .ok (.getfield 20, 3) := by decide +kernel
theorem dX9_loses_71 : decode cX9_loses 71 = .ok (.iload_n 1, 1) := by decide +kernel
theorem dX9_loses_72 : decode cX9_loses 72 = .ok (.iaload, 1) := by decide +kernel
theorem dX9_loses_73 : decode cX9_loses 73 = .ok (.ifCond .le 4, 3) := by decide +kernel
theorem dX9_loses_76 : decode cX9_loses 76 = .ok (.return_, 1) := by decide +kernel
theorem dX9_loses_77 : decode cX9_loses 77 = .ok (.aload_n 0, 1) := by decide +kernel
theorem dX9_loses_78 : decode cX9_loses 78 = .ok (.dup, 1) := by decide +kernel
theorem dX9_loses_79 : decode cX9_loses 79 = .ok (.getfield 106, 3) := by decide +kernel
theorem dX9_loses_82 : decode cX9_loses 82 = .ok (.iconst 1, 1) := by decide +kernel
theorem dX9_loses_83 : decode cX9_loses 83 = .ok (.isub, 1) := by decide +kernel
theorem dX9_loses_84 : decode cX9_loses 84 = .ok (.putfield 106, 3) := by decide +kernel
theorem dX9_loses_87 : decode cX9_loses 87 = .ok (.iload_n 1, 1) := by decide +kernel
theorem dX9_loses_88 : decode cX9_loses 88 = .ok (.istore 4, 2) := by decide +kernel
theorem dX9_loses_90 : decode cX9_loses 90 = .ok (.iload 4, 2) := by decide +kernel
theorem dX9_loses_92 : decode cX9_loses 92 = .ok (.aload_n 0, 1) := by decide +kernel
theorem dX9_loses_93 : decode cX9_loses 93 = .ok (.getfield 106, 3) := by decide +kernel
theorem dX9_loses_96 : decode cX9_loses 96 = .ok (.if_icmp .ge 57, 3) := by decide +kernel
theorem dX9_loses_99 : decode cX9_loses 99 = .ok (.aload_n 0, 1) := by decide +kernel
theorem dX9_loses_100 : decode cX9_loses 100 = .ok (.getfield 13, 3) := by decide +kernel
theorem dX9_loses_103 : decode cX9_loses 103 = .ok (.iload 4, 2) := by decide +kernel
theorem dX9_loses_105 : decode cX9_loses 105 = .ok (.aload_n 0, 1) := by decide +kernel
theorem dX9_loses_106 : decode cX9_loses 106 = .ok (.getfield 13, 3) := by decide +kernel
theorem dX9_loses_109 : decode cX9_loses 109 = .ok (.iload 4, 2) := by decide +kernel
theorem dX9_loses_111 : decode cX9_loses 111 = .ok (.iconst 1, 1) := by decide +kernel
theorem dX9_loses_112 : decode cX9_loses 112 = .ok (.iadd, 1) := by decide +kernel
theorem dX9_loses_113 : decode cX9_loses 113 = .ok (.iaload, 1) := by decide +kernel
theorem dX9_loses_114 : decode cX9_loses 114 = .ok (.iastore, 1) := by decide +kernel
theorem dX9_loses_115 : decode cX9_loses 115 = .ok (.aload_n 0, 1) := by decide +kernel
theorem dX9_loses_116 : decode cX9_loses 116 = .ok (.getfield 17, 3) := by decide +kernel
theorem dX9_loses_119 : decode cX9_loses 119 = .ok (.iload 4, 2) := by decide +kernel
theorem dX9_loses_121 : decode cX9_loses 121 = .ok (.aload_n 0, 1) := by decide +kernel
theorem dX9_loses_122 : decode cX9_loses 122 = .ok (.getfield 17, 3) := by decide +kernel
theorem dX9_loses_125 : decode cX9_loses 125 = .ok (.iload 4, 2) := by decide +kernel
theorem dX9_loses_127 : decode cX9_loses 127 = .ok (.iconst 1, 1) := by decide +kernel
theorem dX9_loses_128 : decode cX9_loses 128 = .ok (.iadd, 1) := by decide +kernel
theorem dX9_loses_129 : decode cX9_loses 129 = .ok (.iaload, 1) := by decide +kernel
theorem dX9_loses_130 : decode cX9_loses 130 = .ok (.iastore, 1) := by decide +kernel
theorem dX9_loses_131 : decode cX9_loses 131 = .ok (.aload_n 0, 1) := by decide +kernel
theorem dX9_loses_132 : decode cX9_loses 132 = .ok (.getfield 20, 3) := by decide +kernel
theorem dX9_loses_135 : decode cX9_loses 135 = .ok (.iload 4, 2) := by decide +kernel
theorem dX9_loses_137 : decode cX9_loses 137 = .ok (.aload_n 0, 1) := by decide +kernel
theorem dX9_loses_138 : decode cX9_loses 138 = .ok (.getfield 20, 3) := by decide +kernel
theorem dX9_loses_141 : decode cX9_loses 141 = .ok (.iload 4, 2) := by decide +kernel
theorem dX9_loses_143 : decode cX9_loses 143 = .ok (.iconst 1, 1) := by decide +kernel
theorem dX9_loses_144 : decode cX9_loses 144 = .ok (.iadd, 1) := by decide +kernel
theorem dX9_loses_145 : decode cX9_loses 145 = .ok (.iaload, 1) := by decide +kernel
theorem dX9_loses_146 : decode cX9_loses 146 = .ok (.iastore, 1) := by decide +kernel
theorem dX9_loses_147 : decode cX9_loses 147 = .ok (.iinc 4 1, 3) := by decide +kernel
theorem dX9_loses_150 : decode cX9_loses 150 = .ok (.goto (-60), 3) := by decide +kernel
theorem dX9_loses_153 : decode cX9_loses 153 = .ok (.return_, 1) := by decide +kernel
def X9_loses_b90b  (k90 : Nat → Int32 → M Unit) (a0 : Nat) (i4 : Int32) : M Unit := bd (gI 12 8 a0) (fun x1 => it (x1 ≤ i4) (pu ()) (bd (gR 12 5 a0) (fun y2 => bd (gR 12 5 a0) (fun y3 => bd (al 22 y3 (i4 + 1)) (fun x4 => bd (as 22 y2 i4 x4) (fun _ => bd (gR 12 6 a0) (fun y5 => bd (gR 12 6 a0) (fun y6 => bd (al 22 y6 (i4 + 1)) (fun x7 => bd (as 22 y5 i4 x7) (fun _ => bd (gR 12 7 a0) (fun y8 => bd (gR 12 7 a0) (fun y9 => bd (al 22 y9 (i4 + 1)) (fun x10 => bd (as 22 y8 i4 x10) (fun _ => k90 a0 (i4 + 1)))))))))))))))
def X9_loses_b90  : Nat → Nat → Int32 → M Unit
  | 0 => fun _ _ => fl
  | n + 1 => fun a0 i4 => X9_loses_b90b  (X9_loses_b90  n) a0 i4
def X9_loses_b16b  (k16 : Nat → Int32 → Int32 → Int32 → M Unit) (a0 : Nat) (i1 : Int32) (i2 : Int32) (i4 : Int32) : M Unit := bd (gI 12 4 a0) (fun x1 => it (x1 ≤ i4) (bd (gI 12 4 a0) (fun x2 => bd (pV 12 4 a0 (.int (x2 - i2))) (fun _ => bd (gR 12 7 a0) (fun y3 => bd (al 22 y3 i1) (fun x4 => bd (as 22 y3 i1 (x4 - i2)) (fun _ => bd (gR 12 7 a0) (fun y5 => bd (al 22 y5 i1) (fun x6 => it (x6 ≤ 0) (bd (gI 12 8 a0) (fun x7 => bd (pV 12 8 a0 (.int (x7 - 1))) (fun _ => X9_loses_b90  FU a0 i1))) (pu ()))))))))) (bd (gR 12 3 a0) (fun y8 => bd (gR 12 3 a0) (fun y9 => bd (al 21 y9 i4) (fun x10 => bd (as 21 y8 (i4 - i2) x10) (fun _ => k16 a0 i1 i2 (i4 + 1)))))))
def X9_loses_b16  : Nat → Nat → Int32 → Int32 → Int32 → M Unit
  | 0 => fun _ _ _ _ => fl
  | n + 1 => fun a0 i1 i2 i4 => X9_loses_b16b  (X9_loses_b16  n) a0 i1 i2 i4
def X9_loses (a0 : Nat) (i1 : Int32) (i2 : Int32) : M Unit := bd (ck 12 a0) (fun _ => bd (X9_startOf a0 i1) (fun x1 => bd (gR 12 7 a0) (fun y2 => bd (al 22 y2 i1) (fun x3 => bd (pu (x1 + x3)) (fun x4 => X9_loses_b16  FU a0 i1 i2 x4)))))
section
variable {G : Gx} {p : Program} {l : Launch} {e : Env} {R : Room} {s : State} {m : MethodId} {args : Array Value} {below : List Frame} {meth : Method} {c : Code} {h0 : Hp} {r : Unit} {h' : Hp}
set_option maxRecDepth 20000 in
theorem X9_loses_b90b_s (C : Cx G p R s m args meth c cX9_loses 5 yX9_loses.cls h0 h') (hF : R.frames = 1) (hO : R.locals = 23) (hr : meth.sig.returnType = none) (hm : meth.name = yX9_loses.name)  {k90 : Nat → Int32 → M Unit} (hk90 : ∀ (a0 : Nat) (i4 : Int32), Sm G (QM G rvU below args s h0 r h') p l e R s m args below meth c 5 h0 r h' 90 [(0, .ref a0), (4, .int i4)] [] (k90 a0 i4)) (a0 : Nat) (i4 : Int32) : Sm G (QM G rvU below args s h0 r h') p l e R s m args below meth c 5 h0 r h' 90 [(0, .ref a0), (4, .int i4)] [] (X9_loses_b90b  k90 a0 i4) := by
  refine s_iload C 1 dX9_loses_90 rfl ?_
  refine s_aload_n C 0 dX9_loses_92 rfl rfl ?_
  refine s_gI C ci12 8 (by decide) (Or.inl wd_6_123) dX9_loses_93 (fun x1 => ?_)
  refine s_icmp_ge (tgt := 153) C dX9_loses_96 (by decide) ?_ ?_
  · exact s_vret C hr rfl dX9_loses_153
  refine s_aload_n C 0 dX9_loses_99 rfl rfl ?_
  refine s_gR C ci12 5 (by decide) (Or.inl wd_6_120) dX9_loses_100 (fun y2 => ?_)
  refine s_iload C 1 dX9_loses_103 rfl ?_
  refine s_aload_n C 0 dX9_loses_105 rfl rfl ?_
  refine s_gR C ci12 5 (by decide) (Or.inl wd_6_120) dX9_loses_106 (fun y3 => ?_)
  refine s_iload C 1 dX9_loses_109 rfl ?_
  refine s_iconst (v := 1) C dX9_loses_111 (by decide) ?_
  refine s_iadd C dX9_loses_112 ?_
  refine s_al22 C dX9_loses_113 (fun x4 => ?_)
  refine s_as22 C dX9_loses_114 ?_
  refine s_aload_n C 0 dX9_loses_115 rfl rfl ?_
  refine s_gR C ci12 6 (by decide) (Or.inl wd_6_121) dX9_loses_116 (fun y5 => ?_)
  refine s_iload C 1 dX9_loses_119 rfl ?_
  refine s_aload_n C 0 dX9_loses_121 rfl rfl ?_
  refine s_gR C ci12 6 (by decide) (Or.inl wd_6_121) dX9_loses_122 (fun y6 => ?_)
  refine s_iload C 1 dX9_loses_125 rfl ?_
  refine s_iconst (v := 1) C dX9_loses_127 (by decide) ?_
  refine s_iadd C dX9_loses_128 ?_
  refine s_al22 C dX9_loses_129 (fun x7 => ?_)
  refine s_as22 C dX9_loses_130 ?_
  refine s_aload_n C 0 dX9_loses_131 rfl rfl ?_
  refine s_gR C ci12 7 (by decide) (Or.inl wd_6_122) dX9_loses_132 (fun y8 => ?_)
  refine s_iload C 1 dX9_loses_135 rfl ?_
  refine s_aload_n C 0 dX9_loses_137 rfl rfl ?_
  refine s_gR C ci12 7 (by decide) (Or.inl wd_6_122) dX9_loses_138 (fun y9 => ?_)
  refine s_iload C 1 dX9_loses_141 rfl ?_
  refine s_iconst (v := 1) C dX9_loses_143 (by decide) ?_
  refine s_iadd C dX9_loses_144 ?_
  refine s_al22 C dX9_loses_145 (fun x10 => ?_)
  refine s_as22 C dX9_loses_146 ?_
  refine s_iincK (lv' := [(4, .int (i4 + 1)), (0, .ref a0)]) (w := 1) C 1 dX9_loses_147 rfl (by decide) (by decide) rfl ?_
  refine s_goto (tgt := 90) C dX9_loses_150 (by decide) ?_
  refine s_sub [1, 0] rfl ?_
  exact hk90 a0 (i4 + 1)
set_option maxRecDepth 20000 in
theorem X9_loses_b90_s (C : Cx G p R s m args meth c cX9_loses 5 yX9_loses.cls h0 h') (hF : R.frames = 1) (hO : R.locals = 23) (hr : meth.sig.returnType = none) (hm : meth.name = yX9_loses.name)  (n : Nat) : ∀ (a0 : Nat) (i4 : Int32), Sm G (QM G rvU below args s h0 r h') p l e R s m args below meth c 5 h0 r h' 90 [(0, .ref a0), (4, .int i4)] [] (X9_loses_b90  n a0 i4) := by
  induction n with
  | zero => intro a0 i4; exact s_fl
  | succ n ih => intro a0 i4; exact X9_loses_b90b_s C hF hO hr hm  ih a0 i4
set_option maxRecDepth 20000 in
theorem X9_loses_b16b_s (C : Cx G p R s m args meth c cX9_loses 5 yX9_loses.cls h0 h') (hF : R.frames = 1) (hO : R.locals = 23) (hr : meth.sig.returnType = none) (hm : meth.name = yX9_loses.name)  {k16 : Nat → Int32 → Int32 → Int32 → M Unit} (hk16 : ∀ (a0 : Nat) (i1 : Int32) (i2 : Int32) (i4 : Int32), Sm G (QM G rvU below args s h0 r h') p l e R s m args below meth c 5 h0 r h' 16 [(0, .ref a0), (1, .int i1), (2, .int i2), (4, .int i4)] [] (k16 a0 i1 i2 i4)) (a0 : Nat) (i1 : Int32) (i2 : Int32) (i4 : Int32) : Sm G (QM G rvU below args s h0 r h') p l e R s m args below meth c 5 h0 r h' 16 [(0, .ref a0), (1, .int i1), (2, .int i2), (4, .int i4)] [] (X9_loses_b16b  k16 a0 i1 i2 i4) := by
  refine s_iload C 3 dX9_loses_16 rfl ?_
  refine s_aload_n C 0 dX9_loses_18 rfl rfl ?_
  refine s_gI C ci12 4 (by decide) (Or.inl wd_6_119) dX9_loses_19 (fun x1 => ?_)
  refine s_icmp_ge (tgt := 47) C dX9_loses_22 (by decide) ?_ ?_
  · refine s_aload_n C 0 dX9_loses_47 rfl rfl ?_
    refine s_dup C dX9_loses_48 rfl ?_
    refine s_gI C ci12 4 (by decide) (Or.inl wd_6_119) dX9_loses_49 (fun x2 => ?_)
    refine s_iload_n C 2 dX9_loses_52 rfl rfl ?_
    refine s_isub C dX9_loses_53 ?_
    refine s_pV C ci12 4 (by decide) rfl (Or.inl wd_6_119) dX9_loses_54 rfl rfl ?_
    refine s_aload_n C 0 dX9_loses_57 rfl rfl ?_
    refine s_gR C ci12 7 (by decide) (Or.inl wd_6_122) dX9_loses_58 (fun y3 => ?_)
    refine s_iload_n C 1 dX9_loses_61 rfl rfl ?_
    refine s_dup2 C dX9_loses_62 rfl rfl ?_
    refine s_al22 C dX9_loses_63 (fun x4 => ?_)
    refine s_iload_n C 2 dX9_loses_64 rfl rfl ?_
    refine s_isub C dX9_loses_65 ?_
    refine s_as22 C dX9_loses_66 ?_
    refine s_aload_n C 0 dX9_loses_67 rfl rfl ?_
    refine s_gR C ci12 7 (by decide) (Or.inl wd_6_122) dX9_loses_68 (fun y5 => ?_)
    refine s_iload_n C 1 dX9_loses_71 rfl rfl ?_
    refine s_al22 C dX9_loses_72 (fun x6 => ?_)
    refine s_if_le (tgt := 77) C dX9_loses_73 (by decide) ?_ ?_
    · refine s_aload_n C 0 dX9_loses_77 rfl rfl ?_
      refine s_dup C dX9_loses_78 rfl ?_
      refine s_gI C ci12 8 (by decide) (Or.inl wd_6_123) dX9_loses_79 (fun x7 => ?_)
      refine s_iconst (v := 1) C dX9_loses_82 (by decide) ?_
      refine s_isub C dX9_loses_83 ?_
      refine s_pV C ci12 8 (by decide) rfl (Or.inl wd_6_123) dX9_loses_84 rfl rfl ?_
      refine s_iload_n C 1 dX9_loses_87 rfl rfl ?_
      refine s_istore (lv' := [(4, .int i1), (0, .ref a0), (1, .int i1), (2, .int i2)]) C dX9_loses_88 (by decide) rfl ?_
      refine s_sub [1, 0] rfl ?_
      exact X9_loses_b90_s C hF hO hr hm  FU a0 i1
    exact s_vret C hr rfl dX9_loses_76
  refine s_aload_n C 0 dX9_loses_25 rfl rfl ?_
  refine s_gR C ci12 3 (by decide) (Or.inl wd_6_118) dX9_loses_26 (fun y8 => ?_)
  refine s_iload C 3 dX9_loses_29 rfl ?_
  refine s_iload_n C 2 dX9_loses_31 rfl rfl ?_
  refine s_isub C dX9_loses_32 ?_
  refine s_aload_n C 0 dX9_loses_33 rfl rfl ?_
  refine s_gR C ci12 3 (by decide) (Or.inl wd_6_118) dX9_loses_34 (fun y9 => ?_)
  refine s_iload C 3 dX9_loses_37 rfl ?_
  refine s_al21 C dX9_loses_39 (fun x10 => ?_)
  refine s_as21 C dX9_loses_40 ?_
  refine s_iincK (lv' := [(4, .int (i4 + 1)), (0, .ref a0), (1, .int i1), (2, .int i2)]) (w := 1) C 3 dX9_loses_41 rfl (by decide) (by decide) rfl ?_
  refine s_goto (tgt := 16) C dX9_loses_44 (by decide) ?_
  refine s_sub [1, 2, 3, 0] rfl ?_
  exact hk16 a0 i1 i2 (i4 + 1)
set_option maxRecDepth 20000 in
theorem X9_loses_b16_s (C : Cx G p R s m args meth c cX9_loses 5 yX9_loses.cls h0 h') (hF : R.frames = 1) (hO : R.locals = 23) (hr : meth.sig.returnType = none) (hm : meth.name = yX9_loses.name)  (n : Nat) : ∀ (a0 : Nat) (i1 : Int32) (i2 : Int32) (i4 : Int32), Sm G (QM G rvU below args s h0 r h') p l e R s m args below meth c 5 h0 r h' 16 [(0, .ref a0), (1, .int i1), (2, .int i2), (4, .int i4)] [] (X9_loses_b16  n a0 i1 i2 i4) := by
  induction n with
  | zero => intro a0 i1 i2 i4; exact s_fl
  | succ n ih => intro a0 i1 i2 i4; exact X9_loses_b16b_s C hF hO hr hm  ih a0 i1 i2 i4
end
set_option maxRecDepth 20000 in
theorem con_X9_loses (l : Launch) (G : Gx) (a0 : Nat) (i1 : Int32) (i2 : Int32) : Con G rvU l yX9_loses cX9_loses 5 none 1 23 [.ref a0, .int i1, .int i2] (X9_loses a0 i1 i2) := by
  refine con_of (lv := [(0, .ref a0), (1, .int i1), (2, .int i2)]) (by decide) (Nat.le_of_ble_eq_true rfl) rfl (fun p e R s m args below meth c h0 r h' C hF hO hr hm => ?_)
  refine s_aload_n C 0 dX9_loses_0 rfl rfl ?_
  refine s_iload_n C 1 dX9_loses_1 rfl rfl ?_
  refine s_invV_i C ci12 cy_X9_startOf (Or.inl wd_7_96) rfl wd_7_98 wp_39 (con_X9_startOf l G a0 i1) rfl rfl (Nat.le_of_ble_eq_true rfl) (by rw [hF]; decide) (by rw [hO]; exact Nat.le_of_ble_eq_true rfl) dX9_loses_2 (fun x1 => ?_)
  refine s_aload_n C 0 dX9_loses_5 rfl rfl ?_
  refine s_gR C ci12 7 (by decide) (Or.inl wd_6_122) dX9_loses_6 (fun y2 => ?_)
  refine s_iload_n C 1 dX9_loses_9 rfl rfl ?_
  refine s_al22 C dX9_loses_10 (fun x3 => ?_)
  refine s_iadd C dX9_loses_11 ?_
  refine s_let (fun x4 => ?_)
  refine s_istore_n (lv' := [(3, .int x4), (0, .ref a0), (1, .int i1), (2, .int i2)]) C dX9_loses_12 rfl (by decide) rfl ?_
  refine s_iload_n C 0 dX9_loses_13 rfl rfl ?_
  refine s_istore (lv' := [(4, .int x4), (3, .int x4), (0, .ref a0), (1, .int i1), (2, .int i2)]) C dX9_loses_14 (by decide) rfl ?_
  refine s_sub [2, 3, 4, 0] rfl ?_
  exact X9_loses_b16_s C hF hO hr hm  FU a0 i1 i2 x4

theorem dX9_removes_0 : decode cX9_removes 0 = .ok (.aload_n 0, 1) := by decide +kernel
theorem dX9_removes_1 : decode cX9_removes 1 = .ok (.iload_n 1, 1) := by decide +kernel
theorem dX9_removes_2 : decode cX9_removes 2 = .ok (.iload_n 2, 1) := by decide +kernel
theorem dX9_removes_3 : decode cX9_removes 3 = .ok (.invokevirtual 149, 3) := by decide +kernel
theorem dX9_removes_6 : decode cX9_removes 6 = .ok (.istore_n 3, 1) := by decide +kernel
theorem dX9_removes_7 : decode cX9_removes 7 = .ok (.iload_n 3, 1) := by decide +kernel
theorem dX9_removes_8 : decode cX9_removes 8 = .ok (.ifCond .ge 4, 3) := by decide +kernel
theorem dX9_removes_11 : decode cX9_removes 11 = .ok (.return_, 1) := by decide +kernel
theorem dX9_removes_12 : decode cX9_removes 12 = .ok (.aload_n 0, 1) := by decide +kernel
theorem dX9_removes_13 : decode cX9_removes 13 = .ok (.iload_n 3, 1) := by decide +kernel
theorem dX9_removes_14 : decode cX9_removes 14 = .ok (.aload_n 0, 1) := by decide +kernel
theorem dX9_removes_15 : decode cX9_removes 15 = .ok (.getfield 20, 3) := by decide +kernel
theorem dX9_removes_18 : decode cX9_removes 18 = .ok (.iload_n 3, 1) := by decide +kernel
theorem dX9_removes_19 : decode cX9_removes 19 = .ok (.iaload, 1) := by decide +kernel
theorem dX9_removes_20 : decode cX9_removes 20 = .ok (.invokevirtual 160, 3) := by decide +kernel
theorem dX9_removes_23 : decode cX9_removes 23 = .ok (.aload_n 0, 1) := by decide +kernel
theorem dX9_removes_24 : decode cX9_removes 24 = .ok (.dup, 1) := by decide +kernel
theorem dX9_removes_25 : decode cX9_removes 25 = .ok (.getfield 124, 3) := by decide +kernel
theorem dX9_removes_28 : decode cX9_removes 28 = .ok (.iconst 1, 1) := by decide +kernel
theorem dX9_removes_29 : decode cX9_removes 29 = .ok (.iadd, 1) := by decide +kernel
theorem dX9_removes_30 : decode cX9_removes 30 = .ok (.putfield 124, 3) := by decide +kernel
theorem dX9_removes_33 : decode cX9_removes 33 = .ok (.iconst 0, 1) := by decide +kernel
theorem dX9_removes_34 : decode cX9_removes 34 = .ok (.istore 4, 2) := by decide +kernel
theorem dX9_removes_36 : decode cX9_removes 36 = .ok (.iconst 0, 1) := by decide +kernel
theorem dX9_removes_37 : decode cX9_removes 37 = .ok (.istore 5, 2) := by decide +kernel
theorem dX9_removes_39 : decode cX9_removes 39 = .ok (.iload 5, 2) := by decide +kernel
theorem dX9_removes_41 : decode cX9_removes 41 = .ok (.aload_n 0, 1) := by decide +kernel
theorem dX9_removes_42 : decode cX9_removes 42 = .ok (.getfield 109, 3) := by decide +kernel
theorem dX9_removes_45 : decode cX9_removes 45 = .ok (.if_icmp .ge 79, 3) := by decide +kernel
theorem dX9_removes_48 : decode cX9_removes 48 = .ok (.aload_n 0, 1) := by decide +kernel
theorem dX9_removes_49 : decode cX9_removes 49 = .ok (.getfield 23, 3) := by decide +kernel
theorem dX9_removes_52 : decode cX9_removes 52 = .ok (.iload 5, 2) := by decide +kernel
theorem dX9_removes_54 : decode cX9_removes 54 = .ok (.iaload, 1) := by decide +kernel
theorem dX9_removes_55 : decode cX9_removes 55 = .ok (.iload_n 1, 1) := by decide +kernel
theorem dX9_removes_56 : decode cX9_removes 56 = .ok (.if_icmp .ne 17, 3) := by decide +kernel
theorem dX9_removes_59 : decode cX9_removes 59 = .ok (.aload_n 0, 1) := by decide +kernel
theorem dX9_removes_60 : decode cX9_removes 60 = .ok (.getfield 26, 3) := by decide +kernel
theorem dX9_removes_63 : decode cX9_removes 63 = .ok (.iload 5, 2) := by decide +kernel
theorem dX9_removes_65 : decode cX9_removes 65 = .ok (.iaload, 1) := by decide +kernel
theorem dX9_removes_66 : decode cX9_removes 66 = .ok (.iload_n 2, 1) := by decide +kernel
theorem dX9_removes_67 : decode cX9_removes 67 = .ok (.if_icmp .ne 6, 3) := by decide +kernel
theorem dX9_removes_70 : decode cX9_removes 70 = .ok (.goto 48, 3) := by decide +kernel
theorem dX9_removes_73 : decode cX9_removes 73 = .ok (.aload_n 0, 1) := by decide +kernel
theorem dX9_removes_74 : decode cX9_removes 74 = .ok (.getfield 23, 3) := by decide +kernel
theorem dX9_removes_77 : decode cX9_removes 77 = .ok (.iload 4, 2) := by decide +kernel
theorem dX9_removes_79 : decode cX9_removes 79 = .ok (.aload_n 0, 1) := by decide +kernel
theorem dX9_removes_80 : decode cX9_removes 80 = .ok (.getfield 23, 3) := by decide +kernel
theorem dX9_removes_83 : decode cX9_removes 83 = .ok (.iload 5, 2) := by decide +kernel
theorem dX9_removes_85 : decode cX9_removes 85 = .ok (.iaload, 1) := by decide +kernel
theorem dX9_removes_86 : decode cX9_removes 86 = .ok (.iastore, 1) := by decide +kernel
theorem dX9_removes_87 : decode cX9_removes 87 = .ok (.aload_n 0, 1) := by decide +kernel
theorem dX9_removes_88 : decode cX9_removes 88 = .ok (.getfield 26, 3) := by decide +kernel
theorem dX9_removes_91 : decode cX9_removes 91 = .ok (.iload 4, 2) := by decide +kernel
theorem dX9_removes_93 : decode cX9_removes 93 = .ok (.aload_n 0, 1) := by decide +kernel
theorem dX9_removes_94 : decode cX9_removes 94 = .ok (.getfield 26, 3) := by decide +kernel
theorem dX9_removes_97 : decode cX9_removes 97 = .ok (.iload 5, 2) := by decide +kernel
theorem dX9_removes_99 : decode cX9_removes 99 = .ok (.iaload, 1) := by decide +kernel
theorem dX9_removes_100 : decode cX9_removes 100 = .ok (.iastore, 1) := by decide +kernel
theorem dX9_removes_101 : decode cX9_removes 101 = .ok (.aload_n 0, 1) := by decide +kernel
theorem dX9_removes_102 : decode cX9_removes 102 = .ok (.getfield 29, 3) := by decide +kernel
theorem dX9_removes_105 : decode cX9_removes 105 = .ok (.iload 4, 2) := by decide +kernel
theorem dX9_removes_107 : decode cX9_removes 107 = .ok (.aload_n 0, 1) := by decide +kernel
theorem dX9_removes_108 : decode cX9_removes 108 = .ok (.getfield 29, 3) := by decide +kernel
theorem dX9_removes_111 : decode cX9_removes 111 = .ok (.iload 5, 2) := by decide +kernel
theorem dX9_removes_113 : decode cX9_removes 113 = .ok (.iaload, 1) := by decide +kernel
theorem dX9_removes_114 : decode cX9_removes 114 = .ok (.iastore, 1) := by decide +kernel
theorem dX9_removes_115 : decode cX9_removes 115 = .ok (.iinc 4 1, 3) := by decide +kernel
theorem dX9_removes_118 : decode cX9_removes 118 = .ok (.iinc 5 1, 3) := by decide +kernel
theorem dX9_removes_121 : decode cX9_removes 121 = .ok (.goto (-82), 3) := by decide +kernel
theorem dX9_removes_124 : decode cX9_removes 124 = .ok (.aload_n 0, 1) := by decide +kernel
theorem dX9_removes_125 : decode cX9_removes 125 = .ok (.iload 4, 2) := by decide +kernel
theorem dX9_removes_127 : decode cX9_removes 127 = .ok (.putfield 109, 3) := by decide +kernel
theorem dX9_removes_130 : decode cX9_removes 130 = .ok (.return_, 1) := by decide +kernel
def X9_removes_b118 (k39 : Nat → Int32 → Int32 → Int32 → Int32 → M Unit)  (a0 : Nat) (i1 : Int32) (i2 : Int32) (i4 : Int32) (i5 : Int32) : M Unit := k39 a0 i1 i2 i4 (i5 + 1)
def X9_removes_b73 (k39 : Nat → Int32 → Int32 → Int32 → Int32 → M Unit)  (a0 : Nat) (i1 : Int32) (i2 : Int32) (i4 : Int32) (i5 : Int32) : M Unit := bd (gR 12 9 a0) (fun y1 => bd (gR 12 9 a0) (fun y2 => bd (al 22 y2 i5) (fun x3 => bd (as 22 y1 i4 x3) (fun _ => bd (gR 12 10 a0) (fun y4 => bd (gR 12 10 a0) (fun y5 => bd (al 22 y5 i5) (fun x6 => bd (as 22 y4 i4 x6) (fun _ => bd (gR 12 11 a0) (fun y7 => bd (gR 12 11 a0) (fun y8 => bd (al 22 y8 i5) (fun x9 => bd (as 22 y7 i4 x9) (fun _ => X9_removes_b118 k39  a0 i1 i2 (i4 + 1) i5))))))))))))
def X9_removes_b39b  (k39 : Nat → Int32 → Int32 → Int32 → Int32 → M Unit) (a0 : Nat) (i1 : Int32) (i2 : Int32) (i4 : Int32) (i5 : Int32) : M Unit := bd (gI 12 12 a0) (fun x1 => it (x1 ≤ i5) (bd (pV 12 12 a0 (.int i4)) (fun _ => pu ())) (bd (gR 12 9 a0) (fun y2 => bd (al 22 y2 i5) (fun x3 => it (¬ x3 = i1) (X9_removes_b73 k39  a0 i1 i2 i4 i5) (bd (gR 12 10 a0) (fun y4 => bd (al 22 y4 i5) (fun x5 => it (¬ x5 = i2) (X9_removes_b73 k39  a0 i1 i2 i4 i5) (X9_removes_b118 k39  a0 i1 i2 i4 i5))))))))
def X9_removes_b39  : Nat → Nat → Int32 → Int32 → Int32 → Int32 → M Unit
  | 0 => fun _ _ _ _ _ => fl
  | n + 1 => fun a0 i1 i2 i4 i5 => X9_removes_b39b  (X9_removes_b39  n) a0 i1 i2 i4 i5
def X9_removes (a0 : Nat) (i1 : Int32) (i2 : Int32) : M Unit := bd (ck 12 a0) (fun _ => bd (X9_fileAt a0 i1 i2) (fun x1 => it (0 ≤ x1) (bd (gR 12 7 a0) (fun y2 => bd (al 22 y2 x1) (fun x3 => bd (ck 12 a0) (fun _ => bd (X9_loses a0 x1 x3) (fun _ => bd (gI 12 22 a0) (fun x4 => bd (pV 12 22 a0 (.int (x4 + 1))) (fun _ => X9_removes_b39  FU a0 i1 i2 0 0))))))) (pu ())))
section
variable {G : Gx} {p : Program} {l : Launch} {e : Env} {R : Room} {s : State} {m : MethodId} {args : Array Value} {below : List Frame} {meth : Method} {c : Code} {h0 : Hp} {r : Unit} {h' : Hp}
set_option maxRecDepth 20000 in
theorem X9_removes_b118_s (C : Cx G p R s m args meth c cX9_removes 6 yX9_removes.cls h0 h') (hF : R.frames = 2) (hO : R.locals = 47) (hr : meth.sig.returnType = none) (hm : meth.name = yX9_removes.name) {k39 : Nat → Int32 → Int32 → Int32 → Int32 → M Unit} (hk39 : ∀ (a0 : Nat) (i1 : Int32) (i2 : Int32) (i4 : Int32) (i5 : Int32), Sm G (QM G rvU below args s h0 r h') p l e R s m args below meth c 6 h0 r h' 39 [(0, .ref a0), (1, .int i1), (2, .int i2), (4, .int i4), (5, .int i5)] [] (k39 a0 i1 i2 i4 i5))  (a0 : Nat) (i1 : Int32) (i2 : Int32) (i4 : Int32) (i5 : Int32) : Sm G (QM G rvU below args s h0 r h') p l e R s m args below meth c 6 h0 r h' 118 [(0, .ref a0), (1, .int i1), (2, .int i2), (4, .int i4), (5, .int i5)] [] (X9_removes_b118 k39  a0 i1 i2 i4 i5) := by
  refine s_iincK (lv' := [(5, .int (i5 + 1)), (0, .ref a0), (1, .int i1), (2, .int i2), (4, .int i4)]) (w := 1) C 4 dX9_removes_118 rfl (by decide) (by decide) rfl ?_
  refine s_goto (tgt := 39) C dX9_removes_121 (by decide) ?_
  refine s_sub [1, 2, 3, 4, 0] rfl ?_
  exact hk39 a0 i1 i2 i4 (i5 + 1)
set_option maxRecDepth 20000 in
theorem X9_removes_b73_s (C : Cx G p R s m args meth c cX9_removes 6 yX9_removes.cls h0 h') (hF : R.frames = 2) (hO : R.locals = 47) (hr : meth.sig.returnType = none) (hm : meth.name = yX9_removes.name) {k39 : Nat → Int32 → Int32 → Int32 → Int32 → M Unit} (hk39 : ∀ (a0 : Nat) (i1 : Int32) (i2 : Int32) (i4 : Int32) (i5 : Int32), Sm G (QM G rvU below args s h0 r h') p l e R s m args below meth c 6 h0 r h' 39 [(0, .ref a0), (1, .int i1), (2, .int i2), (4, .int i4), (5, .int i5)] [] (k39 a0 i1 i2 i4 i5))  (a0 : Nat) (i1 : Int32) (i2 : Int32) (i4 : Int32) (i5 : Int32) : Sm G (QM G rvU below args s h0 r h') p l e R s m args below meth c 6 h0 r h' 73 [(0, .ref a0), (1, .int i1), (2, .int i2), (4, .int i4), (5, .int i5)] [] (X9_removes_b73 k39  a0 i1 i2 i4 i5) := by
  refine s_aload_n C 0 dX9_removes_73 rfl rfl ?_
  refine s_gR C ci12 9 (by decide) (Or.inl wd_6_124) dX9_removes_74 (fun y1 => ?_)
  refine s_iload C 3 dX9_removes_77 rfl ?_
  refine s_aload_n C 0 dX9_removes_79 rfl rfl ?_
  refine s_gR C ci12 9 (by decide) (Or.inl wd_6_124) dX9_removes_80 (fun y2 => ?_)
  refine s_iload C 4 dX9_removes_83 rfl ?_
  refine s_al22 C dX9_removes_85 (fun x3 => ?_)
  refine s_as22 C dX9_removes_86 ?_
  refine s_aload_n C 0 dX9_removes_87 rfl rfl ?_
  refine s_gR C ci12 10 (by decide) (Or.inl wd_6_125) dX9_removes_88 (fun y4 => ?_)
  refine s_iload C 3 dX9_removes_91 rfl ?_
  refine s_aload_n C 0 dX9_removes_93 rfl rfl ?_
  refine s_gR C ci12 10 (by decide) (Or.inl wd_6_125) dX9_removes_94 (fun y5 => ?_)
  refine s_iload C 4 dX9_removes_97 rfl ?_
  refine s_al22 C dX9_removes_99 (fun x6 => ?_)
  refine s_as22 C dX9_removes_100 ?_
  refine s_aload_n C 0 dX9_removes_101 rfl rfl ?_
  refine s_gR C ci12 11 (by decide) (Or.inl wd_6_126) dX9_removes_102 (fun y7 => ?_)
  refine s_iload C 3 dX9_removes_105 rfl ?_
  refine s_aload_n C 0 dX9_removes_107 rfl rfl ?_
  refine s_gR C ci12 11 (by decide) (Or.inl wd_6_126) dX9_removes_108 (fun y8 => ?_)
  refine s_iload C 4 dX9_removes_111 rfl ?_
  refine s_al22 C dX9_removes_113 (fun x9 => ?_)
  refine s_as22 C dX9_removes_114 ?_
  refine s_iincK (lv' := [(4, .int (i4 + 1)), (0, .ref a0), (1, .int i1), (2, .int i2), (5, .int i5)]) (w := 1) C 3 dX9_removes_115 rfl (by decide) (by decide) rfl ?_
  refine s_sub [1, 2, 3, 0, 4] rfl ?_
  exact X9_removes_b118_s C hF hO hr hm hk39  a0 i1 i2 (i4 + 1) i5
set_option maxRecDepth 20000 in
theorem X9_removes_b39b_s (C : Cx G p R s m args meth c cX9_removes 6 yX9_removes.cls h0 h') (hF : R.frames = 2) (hO : R.locals = 47) (hr : meth.sig.returnType = none) (hm : meth.name = yX9_removes.name)  {k39 : Nat → Int32 → Int32 → Int32 → Int32 → M Unit} (hk39 : ∀ (a0 : Nat) (i1 : Int32) (i2 : Int32) (i4 : Int32) (i5 : Int32), Sm G (QM G rvU below args s h0 r h') p l e R s m args below meth c 6 h0 r h' 39 [(0, .ref a0), (1, .int i1), (2, .int i2), (4, .int i4), (5, .int i5)] [] (k39 a0 i1 i2 i4 i5)) (a0 : Nat) (i1 : Int32) (i2 : Int32) (i4 : Int32) (i5 : Int32) : Sm G (QM G rvU below args s h0 r h') p l e R s m args below meth c 6 h0 r h' 39 [(0, .ref a0), (1, .int i1), (2, .int i2), (4, .int i4), (5, .int i5)] [] (X9_removes_b39b  k39 a0 i1 i2 i4 i5) := by
  refine s_iload C 4 dX9_removes_39 rfl ?_
  refine s_aload_n C 0 dX9_removes_41 rfl rfl ?_
  refine s_gI C ci12 12 (by decide) (Or.inl wd_6_127) dX9_removes_42 (fun x1 => ?_)
  refine s_icmp_ge (tgt := 124) C dX9_removes_45 (by decide) ?_ ?_
  · refine s_aload_n C 0 dX9_removes_124 rfl rfl ?_
    refine s_iload C 3 dX9_removes_125 rfl ?_
    refine s_pV C ci12 12 (by decide) rfl (Or.inl wd_6_127) dX9_removes_127 rfl rfl ?_
    exact s_vret C hr rfl dX9_removes_130
  refine s_aload_n C 0 dX9_removes_48 rfl rfl ?_
  refine s_gR C ci12 9 (by decide) (Or.inl wd_6_124) dX9_removes_49 (fun y2 => ?_)
  refine s_iload C 4 dX9_removes_52 rfl ?_
  refine s_al22 C dX9_removes_54 (fun x3 => ?_)
  refine s_iload_n C 1 dX9_removes_55 rfl rfl ?_
  refine s_icmp_ne (tgt := 73) C dX9_removes_56 (by decide) ?_ ?_
  · exact X9_removes_b73_s C hF hO hr hm hk39  a0 i1 i2 i4 i5
  refine s_aload_n C 0 dX9_removes_59 rfl rfl ?_
  refine s_gR C ci12 10 (by decide) (Or.inl wd_6_125) dX9_removes_60 (fun y4 => ?_)
  refine s_iload C 4 dX9_removes_63 rfl ?_
  refine s_al22 C dX9_removes_65 (fun x5 => ?_)
  refine s_iload_n C 2 dX9_removes_66 rfl rfl ?_
  refine s_icmp_ne (tgt := 73) C dX9_removes_67 (by decide) ?_ ?_
  · exact X9_removes_b73_s C hF hO hr hm hk39  a0 i1 i2 i4 i5
  refine s_goto (tgt := 118) C dX9_removes_70 (by decide) ?_
  exact X9_removes_b118_s C hF hO hr hm hk39  a0 i1 i2 i4 i5
set_option maxRecDepth 20000 in
theorem X9_removes_b39_s (C : Cx G p R s m args meth c cX9_removes 6 yX9_removes.cls h0 h') (hF : R.frames = 2) (hO : R.locals = 47) (hr : meth.sig.returnType = none) (hm : meth.name = yX9_removes.name)  (n : Nat) : ∀ (a0 : Nat) (i1 : Int32) (i2 : Int32) (i4 : Int32) (i5 : Int32), Sm G (QM G rvU below args s h0 r h') p l e R s m args below meth c 6 h0 r h' 39 [(0, .ref a0), (1, .int i1), (2, .int i2), (4, .int i4), (5, .int i5)] [] (X9_removes_b39  n a0 i1 i2 i4 i5) := by
  induction n with
  | zero => intro a0 i1 i2 i4 i5; exact s_fl
  | succ n ih => intro a0 i1 i2 i4 i5; exact X9_removes_b39b_s C hF hO hr hm  ih a0 i1 i2 i4 i5
end
set_option maxRecDepth 20000 in
theorem con_X9_removes (l : Launch) (G : Gx) (a0 : Nat) (i1 : Int32) (i2 : Int32) : Con G rvU l yX9_removes cX9_removes 6 none 2 47 [.ref a0, .int i1, .int i2] (X9_removes a0 i1 i2) := by
  refine con_of (lv := [(0, .ref a0), (1, .int i1), (2, .int i2)]) (by decide) (Nat.le_of_ble_eq_true rfl) rfl (fun p e R s m args below meth c h0 r h' C hF hO hr hm => ?_)
  refine s_aload_n C 0 dX9_removes_0 rfl rfl ?_
  refine s_iload_n C 1 dX9_removes_1 rfl rfl ?_
  refine s_iload_n C 2 dX9_removes_2 rfl rfl ?_
  refine s_invV_i C ci12 cy_X9_fileAt (Or.inl wd_7_80) rfl wd_7_82 wp_36 (con_X9_fileAt l G a0 i1 i2) rfl rfl (Nat.le_of_ble_eq_true rfl) (by rw [hF]; decide) (by rw [hO]; exact Nat.le_of_ble_eq_true rfl) dX9_removes_3 (fun x1 => ?_)
  refine s_istore_n (lv' := [(3, .int x1), (0, .ref a0), (1, .int i1), (2, .int i2)]) C dX9_removes_6 rfl (by decide) rfl ?_
  refine s_iload_n C 0 dX9_removes_7 rfl rfl ?_
  refine s_if_ge (tgt := 12) C dX9_removes_8 (by decide) ?_ ?_
  · refine s_aload_n C 1 dX9_removes_12 rfl rfl ?_
    refine s_iload_n C 0 dX9_removes_13 rfl rfl ?_
    refine s_aload_n C 1 dX9_removes_14 rfl rfl ?_
    refine s_gR C ci12 7 (by decide) (Or.inl wd_6_122) dX9_removes_15 (fun y2 => ?_)
    refine s_iload_n C 0 dX9_removes_18 rfl rfl ?_
    refine s_al22 C dX9_removes_19 (fun x3 => ?_)
    refine s_invV_u C ci12 cy_X9_loses (Or.inl wd_7_166) rfl wd_7_168 wp_49 (con_X9_loses l G a0 x1 x3) rfl rfl (Nat.le_of_ble_eq_true rfl) (by rw [hF]; decide) (by rw [hO]; exact Nat.le_of_ble_eq_true rfl) dX9_removes_20 ?_
    refine s_aload_n C 1 dX9_removes_23 rfl rfl ?_
    refine s_dup C dX9_removes_24 rfl ?_
    refine s_gI C ci12 22 (by decide) (Or.inl wd_6_137) dX9_removes_25 (fun x4 => ?_)
    refine s_iconst (v := 1) C dX9_removes_28 (by decide) ?_
    refine s_iadd C dX9_removes_29 ?_
    refine s_pV C ci12 22 (by decide) rfl (Or.inl wd_6_137) dX9_removes_30 rfl rfl ?_
    refine s_iconst (v := 0) C dX9_removes_33 (by decide) ?_
    refine s_istore (lv' := [(4, .int 0), (3, .int x1), (0, .ref a0), (1, .int i1), (2, .int i2)]) C dX9_removes_34 (by decide) rfl ?_
    refine s_iconst (v := 0) C dX9_removes_36 (by decide) ?_
    refine s_istore (lv' := [(5, .int 0), (4, .int 0), (3, .int x1), (0, .ref a0), (1, .int i1), (2, .int i2)]) C dX9_removes_37 (by decide) rfl ?_
    refine s_sub [3, 4, 5, 1, 0] rfl ?_
    exact X9_removes_b39_s C hF hO hr hm  FU a0 i1 i2 0 0
  exact s_vret C hr rfl dX9_removes_11

theorem dX9_unsynced_0 : decode cX9_unsynced 0 = .ok (.iconst 0, 1) := by decide +kernel
theorem dX9_unsynced_1 : decode cX9_unsynced 1 = .ok (.istore_n 1, 1) := by decide +kernel
theorem dX9_unsynced_2 : decode cX9_unsynced 2 = .ok (.iconst 0, 1) := by decide +kernel
theorem dX9_unsynced_3 : decode cX9_unsynced 3 = .ok (.istore_n 2, 1) := by decide +kernel
theorem dX9_unsynced_4 : decode cX9_unsynced 4 = .ok (.iload_n 2, 1) := by decide +kernel
theorem dX9_unsynced_5 : decode cX9_unsynced 5 = .ok (.aload_n 0, 1) := by decide +kernel
theorem dX9_unsynced_6 : decode cX9_unsynced 6 = .ok (.getfield 109, 3) := by decide +kernel
theorem dX9_unsynced_9 : decode cX9_unsynced 9 = .ok (.if_icmp .ge 18, 3) := by decide +kernel
theorem dX9_unsynced_12 : decode cX9_unsynced 12 = .ok (.iload_n 1, 1) := by decide +kernel
theorem dX9_unsynced_13 : decode cX9_unsynced 13 = .ok (.aload_n 0, 1) := by decide +kernel
theorem dX9_unsynced_14 : decode cX9_unsynced 14 = .ok (.getfield 29, 3) := by decide +kernel
theorem dX9_unsynced_17 : decode cX9_unsynced 17 = .ok (.iload_n 2, 1) := by decide +kernel
theorem dX9_unsynced_18 : decode cX9_unsynced 18 = .ok (.iaload, 1) := by decide +kernel
theorem dX9_unsynced_19 : decode cX9_unsynced 19 = .ok (.iadd, 1) := by decide +kernel
theorem dX9_unsynced_20 : decode cX9_unsynced 20 = .ok (.istore_n 1, 1) := by decide +kernel
theorem dX9_unsynced_21 : decode cX9_unsynced 21 = .ok (.iinc 2 1, 3) := by decide +kernel
theorem dX9_unsynced_24 : decode cX9_unsynced 24 = .ok (.goto (-20), 3) := by decide +kernel
theorem dX9_unsynced_27 : decode cX9_unsynced 27 = .ok (.iload_n 1, 1) := by decide +kernel
theorem dX9_unsynced_28 : decode cX9_unsynced 28 = .ok (.ireturn, 1) := by decide +kernel
def X9_unsynced_b4b  (k4 : Nat → Int32 → Int32 → M Int32) (a0 : Nat) (i1 : Int32) (i2 : Int32) : M Int32 := bd (gI 12 12 a0) (fun x1 => it (x1 ≤ i2) (pu i1) (bd (gR 12 11 a0) (fun y2 => bd (al 22 y2 i2) (fun x3 => bd (pu (i1 + x3)) (fun x4 => k4 a0 x4 (i2 + 1))))))
def X9_unsynced_b4  : Nat → Nat → Int32 → Int32 → M Int32
  | 0 => fun _ _ _ => fl
  | n + 1 => fun a0 i1 i2 => X9_unsynced_b4b  (X9_unsynced_b4  n) a0 i1 i2
def X9_unsynced (a0 : Nat) : M Int32 := X9_unsynced_b4  FU a0 0 0
section
variable {G : Gx} {p : Program} {l : Launch} {e : Env} {R : Room} {s : State} {m : MethodId} {args : Array Value} {below : List Frame} {meth : Method} {c : Code} {h0 : Hp} {r : Int32} {h' : Hp}
set_option maxRecDepth 20000 in
theorem X9_unsynced_b4b_s (C : Cx G p R s m args meth c cX9_unsynced 3 yX9_unsynced.cls h0 h') (hF : R.frames = 0) (hO : R.locals = 0) (hr : meth.sig.returnType = (some .int)) (hm : meth.name = yX9_unsynced.name)  {k4 : Nat → Int32 → Int32 → M Int32} (hk4 : ∀ (a0 : Nat) (i1 : Int32) (i2 : Int32), Sm G (QM G rvI below args s h0 r h') p l e R s m args below meth c 3 h0 r h' 4 [(0, .ref a0), (1, .int i1), (2, .int i2)] [] (k4 a0 i1 i2)) (a0 : Nat) (i1 : Int32) (i2 : Int32) : Sm G (QM G rvI below args s h0 r h') p l e R s m args below meth c 3 h0 r h' 4 [(0, .ref a0), (1, .int i1), (2, .int i2)] [] (X9_unsynced_b4b  k4 a0 i1 i2) := by
  refine s_iload_n C 2 dX9_unsynced_4 rfl rfl ?_
  refine s_aload_n C 0 dX9_unsynced_5 rfl rfl ?_
  refine s_gI C ci12 12 (by decide) (Or.inl wd_6_127) dX9_unsynced_6 (fun x1 => ?_)
  refine s_icmp_ge (tgt := 27) C dX9_unsynced_9 (by decide) ?_ ?_
  · refine s_iload_n C 1 dX9_unsynced_27 rfl rfl ?_
    exact s_iret C hr rfl dX9_unsynced_28
  refine s_iload_n C 1 dX9_unsynced_12 rfl rfl ?_
  refine s_aload_n C 0 dX9_unsynced_13 rfl rfl ?_
  refine s_gR C ci12 11 (by decide) (Or.inl wd_6_126) dX9_unsynced_14 (fun y2 => ?_)
  refine s_iload_n C 2 dX9_unsynced_17 rfl rfl ?_
  refine s_al22 C dX9_unsynced_18 (fun x3 => ?_)
  refine s_iadd C dX9_unsynced_19 ?_
  refine s_let (fun x4 => ?_)
  refine s_istore_n (lv' := [(1, .int x4), (0, .ref a0), (2, .int i2)]) C dX9_unsynced_20 rfl (by decide) rfl ?_
  refine s_iincK (lv' := [(2, .int (i2 + 1)), (1, .int x4), (0, .ref a0)]) (w := 1) C 2 dX9_unsynced_21 rfl (by decide) (by decide) rfl ?_
  refine s_goto (tgt := 4) C dX9_unsynced_24 (by decide) ?_
  refine s_sub [2, 1, 0] rfl ?_
  exact hk4 a0 x4 (i2 + 1)
set_option maxRecDepth 20000 in
theorem X9_unsynced_b4_s (C : Cx G p R s m args meth c cX9_unsynced 3 yX9_unsynced.cls h0 h') (hF : R.frames = 0) (hO : R.locals = 0) (hr : meth.sig.returnType = (some .int)) (hm : meth.name = yX9_unsynced.name)  (n : Nat) : ∀ (a0 : Nat) (i1 : Int32) (i2 : Int32), Sm G (QM G rvI below args s h0 r h') p l e R s m args below meth c 3 h0 r h' 4 [(0, .ref a0), (1, .int i1), (2, .int i2)] [] (X9_unsynced_b4  n a0 i1 i2) := by
  induction n with
  | zero => intro a0 i1 i2; exact s_fl
  | succ n ih => intro a0 i1 i2; exact X9_unsynced_b4b_s C hF hO hr hm  ih a0 i1 i2
end
set_option maxRecDepth 20000 in
theorem con_X9_unsynced (l : Launch) (G : Gx) (a0 : Nat) : Con G rvI l yX9_unsynced cX9_unsynced 3 (some .int) 0 0 [.ref a0] (X9_unsynced a0) := by
  refine con_of (lv := [(0, .ref a0)]) (by decide) (Nat.le_of_ble_eq_true rfl) rfl (fun p e R s m args below meth c h0 r h' C hF hO hr hm => ?_)
  refine s_iconst (v := 0) C dX9_unsynced_0 (by decide) ?_
  refine s_istore_n (lv' := [(1, .int 0), (0, .ref a0)]) C dX9_unsynced_1 rfl (by decide) rfl ?_
  refine s_iconst (v := 0) C dX9_unsynced_2 (by decide) ?_
  refine s_istore_n (lv' := [(2, .int 0), (1, .int 0), (0, .ref a0)]) C dX9_unsynced_3 rfl (by decide) rfl ?_
  refine s_sub [2, 1, 0] rfl ?_
  exact X9_unsynced_b4_s C hF hO hr hm  FU a0 0 0

theorem dX9_drafts_0 : decode cX9_drafts 0 = .ok (.iload_n 2, 1) := by decide +kernel
theorem dX9_drafts_1 : decode cX9_drafts 1 = .ok (.iconst 1, 1) := by decide +kernel
theorem dX9_drafts_2 : decode cX9_drafts 2 = .ok (.isub, 1) := by decide +kernel
theorem dX9_drafts_3 : decode cX9_drafts 3 = .ok (.istore_n 3, 1) := by decide +kernel
theorem dX9_drafts_4 : decode cX9_drafts 4 = .ok (.iload_n 3, 1) := by decide +kernel
theorem dX9_drafts_5 : decode cX9_drafts 5 = .ok (.ifCond .lt 35, 3) := by decide +kernel
theorem dX9_drafts_8 : decode cX9_drafts 8 = .ok (.aload_n 0, 1) := by decide +kernel
theorem dX9_drafts_9 : decode cX9_drafts 9 = .ok (.getfield 32, 3) := by decide +kernel
theorem dX9_drafts_12 : decode cX9_drafts 12 = .ok (.aload_n 0, 1) := by decide +kernel
theorem dX9_drafts_13 : decode cX9_drafts 13 = .ok (.getfield 157, 3) := by decide +kernel
theorem dX9_drafts_16 : decode cX9_drafts 16 = .ok (.iload_n 1, 1) := by decide +kernel
theorem dX9_drafts_17 : decode cX9_drafts 17 = .ok (.bipush 8, 2) := by decide +kernel
theorem dX9_drafts_19 : decode cX9_drafts 19 = .ok (.iload_n 3, 1) := by decide +kernel
theorem dX9_drafts_20 : decode cX9_drafts 20 = .ok (.imul, 1) := by decide +kernel
theorem dX9_drafts_21 : decode cX9_drafts 21 = .ok (.ishr, 1) := by decide +kernel
theorem dX9_drafts_22 : decode cX9_drafts 22 = .ok (.i2b, 1) := by decide +kernel
theorem dX9_drafts_23 : decode cX9_drafts 23 = .ok (.bastore, 1) := by decide +kernel
theorem dX9_drafts_24 : decode cX9_drafts 24 = .ok (.aload_n 0, 1) := by decide +kernel
theorem dX9_drafts_25 : decode cX9_drafts 25 = .ok (.dup, 1) := by decide +kernel
theorem dX9_drafts_26 : decode cX9_drafts 26 = .ok (.getfield 157, 3) := by decide +kernel
theorem dX9_drafts_29 : decode cX9_drafts 29 = .ok (.iconst 1, 1) := by decide +kernel
theorem dX9_drafts_30 : decode cX9_drafts 30 = .ok (.iadd, 1) := by decide +kernel
theorem dX9_drafts_31 : decode cX9_drafts 31 = .ok (.putfield 157, 3) := by decide +kernel
theorem dX9_drafts_34 : decode cX9_drafts 34 = .ok (.iinc 3 (-1), 3) := by decide +kernel
theorem dX9_drafts_37 : decode cX9_drafts 37 = .ok (.goto (-33), 3) := by decide +kernel
theorem dX9_drafts_40 : decode cX9_drafts 40 = .ok (.return_, 1) := by decide +kernel
def X9_drafts_b4b  (k4 : Nat → Int32 → Int32 → M Unit) (a0 : Nat) (i1 : Int32) (i3 : Int32) : M Unit := it (i3 < 0) (pu ()) (bd (gR 12 13 a0) (fun y1 => bd (gI 12 14 a0) (fun x2 => bd (as 21 y1 x2 (((i1 >>> ((8 * i3) &&& 31)) : Int32).toInt8.toInt32)) (fun _ => bd (gI 12 14 a0) (fun x3 => bd (pV 12 14 a0 (.int (x3 + 1))) (fun _ => k4 a0 i1 (i3 + (-1))))))))
def X9_drafts_b4  : Nat → Nat → Int32 → Int32 → M Unit
  | 0 => fun _ _ _ => fl
  | n + 1 => fun a0 i1 i3 => X9_drafts_b4b  (X9_drafts_b4  n) a0 i1 i3
def X9_drafts (a0 : Nat) (i1 : Int32) (i2 : Int32) : M Unit := bd (pu (i2 - 1)) (fun x1 => X9_drafts_b4  FU a0 i1 x1)
section
variable {G : Gx} {p : Program} {l : Launch} {e : Env} {R : Room} {s : State} {m : MethodId} {args : Array Value} {below : List Frame} {meth : Method} {c : Code} {h0 : Hp} {r : Unit} {h' : Hp}
set_option maxRecDepth 20000 in
theorem X9_drafts_b4b_s (C : Cx G p R s m args meth c cX9_drafts 4 yX9_drafts.cls h0 h') (hF : R.frames = 0) (hO : R.locals = 0) (hr : meth.sig.returnType = none) (hm : meth.name = yX9_drafts.name)  {k4 : Nat → Int32 → Int32 → M Unit} (hk4 : ∀ (a0 : Nat) (i1 : Int32) (i3 : Int32), Sm G (QM G rvU below args s h0 r h') p l e R s m args below meth c 4 h0 r h' 4 [(0, .ref a0), (1, .int i1), (3, .int i3)] [] (k4 a0 i1 i3)) (a0 : Nat) (i1 : Int32) (i3 : Int32) : Sm G (QM G rvU below args s h0 r h') p l e R s m args below meth c 4 h0 r h' 4 [(0, .ref a0), (1, .int i1), (3, .int i3)] [] (X9_drafts_b4b  k4 a0 i1 i3) := by
  refine s_iload_n C 2 dX9_drafts_4 rfl rfl ?_
  refine s_if_lt (tgt := 40) C dX9_drafts_5 (by decide) ?_ ?_
  · exact s_vret C hr rfl dX9_drafts_40
  refine s_aload_n C 0 dX9_drafts_8 rfl rfl ?_
  refine s_gR C ci12 13 (by decide) (Or.inl wd_6_128) dX9_drafts_9 (fun y1 => ?_)
  refine s_aload_n C 0 dX9_drafts_12 rfl rfl ?_
  refine s_gI C ci12 14 (by decide) (Or.inl wd_6_129) dX9_drafts_13 (fun x2 => ?_)
  refine s_iload_n C 1 dX9_drafts_16 rfl rfl ?_
  refine s_bipush (v := 8) C dX9_drafts_17 (by decide) ?_
  refine s_iload_n C 2 dX9_drafts_19 rfl rfl ?_
  refine s_imul C dX9_drafts_20 ?_
  refine s_ishr C dX9_drafts_21 ?_
  refine s_i2b C dX9_drafts_22 ?_
  refine s_as21 C dX9_drafts_23 ?_
  refine s_aload_n C 0 dX9_drafts_24 rfl rfl ?_
  refine s_dup C dX9_drafts_25 rfl ?_
  refine s_gI C ci12 14 (by decide) (Or.inl wd_6_129) dX9_drafts_26 (fun x3 => ?_)
  refine s_iconst (v := 1) C dX9_drafts_29 (by decide) ?_
  refine s_iadd C dX9_drafts_30 ?_
  refine s_pV C ci12 14 (by decide) rfl (Or.inl wd_6_129) dX9_drafts_31 rfl rfl ?_
  refine s_iincK (lv' := [(3, .int (i3 + (-1))), (0, .ref a0), (1, .int i1)]) (w := (-1)) C 2 dX9_drafts_34 rfl (by decide) (by decide) rfl ?_
  refine s_goto (tgt := 4) C dX9_drafts_37 (by decide) ?_
  refine s_sub [1, 2, 0] rfl ?_
  exact hk4 a0 i1 (i3 + (-1))
set_option maxRecDepth 20000 in
theorem X9_drafts_b4_s (C : Cx G p R s m args meth c cX9_drafts 4 yX9_drafts.cls h0 h') (hF : R.frames = 0) (hO : R.locals = 0) (hr : meth.sig.returnType = none) (hm : meth.name = yX9_drafts.name)  (n : Nat) : ∀ (a0 : Nat) (i1 : Int32) (i3 : Int32), Sm G (QM G rvU below args s h0 r h') p l e R s m args below meth c 4 h0 r h' 4 [(0, .ref a0), (1, .int i1), (3, .int i3)] [] (X9_drafts_b4  n a0 i1 i3) := by
  induction n with
  | zero => intro a0 i1 i3; exact s_fl
  | succ n ih => intro a0 i1 i3; exact X9_drafts_b4b_s C hF hO hr hm  ih a0 i1 i3
end
set_option maxRecDepth 20000 in
theorem con_X9_drafts (l : Launch) (G : Gx) (a0 : Nat) (i1 : Int32) (i2 : Int32) : Con G rvU l yX9_drafts cX9_drafts 4 none 0 0 [.ref a0, .int i1, .int i2] (X9_drafts a0 i1 i2) := by
  refine con_of (lv := [(0, .ref a0), (1, .int i1), (2, .int i2)]) (by decide) (Nat.le_of_ble_eq_true rfl) rfl (fun p e R s m args below meth c h0 r h' C hF hO hr hm => ?_)
  refine s_iload_n C 2 dX9_drafts_0 rfl rfl ?_
  refine s_iconst (v := 1) C dX9_drafts_1 (by decide) ?_
  refine s_isub C dX9_drafts_2 ?_
  refine s_let (fun x1 => ?_)
  refine s_istore_n (lv' := [(3, .int x1), (0, .ref a0), (1, .int i1), (2, .int i2)]) C dX9_drafts_3 rfl (by decide) rfl ?_
  refine s_sub [1, 2, 0] rfl ?_
  exact X9_drafts_b4_s C hF hO hr hm  FU a0 i1 x1

theorem dX9_number4_0 : decode cX9_number4 0 = .ok (.aload_n 0, 1) := by decide +kernel
theorem dX9_number4_1 : decode cX9_number4 1 = .ok (.iload_n 1, 1) := by decide +kernel
theorem dX9_number4_2 : decode cX9_number4 2 = .ok (.baload, 1) := by decide +kernel
theorem dX9_number4_3 : decode cX9_number4 3 = .ok (.sipush 255, 3) := by decide +kernel
theorem dX9_number4_6 : decode cX9_number4 6 = .ok (.iand, 1) := by decide +kernel
theorem dX9_number4_7 : decode cX9_number4 7 = .ok (.bipush 24, 2) := by decide +kernel
theorem dX9_number4_9 : decode cX9_number4 9 = .ok (.ishl, 1) := by decide +kernel
theorem dX9_number4_10 : decode cX9_number4 10 = .ok (.aload_n 0, 1) := by decide +kernel
theorem dX9_number4_11 : decode cX9_number4 11 = .ok (.iload_n 1, 1) := by decide +kernel
theorem dX9_number4_12 : decode cX9_number4 12 = .ok (.iconst 1, 1) := by decide +kernel
theorem dX9_number4_13 : decode cX9_number4 13 = .ok (.iadd, 1) := by decide +kernel
theorem dX9_number4_14 : decode cX9_number4 14 = .ok (.baload, 1) := by decide +kernel
theorem dX9_number4_15 : decode cX9_number4 15 = .ok (.sipush 255, 3) := by decide +kernel
theorem dX9_number4_18 : decode cX9_number4 18 = .ok (.iand, 1) := by decide +kernel
theorem dX9_number4_19 : decode cX9_number4 19 = .ok (.bipush 16, 2) := by decide +kernel
theorem dX9_number4_21 : decode cX9_number4 21 = .ok (.ishl, 1) := by decide +kernel
theorem dX9_number4_22 : decode cX9_number4 22 = .ok (.ior, 1) := by decide +kernel
theorem dX9_number4_23 : decode cX9_number4 23 = .ok (.aload_n 0, 1) := by decide +kernel
theorem dX9_number4_24 : decode cX9_number4 24 = .ok (.iload_n 1, 1) := by decide +kernel
theorem dX9_number4_25 : decode cX9_number4 25 = .ok (.iconst 2, 1) := by decide +kernel
theorem dX9_number4_26 : decode cX9_number4 26 = .ok (.iadd, 1) := by decide +kernel
theorem dX9_number4_27 : decode cX9_number4 27 = .ok (.baload, 1) := by decide +kernel
theorem dX9_number4_28 : decode cX9_number4 28 = .ok (.sipush 255, 3) := by decide +kernel
theorem dX9_number4_31 : decode cX9_number4 31 = .ok (.iand, 1) := by decide +kernel
theorem dX9_number4_32 : decode cX9_number4 32 = .ok (.bipush 8, 2) := by decide +kernel
theorem dX9_number4_34 : decode cX9_number4 34 = .ok (.ishl, 1) := by decide +kernel
theorem dX9_number4_35 : decode cX9_number4 35 = .ok (.ior, 1) := by decide +kernel
theorem dX9_number4_36 : decode cX9_number4 36 = .ok (.aload_n 0, 1) := by decide +kernel
theorem dX9_number4_37 : decode cX9_number4 37 = .ok (.iload_n 1, 1) := by decide +kernel
theorem dX9_number4_38 : decode cX9_number4 38 = .ok (.iconst 3, 1) := by decide +kernel
theorem dX9_number4_39 : decode cX9_number4 39 = .ok (.iadd, 1) := by decide +kernel
theorem dX9_number4_40 : decode cX9_number4 40 = .ok (.baload, 1) := by decide +kernel
theorem dX9_number4_41 : decode cX9_number4 41 = .ok (.sipush 255, 3) := by decide +kernel
theorem dX9_number4_44 : decode cX9_number4 44 = .ok (.iand, 1) := by decide +kernel
theorem dX9_number4_45 : decode cX9_number4 45 = .ok (.ior, 1) := by decide +kernel
theorem dX9_number4_46 : decode cX9_number4 46 = .ok (.ireturn, 1) := by decide +kernel
def X9_number4 (a0 : Nat) (i1 : Int32) : M Int32 := bd (al 21 a0 i1) (fun x1 => bd (al 21 a0 (i1 + 1)) (fun x2 => bd (al 21 a0 (i1 + 2)) (fun x3 => bd (al 21 a0 (i1 + 3)) (fun x4 => pu (((((x1 &&& 255) <<< (24 &&& 31)) ||| ((x2 &&& 255) <<< (16 &&& 31))) ||| ((x3 &&& 255) <<< (8 &&& 31))) ||| (x4 &&& 255))))))
section
variable {G : Gx} {p : Program} {l : Launch} {e : Env} {R : Room} {s : State} {m : MethodId} {args : Array Value} {below : List Frame} {meth : Method} {c : Code} {h0 : Hp} {r : Int32} {h' : Hp}
end
set_option maxRecDepth 20000 in
theorem con_X9_number4 (l : Launch) (G : Gx) (a0 : Nat) (i1 : Int32) : Con G rvI l yX9_number4 cX9_number4 2 (some .int) 0 0 [.ref a0, .int i1] (X9_number4 a0 i1) := by
  refine con_of (lv := [(0, .ref a0), (1, .int i1)]) (by decide) (Nat.le_of_ble_eq_true rfl) rfl (fun p e R s m args below meth c h0 r h' C hF hO hr hm => ?_)
  refine s_aload_n C 0 dX9_number4_0 rfl rfl ?_
  refine s_iload_n C 1 dX9_number4_1 rfl rfl ?_
  refine s_al21 C dX9_number4_2 (fun x1 => ?_)
  refine s_sipush (v := 255) C dX9_number4_3 (by decide) ?_
  refine s_iand C dX9_number4_6 ?_
  refine s_bipush (v := 24) C dX9_number4_7 (by decide) ?_
  refine s_ishl C dX9_number4_9 ?_
  refine s_aload_n C 0 dX9_number4_10 rfl rfl ?_
  refine s_iload_n C 1 dX9_number4_11 rfl rfl ?_
  refine s_iconst (v := 1) C dX9_number4_12 (by decide) ?_
  refine s_iadd C dX9_number4_13 ?_
  refine s_al21 C dX9_number4_14 (fun x2 => ?_)
  refine s_sipush (v := 255) C dX9_number4_15 (by decide) ?_
  refine s_iand C dX9_number4_18 ?_
  refine s_bipush (v := 16) C dX9_number4_19 (by decide) ?_
  refine s_ishl C dX9_number4_21 ?_
  refine s_ior C dX9_number4_22 ?_
  refine s_aload_n C 0 dX9_number4_23 rfl rfl ?_
  refine s_iload_n C 1 dX9_number4_24 rfl rfl ?_
  refine s_iconst (v := 2) C dX9_number4_25 (by decide) ?_
  refine s_iadd C dX9_number4_26 ?_
  refine s_al21 C dX9_number4_27 (fun x3 => ?_)
  refine s_sipush (v := 255) C dX9_number4_28 (by decide) ?_
  refine s_iand C dX9_number4_31 ?_
  refine s_bipush (v := 8) C dX9_number4_32 (by decide) ?_
  refine s_ishl C dX9_number4_34 ?_
  refine s_ior C dX9_number4_35 ?_
  refine s_aload_n C 0 dX9_number4_36 rfl rfl ?_
  refine s_iload_n C 1 dX9_number4_37 rfl rfl ?_
  refine s_iconst (v := 3) C dX9_number4_38 (by decide) ?_
  refine s_iadd C dX9_number4_39 ?_
  refine s_al21 C dX9_number4_40 (fun x4 => ?_)
  refine s_sipush (v := 255) C dX9_number4_41 (by decide) ?_
  refine s_iand C dX9_number4_44 ?_
  refine s_ior C dX9_number4_45 ?_
  exact s_iret C hr rfl dX9_number4_46

theorem dX9_number2_0 : decode cX9_number2 0 = .ok (.aload_n 0, 1) := by decide +kernel
theorem dX9_number2_1 : decode cX9_number2 1 = .ok (.iload_n 1, 1) := by decide +kernel
theorem dX9_number2_2 : decode cX9_number2 2 = .ok (.baload, 1) := by decide +kernel
theorem dX9_number2_3 : decode cX9_number2 3 = .ok (.sipush 255, 3) := by decide +kernel
theorem dX9_number2_6 : decode cX9_number2 6 = .ok (.iand, 1) := by decide +kernel
theorem dX9_number2_7 : decode cX9_number2 7 = .ok (.bipush 8, 2) := by decide +kernel
theorem dX9_number2_9 : decode cX9_number2 9 = .ok (.ishl, 1) := by decide +kernel
theorem dX9_number2_10 : decode cX9_number2 10 = .ok (.aload_n 0, 1) := by decide +kernel
theorem dX9_number2_11 : decode cX9_number2 11 = .ok (.iload_n 1, 1) := by decide +kernel
theorem dX9_number2_12 : decode cX9_number2 12 = .ok (.iconst 1, 1) := by decide +kernel
theorem dX9_number2_13 : decode cX9_number2 13 = .ok (.iadd, 1) := by decide +kernel
theorem dX9_number2_14 : decode cX9_number2 14 = .ok (.baload, 1) := by decide +kernel
theorem dX9_number2_15 : decode cX9_number2 15 = .ok (.sipush 255, 3) := by decide +kernel
theorem dX9_number2_18 : decode cX9_number2 18 = .ok (.iand, 1) := by decide +kernel
theorem dX9_number2_19 : decode cX9_number2 19 = .ok (.ior, 1) := by decide +kernel
theorem dX9_number2_20 : decode cX9_number2 20 = .ok (.i2s, 1) := by decide +kernel
theorem dX9_number2_21 : decode cX9_number2 21 = .ok (.ireturn, 1) := by decide +kernel
def X9_number2 (a0 : Nat) (i1 : Int32) : M Int32 := bd (al 21 a0 i1) (fun x1 => bd (al 21 a0 (i1 + 1)) (fun x2 => pu (((((x1 &&& 255) <<< (8 &&& 31)) ||| (x2 &&& 255)) : Int32).toInt16.toInt32)))
section
variable {G : Gx} {p : Program} {l : Launch} {e : Env} {R : Room} {s : State} {m : MethodId} {args : Array Value} {below : List Frame} {meth : Method} {c : Code} {h0 : Hp} {r : Int32} {h' : Hp}
end
set_option maxRecDepth 20000 in
theorem con_X9_number2 (l : Launch) (G : Gx) (a0 : Nat) (i1 : Int32) : Con G rvI l yX9_number2 cX9_number2 2 (some .int) 0 0 [.ref a0, .int i1] (X9_number2 a0 i1) := by
  refine con_of (lv := [(0, .ref a0), (1, .int i1)]) (by decide) (Nat.le_of_ble_eq_true rfl) rfl (fun p e R s m args below meth c h0 r h' C hF hO hr hm => ?_)
  refine s_aload_n C 0 dX9_number2_0 rfl rfl ?_
  refine s_iload_n C 1 dX9_number2_1 rfl rfl ?_
  refine s_al21 C dX9_number2_2 (fun x1 => ?_)
  refine s_sipush (v := 255) C dX9_number2_3 (by decide) ?_
  refine s_iand C dX9_number2_6 ?_
  refine s_bipush (v := 8) C dX9_number2_7 (by decide) ?_
  refine s_ishl C dX9_number2_9 ?_
  refine s_aload_n C 0 dX9_number2_10 rfl rfl ?_
  refine s_iload_n C 1 dX9_number2_11 rfl rfl ?_
  refine s_iconst (v := 1) C dX9_number2_12 (by decide) ?_
  refine s_iadd C dX9_number2_13 ?_
  refine s_al21 C dX9_number2_14 (fun x2 => ?_)
  refine s_sipush (v := 255) C dX9_number2_15 (by decide) ?_
  refine s_iand C dX9_number2_18 ?_
  refine s_ior C dX9_number2_19 ?_
  refine s_i2s C dX9_number2_20 ?_
  exact s_iret C hr rfl dX9_number2_21

theorem dX9_sum_0 : decode cX9_sum 0 = .ok (.iconst (-1), 1) := by decide +kernel
theorem dX9_sum_1 : decode cX9_sum 1 = .ok (.istore_n 3, 1) := by decide +kernel
theorem dX9_sum_2 : decode cX9_sum 2 = .ok (.iload_n 1, 1) := by decide +kernel
theorem dX9_sum_3 : decode cX9_sum 3 = .ok (.istore 4, 2) := by decide +kernel
theorem dX9_sum_5 : decode cX9_sum 5 = .ok (.iload 4, 2) := by decide +kernel
theorem dX9_sum_7 : decode cX9_sum 7 = .ok (.iload_n 2, 1) := by decide +kernel
theorem dX9_sum_8 : decode cX9_sum 8 = .ok (.if_icmp .ge 56, 3) := by decide +kernel
theorem dX9_sum_11 : decode cX9_sum 11 = .ok (.iload_n 3, 1) := by decide +kernel
theorem dX9_sum_12 : decode cX9_sum 12 = .ok (.aload_n 0, 1) := by decide +kernel
theorem dX9_sum_13 : decode cX9_sum 13 = .ok (.iload 4, 2) := by decide +kernel
theorem dX9_sum_15 : decode cX9_sum 15 = .ok (.baload, 1) := by decide +kernel
theorem dX9_sum_16 : decode cX9_sum 16 = .ok (.sipush 255, 3) := by decide +kernel
theorem dX9_sum_19 : decode cX9_sum 19 = .ok (.iand, 1) := by decide +kernel
theorem dX9_sum_20 : decode cX9_sum 20 = .ok (.ixor, 1) := by decide +kernel
theorem dX9_sum_21 : decode cX9_sum 21 = .ok (.istore_n 3, 1) := by decide +kernel
theorem dX9_sum_22 : decode cX9_sum 22 = .ok (.iconst 0, 1) := by decide +kernel
theorem dX9_sum_23 : decode cX9_sum 23 = .ok (.istore 5, 2) := by decide +kernel
theorem dX9_sum_25 : decode cX9_sum 25 = .ok (.iload 5, 2) := by decide +kernel
theorem dX9_sum_27 : decode cX9_sum 27 = .ok (.bipush 8, 2) := by decide +kernel
theorem dX9_sum_29 : decode cX9_sum 29 = .ok (.if_icmp .ge 29, 3) := by decide +kernel
theorem dX9_sum_32 : decode cX9_sum 32 = .ok (.iload_n 3, 1) := by decide +kernel
theorem dX9_sum_33 : decode cX9_sum 33 = .ok (.iconst 1, 1) := by decide +kernel
theorem dX9_sum_34 : decode cX9_sum 34 = .ok (.iand, 1) := by decide +kernel
theorem dX9_sum_35 : decode cX9_sum 35 = .ok (.iconst 1, 1) := by decide +kernel
theorem dX9_sum_36 : decode cX9_sum 36 = .ok (.if_icmp .ne 12, 3) := by decide +kernel
theorem dX9_sum_39 : decode cX9_sum 39 = .ok (.iload_n 3, 1) := by decide +kernel
theorem dX9_sum_40 : decode cX9_sum 40 = .ok (.iconst 1, 1) := by decide +kernel
theorem dX9_sum_41 : decode cX9_sum 41 = .ok (.iushr, 1) := by decide +kernel
theorem dX9_sum_42 : decode cX9_sum 42 = .ok (.ldc 163, 2) := by decide +kernel
theorem dX9_sum_44 : decode cX9_sum 44 = .ok (.ixor, 1) := by decide +kernel
theorem dX9_sum_45 : decode cX9_sum 45 = .ok (.goto 6, 3) := by decide +kernel
theorem dX9_sum_48 : decode cX9_sum 48 = .ok (.iload_n 3, 1) := by decide +kernel
theorem dX9_sum_49 : decode cX9_sum 49 = .ok (.iconst 1, 1) := by decide +kernel
theorem dX9_sum_50 : decode cX9_sum 50 = .ok (.iushr, 1) := by decide +kernel
theorem dX9_sum_51 : decode cX9_sum 51 = .ok (.istore_n 3, 1) := by decide +kernel
theorem dX9_sum_52 : decode cX9_sum 52 = .ok (.iinc 5 1, 3) := by decide +kernel
theorem dX9_sum_55 : decode cX9_sum 55 = .ok (.goto (-30), 3) := by decide +kernel
theorem dX9_sum_58 : decode cX9_sum 58 = .ok (.iinc 4 1, 3) := by decide +kernel
theorem dX9_sum_61 : decode cX9_sum 61 = .ok (.goto (-56), 3) := by decide +kernel
theorem dX9_sum_64 : decode cX9_sum 64 = .ok (.iload_n 3, 1) := by decide +kernel
theorem dX9_sum_65 : decode cX9_sum 65 = .ok (.iconst (-1), 1) := by decide +kernel
theorem dX9_sum_66 : decode cX9_sum 66 = .ok (.ixor, 1) := by decide +kernel
theorem dX9_sum_67 : decode cX9_sum 67 = .ok (.ireturn, 1) := by decide +kernel
def X9_sum_b51 (k25 : Nat → Int32 → Int32 → Int32 → Int32 → M Int32)  (a0 : Nat) (i2 : Int32) (i4 : Int32) (i5 : Int32) (s0 : Int32) : M Int32 := k25 a0 i2 s0 i4 (i5 + 1)
def X9_sum_b25b (k5 : Nat → Int32 → Int32 → Int32 → M Int32) (k25 : Nat → Int32 → Int32 → Int32 → Int32 → M Int32) (a0 : Nat) (i2 : Int32) (i3 : Int32) (i4 : Int32) (i5 : Int32) : M Int32 := it (8 ≤ i5) (k5 a0 i2 i3 (i4 + 1)) (it (¬ (i3 &&& 1) = 1) (X9_sum_b51 k25  a0 i2 i4 i5 (ush i3 1)) (X9_sum_b51 k25  a0 i2 i4 i5 ((ush i3 1) ^^^ (-306674912))))
def X9_sum_b25 (k5 : Nat → Int32 → Int32 → Int32 → M Int32) : Nat → Nat → Int32 → Int32 → Int32 → Int32 → M Int32
  | 0 => fun _ _ _ _ _ => fl
  | n + 1 => fun a0 i2 i3 i4 i5 => X9_sum_b25b k5 (X9_sum_b25 k5 n) a0 i2 i3 i4 i5
def X9_sum_b5b  (k5 : Nat → Int32 → Int32 → Int32 → M Int32) (a0 : Nat) (i2 : Int32) (i3 : Int32) (i4 : Int32) : M Int32 := it (i2 ≤ i4) (pu (i3 ^^^ (-1))) (bd (al 21 a0 i4) (fun x1 => bd (pu (i3 ^^^ (x1 &&& 255))) (fun x2 => X9_sum_b25 k5 FU a0 i2 x2 i4 0)))
def X9_sum_b5  : Nat → Nat → Int32 → Int32 → Int32 → M Int32
  | 0 => fun _ _ _ _ => fl
  | n + 1 => fun a0 i2 i3 i4 => X9_sum_b5b  (X9_sum_b5  n) a0 i2 i3 i4
def X9_sum (a0 : Nat) (i1 : Int32) (i2 : Int32) : M Int32 := bd (pu (-1)) (fun x1 => X9_sum_b5  FU a0 i2 x1 i1)
section
variable {G : Gx} {p : Program} {l : Launch} {e : Env} {R : Room} {s : State} {m : MethodId} {args : Array Value} {below : List Frame} {meth : Method} {c : Code} {h0 : Hp} {r : Int32} {h' : Hp}
set_option maxRecDepth 20000 in
theorem X9_sum_b51_s (C : Cx G p R s m args meth c cX9_sum 6 yX9_sum.cls h0 h') (hF : R.frames = 0) (hO : R.locals = 0) (hr : meth.sig.returnType = (some .int)) (hm : meth.name = yX9_sum.name) {k25 : Nat → Int32 → Int32 → Int32 → Int32 → M Int32} (hk25 : ∀ (a0 : Nat) (i2 : Int32) (i3 : Int32) (i4 : Int32) (i5 : Int32), Sm G (QM G rvI below args s h0 r h') p l e R s m args below meth c 6 h0 r h' 25 [(0, .ref a0), (2, .int i2), (3, .int i3), (4, .int i4), (5, .int i5)] [] (k25 a0 i2 i3 i4 i5))  (a0 : Nat) (i2 : Int32) (i4 : Int32) (i5 : Int32) (s0 : Int32) : Sm G (QM G rvI below args s h0 r h') p l e R s m args below meth c 6 h0 r h' 51 [(0, .ref a0), (2, .int i2), (4, .int i4), (5, .int i5)] [.int s0] (X9_sum_b51 k25  a0 i2 i4 i5 s0) := by
  refine s_istore_n (lv' := [(3, .int s0), (0, .ref a0), (2, .int i2), (4, .int i4), (5, .int i5)]) C dX9_sum_51 rfl (by decide) rfl ?_
  refine s_iincK (lv' := [(5, .int (i5 + 1)), (3, .int s0), (0, .ref a0), (2, .int i2), (4, .int i4)]) (w := 1) C 4 dX9_sum_52 rfl (by decide) (by decide) rfl ?_
  refine s_goto (tgt := 25) C dX9_sum_55 (by decide) ?_
  refine s_sub [2, 3, 1, 4, 0] rfl ?_
  exact hk25 a0 i2 s0 i4 (i5 + 1)
set_option maxRecDepth 20000 in
theorem X9_sum_b25b_s (C : Cx G p R s m args meth c cX9_sum 6 yX9_sum.cls h0 h') (hF : R.frames = 0) (hO : R.locals = 0) (hr : meth.sig.returnType = (some .int)) (hm : meth.name = yX9_sum.name) {k5 : Nat → Int32 → Int32 → Int32 → M Int32} (hk5 : ∀ (a0 : Nat) (i2 : Int32) (i3 : Int32) (i4 : Int32), Sm G (QM G rvI below args s h0 r h') p l e R s m args below meth c 6 h0 r h' 5 [(0, .ref a0), (2, .int i2), (3, .int i3), (4, .int i4)] [] (k5 a0 i2 i3 i4)) {k25 : Nat → Int32 → Int32 → Int32 → Int32 → M Int32} (hk25 : ∀ (a0 : Nat) (i2 : Int32) (i3 : Int32) (i4 : Int32) (i5 : Int32), Sm G (QM G rvI below args s h0 r h') p l e R s m args below meth c 6 h0 r h' 25 [(0, .ref a0), (2, .int i2), (3, .int i3), (4, .int i4), (5, .int i5)] [] (k25 a0 i2 i3 i4 i5)) (a0 : Nat) (i2 : Int32) (i3 : Int32) (i4 : Int32) (i5 : Int32) : Sm G (QM G rvI below args s h0 r h') p l e R s m args below meth c 6 h0 r h' 25 [(0, .ref a0), (2, .int i2), (3, .int i3), (4, .int i4), (5, .int i5)] [] (X9_sum_b25b k5 k25 a0 i2 i3 i4 i5) := by
  refine s_iload C 4 dX9_sum_25 rfl ?_
  refine s_bipush (v := 8) C dX9_sum_27 (by decide) ?_
  refine s_icmp_ge (tgt := 58) C dX9_sum_29 (by decide) ?_ ?_
  · refine s_iincK (lv' := [(4, .int (i4 + 1)), (0, .ref a0), (2, .int i2), (3, .int i3), (5, .int i5)]) (w := 1) C 3 dX9_sum_58 rfl (by decide) (by decide) rfl ?_
    refine s_goto (tgt := 5) C dX9_sum_61 (by decide) ?_
    refine s_sub [1, 2, 3, 0] rfl ?_
    exact hk5 a0 i2 i3 (i4 + 1)
  refine s_iload_n C 2 dX9_sum_32 rfl rfl ?_
  refine s_iconst (v := 1) C dX9_sum_33 (by decide) ?_
  refine s_iand C dX9_sum_34 ?_
  refine s_iconst (v := 1) C dX9_sum_35 (by decide) ?_
  refine s_icmp_ne (tgt := 48) C dX9_sum_36 (by decide) ?_ ?_
  · refine s_iload_n C 2 dX9_sum_48 rfl rfl ?_
    refine s_iconst (v := 1) C dX9_sum_49 (by decide) ?_
    refine s_iushr C dX9_sum_50 ?_
    refine s_sub [0, 1, 3, 4] rfl ?_
    exact X9_sum_b51_s C hF hO hr hm hk25  a0 i2 i4 i5 (ush i3 1)
  refine s_iload_n C 2 dX9_sum_39 rfl rfl ?_
  refine s_iconst (v := 1) C dX9_sum_40 (by decide) ?_
  refine s_iushr C dX9_sum_41 ?_
  refine s_ldc C dX9_sum_42 wd_7_91 ?_
  refine s_ixor C dX9_sum_44 ?_
  refine s_goto (tgt := 51) C dX9_sum_45 (by decide) ?_
  refine s_sub [0, 1, 3, 4] rfl ?_
  exact X9_sum_b51_s C hF hO hr hm hk25  a0 i2 i4 i5 ((ush i3 1) ^^^ (-306674912))
set_option maxRecDepth 20000 in
theorem X9_sum_b25_s (C : Cx G p R s m args meth c cX9_sum 6 yX9_sum.cls h0 h') (hF : R.frames = 0) (hO : R.locals = 0) (hr : meth.sig.returnType = (some .int)) (hm : meth.name = yX9_sum.name) {k5 : Nat → Int32 → Int32 → Int32 → M Int32} (hk5 : ∀ (a0 : Nat) (i2 : Int32) (i3 : Int32) (i4 : Int32), Sm G (QM G rvI below args s h0 r h') p l e R s m args below meth c 6 h0 r h' 5 [(0, .ref a0), (2, .int i2), (3, .int i3), (4, .int i4)] [] (k5 a0 i2 i3 i4)) (n : Nat) : ∀ (a0 : Nat) (i2 : Int32) (i3 : Int32) (i4 : Int32) (i5 : Int32), Sm G (QM G rvI below args s h0 r h') p l e R s m args below meth c 6 h0 r h' 25 [(0, .ref a0), (2, .int i2), (3, .int i3), (4, .int i4), (5, .int i5)] [] (X9_sum_b25 k5 n a0 i2 i3 i4 i5) := by
  induction n with
  | zero => intro a0 i2 i3 i4 i5; exact s_fl
  | succ n ih => intro a0 i2 i3 i4 i5; exact X9_sum_b25b_s C hF hO hr hm hk5 ih a0 i2 i3 i4 i5
set_option maxRecDepth 20000 in
theorem X9_sum_b5b_s (C : Cx G p R s m args meth c cX9_sum 6 yX9_sum.cls h0 h') (hF : R.frames = 0) (hO : R.locals = 0) (hr : meth.sig.returnType = (some .int)) (hm : meth.name = yX9_sum.name)  {k5 : Nat → Int32 → Int32 → Int32 → M Int32} (hk5 : ∀ (a0 : Nat) (i2 : Int32) (i3 : Int32) (i4 : Int32), Sm G (QM G rvI below args s h0 r h') p l e R s m args below meth c 6 h0 r h' 5 [(0, .ref a0), (2, .int i2), (3, .int i3), (4, .int i4)] [] (k5 a0 i2 i3 i4)) (a0 : Nat) (i2 : Int32) (i3 : Int32) (i4 : Int32) : Sm G (QM G rvI below args s h0 r h') p l e R s m args below meth c 6 h0 r h' 5 [(0, .ref a0), (2, .int i2), (3, .int i3), (4, .int i4)] [] (X9_sum_b5b  k5 a0 i2 i3 i4) := by
  refine s_iload C 3 dX9_sum_5 rfl ?_
  refine s_iload_n C 1 dX9_sum_7 rfl rfl ?_
  refine s_icmp_ge (tgt := 64) C dX9_sum_8 (by decide) ?_ ?_
  · refine s_iload_n C 2 dX9_sum_64 rfl rfl ?_
    refine s_iconst (v := (-1)) C dX9_sum_65 (by decide) ?_
    refine s_ixor C dX9_sum_66 ?_
    exact s_iret C hr rfl dX9_sum_67
  refine s_iload_n C 2 dX9_sum_11 rfl rfl ?_
  refine s_aload_n C 0 dX9_sum_12 rfl rfl ?_
  refine s_iload C 3 dX9_sum_13 rfl ?_
  refine s_al21 C dX9_sum_15 (fun x1 => ?_)
  refine s_sipush (v := 255) C dX9_sum_16 (by decide) ?_
  refine s_iand C dX9_sum_19 ?_
  refine s_ixor C dX9_sum_20 ?_
  refine s_let (fun x2 => ?_)
  refine s_istore_n (lv' := [(3, .int x2), (0, .ref a0), (2, .int i2), (4, .int i4)]) C dX9_sum_21 rfl (by decide) rfl ?_
  refine s_iconst (v := 0) C dX9_sum_22 (by decide) ?_
  refine s_istore (lv' := [(5, .int 0), (3, .int x2), (0, .ref a0), (2, .int i2), (4, .int i4)]) C dX9_sum_23 (by decide) rfl ?_
  refine s_sub [2, 3, 1, 4, 0] rfl ?_
  exact X9_sum_b25_s C hF hO hr hm hk5 FU a0 i2 x2 i4 0
set_option maxRecDepth 20000 in
theorem X9_sum_b5_s (C : Cx G p R s m args meth c cX9_sum 6 yX9_sum.cls h0 h') (hF : R.frames = 0) (hO : R.locals = 0) (hr : meth.sig.returnType = (some .int)) (hm : meth.name = yX9_sum.name)  (n : Nat) : ∀ (a0 : Nat) (i2 : Int32) (i3 : Int32) (i4 : Int32), Sm G (QM G rvI below args s h0 r h') p l e R s m args below meth c 6 h0 r h' 5 [(0, .ref a0), (2, .int i2), (3, .int i3), (4, .int i4)] [] (X9_sum_b5  n a0 i2 i3 i4) := by
  induction n with
  | zero => intro a0 i2 i3 i4; exact s_fl
  | succ n ih => intro a0 i2 i3 i4; exact X9_sum_b5b_s C hF hO hr hm  ih a0 i2 i3 i4
end
set_option maxRecDepth 20000 in
theorem con_X9_sum (l : Launch) (G : Gx) (a0 : Nat) (i1 : Int32) (i2 : Int32) : Con G rvI l yX9_sum cX9_sum 6 (some .int) 0 0 [.ref a0, .int i1, .int i2] (X9_sum a0 i1 i2) := by
  refine con_of (lv := [(0, .ref a0), (1, .int i1), (2, .int i2)]) (by decide) (Nat.le_of_ble_eq_true rfl) rfl (fun p e R s m args below meth c h0 r h' C hF hO hr hm => ?_)
  refine s_iconst (v := (-1)) C dX9_sum_0 (by decide) ?_
  refine s_let (fun x1 => ?_)
  refine s_istore_n (lv' := [(3, .int x1), (0, .ref a0), (1, .int i1), (2, .int i2)]) C dX9_sum_1 rfl (by decide) rfl ?_
  refine s_iload_n C 2 dX9_sum_2 rfl rfl ?_
  refine s_istore (lv' := [(4, .int i1), (3, .int x1), (0, .ref a0), (1, .int i1), (2, .int i2)]) C dX9_sum_3 (by decide) rfl ?_
  refine s_sub [2, 4, 1, 0] rfl ?_
  exact X9_sum_b5_s C hF hO hr hm  FU a0 i2 x1 i1

theorem dX9_bytesOf_0 : decode cX9_bytesOf 0 = .ok (.bipush 14, 2) := by decide +kernel
theorem dX9_bytesOf_2 : decode cX9_bytesOf 2 = .ok (.iload_n 0, 1) := by decide +kernel
theorem dX9_bytesOf_3 : decode cX9_bytesOf 3 = .ok (.iadd, 1) := by decide +kernel
theorem dX9_bytesOf_4 : decode cX9_bytesOf 4 = .ok (.iload_n 1, 1) := by decide +kernel
theorem dX9_bytesOf_5 : decode cX9_bytesOf 5 = .ok (.iconst 0, 1) := by decide +kernel
theorem dX9_bytesOf_6 : decode cX9_bytesOf 6 = .ok (.invokestatic 164, 3) := by decide +kernel
theorem dX9_bytesOf_9 : decode cX9_bytesOf 9 = .ok (.iadd, 1) := by decide +kernel
theorem dX9_bytesOf_10 : decode cX9_bytesOf 10 = .ok (.ireturn, 1) := by decide +kernel
def X9_bytesOf (i0 : Int32) (i1 : Int32) : M Int32 := pu ((14 + i0) + (imx i1 0))
section
variable {G : Gx} {p : Program} {l : Launch} {e : Env} {R : Room} {s : State} {m : MethodId} {args : Array Value} {below : List Frame} {meth : Method} {c : Code} {h0 : Hp} {r : Int32} {h' : Hp}
end
set_option maxRecDepth 20000 in
theorem con_X9_bytesOf (l : Launch) (G : Gx) (i0 : Int32) (i1 : Int32) : Con G rvI l yX9_bytesOf cX9_bytesOf 2 (some .int) 1 30 [.int i0, .int i1] (X9_bytesOf i0 i1) := by
  refine con_of (lv := [(0, .int i0), (1, .int i1)]) (by decide) (Nat.le_of_ble_eq_true rfl) rfl (fun p e R s m args below meth c h0 r h' C hF hO hr hm => ?_)
  refine s_bipush (v := 14) C dX9_bytesOf_0 (by decide) ?_
  refine s_iload_n C 0 dX9_bytesOf_2 rfl rfl ?_
  refine s_iadd C dX9_bytesOf_3 ?_
  refine s_iload_n C 1 dX9_bytesOf_4 rfl rfl ?_
  refine s_iconst (v := 0) C dX9_bytesOf_5 (by decide) ?_
  refine s_mmax C wd_7_58 wd_2_18 wd_1_14 wd_2_19 (by rw [hF]; decide) (by rw [hO]; exact Nat.le_of_ble_eq_true rfl) dX9_bytesOf_6 ?_
  refine s_iadd C dX9_bytesOf_9 ?_
  exact s_iret C hr rfl dX9_bytesOf_10

theorem dX9_isTold_0 : decode cX9_isTold 0 = .ok (.iload_n 0, 1) := by decide +kernel
theorem dX9_isTold_1 : decode cX9_isTold 1 = .ok (.iconst 1, 1) := by decide +kernel
theorem dX9_isTold_2 : decode cX9_isTold 2 = .ok (.if_icmp .lt 35, 3) := by decide +kernel
theorem dX9_isTold_5 : decode cX9_isTold 5 = .ok (.iload_n 0, 1) := by decide +kernel
theorem dX9_isTold_6 : decode cX9_isTold 6 = .ok (.ldc 169, 2) := by decide +kernel
theorem dX9_isTold_8 : decode cX9_isTold 8 = .ok (.if_icmp .gt 29, 3) := by decide +kernel
theorem dX9_isTold_11 : decode cX9_isTold 11 = .ok (.iload_n 1, 1) := by decide +kernel
theorem dX9_isTold_12 : decode cX9_isTold 12 = .ok (.iconst 1, 1) := by decide +kernel
theorem dX9_isTold_13 : decode cX9_isTold 13 = .ok (.if_icmp .lt 24, 3) := by decide +kernel
theorem dX9_isTold_16 : decode cX9_isTold 16 = .ok (.iload_n 1, 1) := by decide +kernel
theorem dX9_isTold_17 : decode cX9_isTold 17 = .ok (.bipush 16, 2) := by decide +kernel
theorem dX9_isTold_19 : decode cX9_isTold 19 = .ok (.if_icmp .gt 18, 3) := by decide +kernel
theorem dX9_isTold_22 : decode cX9_isTold 22 = .ok (.iload_n 2, 1) := by decide +kernel
theorem dX9_isTold_23 : decode cX9_isTold 23 = .ok (.iconst (-1), 1) := by decide +kernel
theorem dX9_isTold_24 : decode cX9_isTold 24 = .ok (.if_icmp .lt 13, 3) := by decide +kernel
theorem dX9_isTold_27 : decode cX9_isTold 27 = .ok (.iload_n 2, 1) := by decide +kernel
theorem dX9_isTold_28 : decode cX9_isTold 28 = .ok (.bipush 64, 2) := by decide +kernel
theorem dX9_isTold_30 : decode cX9_isTold 30 = .ok (.if_icmp .gt 7, 3) := by decide +kernel
theorem dX9_isTold_33 : decode cX9_isTold 33 = .ok (.iconst 1, 1) := by decide +kernel
theorem dX9_isTold_34 : decode cX9_isTold 34 = .ok (.goto 4, 3) := by decide +kernel
theorem dX9_isTold_37 : decode cX9_isTold 37 = .ok (.iconst 0, 1) := by decide +kernel
theorem dX9_isTold_38 : decode cX9_isTold 38 = .ok (.ireturn, 1) := by decide +kernel
def X9_isTold (i0 : Int32) (i1 : Int32) (i2 : Int32) : M Int32 := it (i0 < 1) (pu 0) (it (1000000000 < i0) (pu 0) (it (i1 < 1) (pu 0) (it (16 < i1) (pu 0) (it (i2 < (-1)) (pu 0) (it (64 < i2) (pu 0) (pu 1))))))
section
variable {G : Gx} {p : Program} {l : Launch} {e : Env} {R : Room} {s : State} {m : MethodId} {args : Array Value} {below : List Frame} {meth : Method} {c : Code} {h0 : Hp} {r : Int32} {h' : Hp}
end
set_option maxRecDepth 20000 in
theorem con_X9_isTold (l : Launch) (G : Gx) (i0 : Int32) (i1 : Int32) (i2 : Int32) : Con G rvI l yX9_isTold cX9_isTold 3 (some .boolean) 0 0 [.int i0, .int i1, .int i2] (X9_isTold i0 i1 i2) := by
  refine con_of (lv := [(0, .int i0), (1, .int i1), (2, .int i2)]) (by decide) (Nat.le_of_ble_eq_true rfl) rfl (fun p e R s m args below meth c h0 r h' C hF hO hr hm => ?_)
  refine s_iload_n C 0 dX9_isTold_0 rfl rfl ?_
  refine s_iconst (v := 1) C dX9_isTold_1 (by decide) ?_
  refine s_icmp_lt (tgt := 37) C dX9_isTold_2 (by decide) ?_ ?_
  · refine s_iconst (v := 0) C dX9_isTold_37 (by decide) ?_
    exact s_zret C hr rfl (Or.inl rfl) dX9_isTold_38
  refine s_iload_n C 0 dX9_isTold_5 rfl rfl ?_
  refine s_ldc C dX9_isTold_6 wd_7_71 ?_
  refine s_icmp_gt (tgt := 37) C dX9_isTold_8 (by decide) ?_ ?_
  · refine s_iconst (v := 0) C dX9_isTold_37 (by decide) ?_
    exact s_zret C hr rfl (Or.inl rfl) dX9_isTold_38
  refine s_iload_n C 1 dX9_isTold_11 rfl rfl ?_
  refine s_iconst (v := 1) C dX9_isTold_12 (by decide) ?_
  refine s_icmp_lt (tgt := 37) C dX9_isTold_13 (by decide) ?_ ?_
  · refine s_iconst (v := 0) C dX9_isTold_37 (by decide) ?_
    exact s_zret C hr rfl (Or.inl rfl) dX9_isTold_38
  refine s_iload_n C 1 dX9_isTold_16 rfl rfl ?_
  refine s_bipush (v := 16) C dX9_isTold_17 (by decide) ?_
  refine s_icmp_gt (tgt := 37) C dX9_isTold_19 (by decide) ?_ ?_
  · refine s_iconst (v := 0) C dX9_isTold_37 (by decide) ?_
    exact s_zret C hr rfl (Or.inl rfl) dX9_isTold_38
  refine s_iload_n C 2 dX9_isTold_22 rfl rfl ?_
  refine s_iconst (v := (-1)) C dX9_isTold_23 (by decide) ?_
  refine s_icmp_lt (tgt := 37) C dX9_isTold_24 (by decide) ?_ ?_
  · refine s_iconst (v := 0) C dX9_isTold_37 (by decide) ?_
    exact s_zret C hr rfl (Or.inl rfl) dX9_isTold_38
  refine s_iload_n C 2 dX9_isTold_27 rfl rfl ?_
  refine s_bipush (v := 64) C dX9_isTold_28 (by decide) ?_
  refine s_icmp_gt (tgt := 37) C dX9_isTold_30 (by decide) ?_ ?_
  · refine s_iconst (v := 0) C dX9_isTold_37 (by decide) ?_
    exact s_zret C hr rfl (Or.inl rfl) dX9_isTold_38
  refine s_iconst (v := 1) C dX9_isTold_33 (by decide) ?_
  refine s_goto (tgt := 38) C dX9_isTold_34 (by decide) ?_
  exact s_zret C hr rfl (Or.inr rfl) dX9_isTold_38

theorem dX9_order_0 : decode cX9_order 0 = .ok (.iconst 0, 1) := by decide +kernel
theorem dX9_order_1 : decode cX9_order 1 = .ok (.istore 6, 2) := by decide +kernel
theorem dX9_order_3 : decode cX9_order 3 = .ok (.iload 6, 2) := by decide +kernel
theorem dX9_order_5 : decode cX9_order 5 = .ok (.iload_n 2, 1) := by decide +kernel
theorem dX9_order_6 : decode cX9_order 6 = .ok (.if_icmp .ge 48, 3) := by decide +kernel
theorem dX9_order_9 : decode cX9_order 9 = .ok (.iload 6, 2) := by decide +kernel
theorem dX9_order_11 : decode cX9_order 11 = .ok (.iload 5, 2) := by decide +kernel
theorem dX9_order_13 : decode cX9_order 13 = .ok (.if_icmp .ge 41, 3) := by decide +kernel
theorem dX9_order_16 : decode cX9_order 16 = .ok (.aload_n 0, 1) := by decide +kernel
theorem dX9_order_17 : decode cX9_order 17 = .ok (.iload_n 1, 1) := by decide +kernel
theorem dX9_order_18 : decode cX9_order 18 = .ok (.iload 6, 2) := by decide +kernel
theorem dX9_order_20 : decode cX9_order 20 = .ok (.iadd, 1) := by decide +kernel
theorem dX9_order_21 : decode cX9_order 21 = .ok (.baload, 1) := by decide +kernel
theorem dX9_order_22 : decode cX9_order 22 = .ok (.sipush 255, 3) := by decide +kernel
theorem dX9_order_25 : decode cX9_order 25 = .ok (.iand, 1) := by decide +kernel
theorem dX9_order_26 : decode cX9_order 26 = .ok (.aload_n 3, 1) := by decide +kernel
theorem dX9_order_27 : decode cX9_order 27 = .ok (.iload 4, 2) := by decide +kernel
theorem dX9_order_29 : decode cX9_order 29 = .ok (.iload 6, 2) := by decide +kernel
theorem dX9_order_31 : decode cX9_order 31 = .ok (.iadd, 1) := by decide +kernel
theorem dX9_order_32 : decode cX9_order 32 = .ok (.baload, 1) := by decide +kernel
theorem dX9_order_33 : decode cX9_order 33 = .ok (.sipush 255, 3) := by decide +kernel
theorem dX9_order_36 : decode cX9_order 36 = .ok (.iand, 1) := by decide +kernel
theorem dX9_order_37 : decode cX9_order 37 = .ok (.isub, 1) := by decide +kernel
theorem dX9_order_38 : decode cX9_order 38 = .ok (.istore 7, 2) := by decide +kernel
theorem dX9_order_40 : decode cX9_order 40 = .ok (.iload 7, 2) := by decide +kernel
theorem dX9_order_42 : decode cX9_order 42 = .ok (.ifCond .eq 6, 3) := by decide +kernel
theorem dX9_order_45 : decode cX9_order 45 = .ok (.iload 7, 2) := by decide +kernel
theorem dX9_order_47 : decode cX9_order 47 = .ok (.ireturn, 1) := by decide +kernel
theorem dX9_order_48 : decode cX9_order 48 = .ok (.iinc 6 1, 3) := by decide +kernel
theorem dX9_order_51 : decode cX9_order 51 = .ok (.goto (-48), 3) := by decide +kernel
theorem dX9_order_54 : decode cX9_order 54 = .ok (.iload_n 2, 1) := by decide +kernel
theorem dX9_order_55 : decode cX9_order 55 = .ok (.iload 5, 2) := by decide +kernel
theorem dX9_order_57 : decode cX9_order 57 = .ok (.isub, 1) := by decide +kernel
theorem dX9_order_58 : decode cX9_order 58 = .ok (.ireturn, 1) := by decide +kernel
def X9_order_b54   (i2 : Int32) (i5 : Int32) : M Int32 := pu (i2 - i5)
def X9_order_b3b  (k3 : Nat → Int32 → Int32 → Nat → Int32 → Int32 → Int32 → M Int32) (a0 : Nat) (i1 : Int32) (i2 : Int32) (a3 : Nat) (i4 : Int32) (i5 : Int32) (i6 : Int32) : M Int32 := it (i2 ≤ i6) (X9_order_b54   i2 i5) (it (i5 ≤ i6) (X9_order_b54   i2 i5) (bd (al 21 a0 (i1 + i6)) (fun x1 => bd (al 21 a3 (i4 + i6)) (fun x2 => bd (pu ((x1 &&& 255) - (x2 &&& 255))) (fun x3 => it (x3 = 0) (k3 a0 i1 i2 a3 i4 i5 (i6 + 1)) (pu x3))))))
def X9_order_b3  : Nat → Nat → Int32 → Int32 → Nat → Int32 → Int32 → Int32 → M Int32
  | 0 => fun _ _ _ _ _ _ _ => fl
  | n + 1 => fun a0 i1 i2 a3 i4 i5 i6 => X9_order_b3b  (X9_order_b3  n) a0 i1 i2 a3 i4 i5 i6
def X9_order (a0 : Nat) (i1 : Int32) (i2 : Int32) (a3 : Nat) (i4 : Int32) (i5 : Int32) : M Int32 := X9_order_b3  FU a0 i1 i2 a3 i4 i5 0
section
variable {G : Gx} {p : Program} {l : Launch} {e : Env} {R : Room} {s : State} {m : MethodId} {args : Array Value} {below : List Frame} {meth : Method} {c : Code} {h0 : Hp} {r : Int32} {h' : Hp}
set_option maxRecDepth 20000 in
theorem X9_order_b54_s (C : Cx G p R s m args meth c cX9_order 8 yX9_order.cls h0 h') (hF : R.frames = 0) (hO : R.locals = 0) (hr : meth.sig.returnType = (some .int)) (hm : meth.name = yX9_order.name)   (i2 : Int32) (i5 : Int32) : Sm G (QM G rvI below args s h0 r h') p l e R s m args below meth c 8 h0 r h' 54 [(2, .int i2), (5, .int i5)] [] (X9_order_b54   i2 i5) := by
  refine s_iload_n C 0 dX9_order_54 rfl rfl ?_
  refine s_iload C 1 dX9_order_55 rfl ?_
  refine s_isub C dX9_order_57 ?_
  exact s_iret C hr rfl dX9_order_58
set_option maxRecDepth 20000 in
theorem X9_order_b3b_s (C : Cx G p R s m args meth c cX9_order 8 yX9_order.cls h0 h') (hF : R.frames = 0) (hO : R.locals = 0) (hr : meth.sig.returnType = (some .int)) (hm : meth.name = yX9_order.name)  {k3 : Nat → Int32 → Int32 → Nat → Int32 → Int32 → Int32 → M Int32} (hk3 : ∀ (a0 : Nat) (i1 : Int32) (i2 : Int32) (a3 : Nat) (i4 : Int32) (i5 : Int32) (i6 : Int32), Sm G (QM G rvI below args s h0 r h') p l e R s m args below meth c 8 h0 r h' 3 [(0, .ref a0), (1, .int i1), (2, .int i2), (3, .ref a3), (4, .int i4), (5, .int i5), (6, .int i6)] [] (k3 a0 i1 i2 a3 i4 i5 i6)) (a0 : Nat) (i1 : Int32) (i2 : Int32) (a3 : Nat) (i4 : Int32) (i5 : Int32) (i6 : Int32) : Sm G (QM G rvI below args s h0 r h') p l e R s m args below meth c 8 h0 r h' 3 [(0, .ref a0), (1, .int i1), (2, .int i2), (3, .ref a3), (4, .int i4), (5, .int i5), (6, .int i6)] [] (X9_order_b3b  k3 a0 i1 i2 a3 i4 i5 i6) := by
  refine s_iload C 6 dX9_order_3 rfl ?_
  refine s_iload_n C 2 dX9_order_5 rfl rfl ?_
  refine s_icmp_ge (tgt := 54) C dX9_order_6 (by decide) ?_ ?_
  · refine s_sub [2, 5] rfl ?_
    exact X9_order_b54_s C hF hO hr hm   i2 i5
  refine s_iload C 6 dX9_order_9 rfl ?_
  refine s_iload C 5 dX9_order_11 rfl ?_
  refine s_icmp_ge (tgt := 54) C dX9_order_13 (by decide) ?_ ?_
  · refine s_sub [2, 5] rfl ?_
    exact X9_order_b54_s C hF hO hr hm   i2 i5
  refine s_aload_n C 0 dX9_order_16 rfl rfl ?_
  refine s_iload_n C 1 dX9_order_17 rfl rfl ?_
  refine s_iload C 6 dX9_order_18 rfl ?_
  refine s_iadd C dX9_order_20 ?_
  refine s_al21 C dX9_order_21 (fun x1 => ?_)
  refine s_sipush (v := 255) C dX9_order_22 (by decide) ?_
  refine s_iand C dX9_order_25 ?_
  refine s_aload_n C 3 dX9_order_26 rfl rfl ?_
  refine s_iload C 4 dX9_order_27 rfl ?_
  refine s_iload C 6 dX9_order_29 rfl ?_
  refine s_iadd C dX9_order_31 ?_
  refine s_al21 C dX9_order_32 (fun x2 => ?_)
  refine s_sipush (v := 255) C dX9_order_33 (by decide) ?_
  refine s_iand C dX9_order_36 ?_
  refine s_isub C dX9_order_37 ?_
  refine s_let (fun x3 => ?_)
  refine s_istore (lv' := [(7, .int x3), (0, .ref a0), (1, .int i1), (2, .int i2), (3, .ref a3), (4, .int i4), (5, .int i5), (6, .int i6)]) C dX9_order_38 (by decide) rfl ?_
  refine s_iload C 0 dX9_order_40 rfl ?_
  refine s_if_eq (tgt := 48) C dX9_order_42 (by decide) ?_ ?_
  · refine s_iincK (lv' := [(6, .int (i6 + 1)), (7, .int x3), (0, .ref a0), (1, .int i1), (2, .int i2), (3, .ref a3), (4, .int i4), (5, .int i5)]) (w := 1) C 7 dX9_order_48 rfl (by decide) (by decide) rfl ?_
    refine s_goto (tgt := 3) C dX9_order_51 (by decide) ?_
    refine s_sub [2, 3, 4, 5, 6, 7, 0] rfl ?_
    exact hk3 a0 i1 i2 a3 i4 i5 (i6 + 1)
  refine s_iload C 0 dX9_order_45 rfl ?_
  exact s_iret C hr rfl dX9_order_47
set_option maxRecDepth 20000 in
theorem X9_order_b3_s (C : Cx G p R s m args meth c cX9_order 8 yX9_order.cls h0 h') (hF : R.frames = 0) (hO : R.locals = 0) (hr : meth.sig.returnType = (some .int)) (hm : meth.name = yX9_order.name)  (n : Nat) : ∀ (a0 : Nat) (i1 : Int32) (i2 : Int32) (a3 : Nat) (i4 : Int32) (i5 : Int32) (i6 : Int32), Sm G (QM G rvI below args s h0 r h') p l e R s m args below meth c 8 h0 r h' 3 [(0, .ref a0), (1, .int i1), (2, .int i2), (3, .ref a3), (4, .int i4), (5, .int i5), (6, .int i6)] [] (X9_order_b3  n a0 i1 i2 a3 i4 i5 i6) := by
  induction n with
  | zero => intro a0 i1 i2 a3 i4 i5 i6; exact s_fl
  | succ n ih => intro a0 i1 i2 a3 i4 i5 i6; exact X9_order_b3b_s C hF hO hr hm  ih a0 i1 i2 a3 i4 i5 i6
end
set_option maxRecDepth 20000 in
theorem con_X9_order (l : Launch) (G : Gx) (a0 : Nat) (i1 : Int32) (i2 : Int32) (a3 : Nat) (i4 : Int32) (i5 : Int32) : Con G rvI l yX9_order cX9_order 8 (some .int) 0 0 [.ref a0, .int i1, .int i2, .ref a3, .int i4, .int i5] (X9_order a0 i1 i2 a3 i4 i5) := by
  refine con_of (lv := [(0, .ref a0), (1, .int i1), (2, .int i2), (3, .ref a3), (4, .int i4), (5, .int i5)]) (by decide) (Nat.le_of_ble_eq_true rfl) rfl (fun p e R s m args below meth c h0 r h' C hF hO hr hm => ?_)
  refine s_iconst (v := 0) C dX9_order_0 (by decide) ?_
  refine s_istore (lv' := [(6, .int 0), (0, .ref a0), (1, .int i1), (2, .int i2), (3, .ref a3), (4, .int i4), (5, .int i5)]) C dX9_order_1 (by decide) rfl ?_
  refine s_sub [1, 2, 3, 4, 5, 6, 0] rfl ?_
  exact X9_order_b3_s C hF hO hr hm  FU a0 i1 i2 a3 i4 i5 0

theorem dX9_placeOf_0 : decode cX9_placeOf 0 = .ok (.iconst 0, 1) := by decide +kernel
theorem dX9_placeOf_1 : decode cX9_placeOf 1 = .ok (.istore 4, 2) := by decide +kernel
theorem dX9_placeOf_3 : decode cX9_placeOf 3 = .ok (.iload 4, 2) := by decide +kernel
theorem dX9_placeOf_5 : decode cX9_placeOf 5 = .ok (.aload_n 0, 1) := by decide +kernel
theorem dX9_placeOf_6 : decode cX9_placeOf 6 = .ok (.getfield 140, 3) := by decide +kernel
theorem dX9_placeOf_9 : decode cX9_placeOf 9 = .ok (.if_icmp .ge 34, 3) := by decide +kernel
theorem dX9_placeOf_12 : decode cX9_placeOf 12 = .ok (.aload_n 0, 1) := by decide +kernel
theorem dX9_placeOf_13 : decode cX9_placeOf 13 = .ok (.getfield 41, 3) := by decide +kernel
theorem dX9_placeOf_16 : decode cX9_placeOf 16 = .ok (.bipush 16, 2) := by decide +kernel
theorem dX9_placeOf_18 : decode cX9_placeOf 18 = .ok (.iload 4, 2) := by decide +kernel
theorem dX9_placeOf_20 : decode cX9_placeOf 20 = .ok (.imul, 1) := by decide +kernel
theorem dX9_placeOf_21 : decode cX9_placeOf 21 = .ok (.aload_n 0, 1) := by decide +kernel
theorem dX9_placeOf_22 : decode cX9_placeOf 22 = .ok (.getfield 44, 3) := by decide +kernel
theorem dX9_placeOf_25 : decode cX9_placeOf 25 = .ok (.iload 4, 2) := by decide +kernel
theorem dX9_placeOf_27 : decode cX9_placeOf 27 = .ok (.iaload, 1) := by decide +kernel
theorem dX9_placeOf_28 : decode cX9_placeOf 28 = .ok (.aload_n 1, 1) := by decide +kernel
theorem dX9_placeOf_29 : decode cX9_placeOf 29 = .ok (.iload_n 2, 1) := by decide +kernel
theorem dX9_placeOf_30 : decode cX9_placeOf 30 = .ok (.iload_n 3, 1) := by decide +kernel
theorem dX9_placeOf_31 : decode cX9_placeOf 31 = .ok (.invokestatic 170, 3) := by decide +kernel
theorem dX9_placeOf_34 : decode cX9_placeOf 34 = .ok (.ifCond .ge 9, 3) := by decide +kernel
theorem dX9_placeOf_37 : decode cX9_placeOf 37 = .ok (.iinc 4 1, 3) := by decide +kernel
theorem dX9_placeOf_40 : decode cX9_placeOf 40 = .ok (.goto (-37), 3) := by decide +kernel
theorem dX9_placeOf_43 : decode cX9_placeOf 43 = .ok (.iload 4, 2) := by decide +kernel
theorem dX9_placeOf_45 : decode cX9_placeOf 45 = .ok (.ireturn, 1) := by decide +kernel
def X9_placeOf_b3b  (k3 : Nat → Nat → Int32 → Int32 → Int32 → M Int32) (a0 : Nat) (a1 : Nat) (i2 : Int32) (i3 : Int32) (i4 : Int32) : M Int32 := bd (gI 12 33 a0) (fun x1 => it (x1 ≤ i4) (pu i4) (bd (gR 12 27 a0) (fun y2 => bd (gR 12 28 a0) (fun y3 => bd (al 22 y3 i4) (fun x4 => bd (X9_order y2 (16 * i4) x4 a1 i2 i3) (fun x5 => it (0 ≤ x5) (pu i4) (k3 a0 a1 i2 i3 (i4 + 1))))))))
def X9_placeOf_b3  : Nat → Nat → Nat → Int32 → Int32 → Int32 → M Int32
  | 0 => fun _ _ _ _ _ => fl
  | n + 1 => fun a0 a1 i2 i3 i4 => X9_placeOf_b3b  (X9_placeOf_b3  n) a0 a1 i2 i3 i4
def X9_placeOf (a0 : Nat) (a1 : Nat) (i2 : Int32) (i3 : Int32) : M Int32 := X9_placeOf_b3  FU a0 a1 i2 i3 0
section
variable {G : Gx} {p : Program} {l : Launch} {e : Env} {R : Room} {s : State} {m : MethodId} {args : Array Value} {below : List Frame} {meth : Method} {c : Code} {h0 : Hp} {r : Int32} {h' : Hp}
set_option maxRecDepth 20000 in
theorem X9_placeOf_b3b_s (C : Cx G p R s m args meth c cX9_placeOf 5 yX9_placeOf.cls h0 h') (hF : R.frames = 1) (hO : R.locals = 27) (hr : meth.sig.returnType = (some .int)) (hm : meth.name = yX9_placeOf.name)  {k3 : Nat → Nat → Int32 → Int32 → Int32 → M Int32} (hk3 : ∀ (a0 : Nat) (a1 : Nat) (i2 : Int32) (i3 : Int32) (i4 : Int32), Sm G (QM G rvI below args s h0 r h') p l e R s m args below meth c 5 h0 r h' 3 [(0, .ref a0), (1, .ref a1), (2, .int i2), (3, .int i3), (4, .int i4)] [] (k3 a0 a1 i2 i3 i4)) (a0 : Nat) (a1 : Nat) (i2 : Int32) (i3 : Int32) (i4 : Int32) : Sm G (QM G rvI below args s h0 r h') p l e R s m args below meth c 5 h0 r h' 3 [(0, .ref a0), (1, .ref a1), (2, .int i2), (3, .int i3), (4, .int i4)] [] (X9_placeOf_b3b  k3 a0 a1 i2 i3 i4) := by
  refine s_iload C 4 dX9_placeOf_3 rfl ?_
  refine s_aload_n C 0 dX9_placeOf_5 rfl rfl ?_
  refine s_gI C ci12 33 (by decide) (Or.inl wd_6_148) dX9_placeOf_6 (fun x1 => ?_)
  refine s_icmp_ge (tgt := 43) C dX9_placeOf_9 (by decide) ?_ ?_
  · refine s_iload C 4 dX9_placeOf_43 rfl ?_
    exact s_iret C hr rfl dX9_placeOf_45
  refine s_aload_n C 0 dX9_placeOf_12 rfl rfl ?_
  refine s_gR C ci12 27 (by decide) (Or.inl wd_6_142) dX9_placeOf_13 (fun y2 => ?_)
  refine s_bipush (v := 16) C dX9_placeOf_16 (by decide) ?_
  refine s_iload C 4 dX9_placeOf_18 rfl ?_
  refine s_imul C dX9_placeOf_20 ?_
  refine s_aload_n C 0 dX9_placeOf_21 rfl rfl ?_
  refine s_gR C ci12 28 (by decide) (Or.inl wd_6_143) dX9_placeOf_22 (fun y3 => ?_)
  refine s_iload C 4 dX9_placeOf_25 rfl ?_
  refine s_al22 C dX9_placeOf_27 (fun x4 => ?_)
  refine s_aload_n C 1 dX9_placeOf_28 rfl rfl ?_
  refine s_iload_n C 2 dX9_placeOf_29 rfl rfl ?_
  refine s_iload_n C 3 dX9_placeOf_30 rfl rfl ?_
  refine s_invS_i C cy_X9_order (Or.inl wd_7_108) wd_7_109 (con_X9_order l G y2 (16 * i4) x4 a1 i2 i3) rfl rfl (Nat.le_of_ble_eq_true rfl) (by rw [hF]; decide) (by rw [hO]; exact Nat.le_of_ble_eq_true rfl) dX9_placeOf_31 (fun x5 => ?_)
  refine s_if_ge (tgt := 43) C dX9_placeOf_34 (by decide) ?_ ?_
  · refine s_iload C 4 dX9_placeOf_43 rfl ?_
    exact s_iret C hr rfl dX9_placeOf_45
  refine s_iincK (lv' := [(4, .int (i4 + 1)), (0, .ref a0), (1, .ref a1), (2, .int i2), (3, .int i3)]) (w := 1) C 4 dX9_placeOf_37 rfl (by decide) (by decide) rfl ?_
  refine s_goto (tgt := 3) C dX9_placeOf_40 (by decide) ?_
  refine s_sub [1, 2, 3, 4, 0] rfl ?_
  exact hk3 a0 a1 i2 i3 (i4 + 1)
set_option maxRecDepth 20000 in
theorem X9_placeOf_b3_s (C : Cx G p R s m args meth c cX9_placeOf 5 yX9_placeOf.cls h0 h') (hF : R.frames = 1) (hO : R.locals = 27) (hr : meth.sig.returnType = (some .int)) (hm : meth.name = yX9_placeOf.name)  (n : Nat) : ∀ (a0 : Nat) (a1 : Nat) (i2 : Int32) (i3 : Int32) (i4 : Int32), Sm G (QM G rvI below args s h0 r h') p l e R s m args below meth c 5 h0 r h' 3 [(0, .ref a0), (1, .ref a1), (2, .int i2), (3, .int i3), (4, .int i4)] [] (X9_placeOf_b3  n a0 a1 i2 i3 i4) := by
  induction n with
  | zero => intro a0 a1 i2 i3 i4; exact s_fl
  | succ n ih => intro a0 a1 i2 i3 i4; exact X9_placeOf_b3b_s C hF hO hr hm  ih a0 a1 i2 i3 i4
end
set_option maxRecDepth 20000 in
theorem con_X9_placeOf (l : Launch) (G : Gx) (a0 : Nat) (a1 : Nat) (i2 : Int32) (i3 : Int32) : Con G rvI l yX9_placeOf cX9_placeOf 5 (some .int) 1 27 [.ref a0, .ref a1, .int i2, .int i3] (X9_placeOf a0 a1 i2 i3) := by
  refine con_of (lv := [(0, .ref a0), (1, .ref a1), (2, .int i2), (3, .int i3)]) (by decide) (Nat.le_of_ble_eq_true rfl) rfl (fun p e R s m args below meth c h0 r h' C hF hO hr hm => ?_)
  refine s_iconst (v := 0) C dX9_placeOf_0 (by decide) ?_
  refine s_istore (lv' := [(4, .int 0), (0, .ref a0), (1, .ref a1), (2, .int i2), (3, .int i3)]) C dX9_placeOf_1 (by decide) rfl ?_
  refine s_sub [1, 2, 3, 4, 0] rfl ?_
  exact X9_placeOf_b3_s C hF hO hr hm  FU a0 a1 i2 i3 0

theorem dX9_isAt_0 : decode cX9_isAt 0 = .ok (.iload_n 1, 1) := by decide +kernel
theorem dX9_isAt_1 : decode cX9_isAt 1 = .ok (.aload_n 0, 1) := by decide +kernel
theorem dX9_isAt_2 : decode cX9_isAt 2 = .ok (.getfield 140, 3) := by decide +kernel
theorem dX9_isAt_5 : decode cX9_isAt 5 = .ok (.if_icmp .ge 31, 3) := by decide +kernel
theorem dX9_isAt_8 : decode cX9_isAt 8 = .ok (.aload_n 0, 1) := by decide +kernel
theorem dX9_isAt_9 : decode cX9_isAt 9 = .ok (.getfield 41, 3) := by decide +kernel
theorem dX9_isAt_12 : decode cX9_isAt 12 = .ok (.bipush 16, 2) := by decide +kernel
theorem dX9_isAt_14 : decode cX9_isAt 14 = .ok (.iload_n 1, 1) := by decide +kernel
theorem dX9_isAt_15 : decode cX9_isAt 15 = .ok (.imul, 1) := by decide +kernel
theorem dX9_isAt_16 : decode cX9_isAt 16 = .ok (.aload_n 0, 1) := by decide +kernel
theorem dX9_isAt_17 : decode cX9_isAt 17 = .ok (.getfield 44, 3) := by decide +kernel
theorem dX9_isAt_20 : decode cX9_isAt 20 = .ok (.iload_n 1, 1) := by decide +kernel
theorem dX9_isAt_21 : decode cX9_isAt 21 = .ok (.iaload, 1) := by decide +kernel
theorem dX9_isAt_22 : decode cX9_isAt 22 = .ok (.aload_n 2, 1) := by decide +kernel
theorem dX9_isAt_23 : decode cX9_isAt 23 = .ok (.iload_n 3, 1) := by decide +kernel
theorem dX9_isAt_24 : decode cX9_isAt 24 = .ok (.iload 4, 2) := by decide +kernel
theorem dX9_isAt_26 : decode cX9_isAt 26 = .ok (.invokestatic 170, 3) := by decide +kernel
theorem dX9_isAt_29 : decode cX9_isAt 29 = .ok (.ifCond .ne 7, 3) := by decide +kernel
theorem dX9_isAt_32 : decode cX9_isAt 32 = .ok (.iconst 1, 1) := by decide +kernel
theorem dX9_isAt_33 : decode cX9_isAt 33 = .ok (.goto 4, 3) := by decide +kernel
theorem dX9_isAt_36 : decode cX9_isAt 36 = .ok (.iconst 0, 1) := by decide +kernel
theorem dX9_isAt_37 : decode cX9_isAt 37 = .ok (.ireturn, 1) := by decide +kernel
def X9_isAt (a0 : Nat) (i1 : Int32) (a2 : Nat) (i3 : Int32) (i4 : Int32) : M Int32 := bd (gI 12 33 a0) (fun x1 => it (x1 ≤ i1) (pu 0) (bd (gR 12 27 a0) (fun y2 => bd (gR 12 28 a0) (fun y3 => bd (al 22 y3 i1) (fun x4 => bd (X9_order y2 (16 * i1) x4 a2 i3 i4) (fun x5 => it (¬ x5 = 0) (pu 0) (pu 1)))))))
section
variable {G : Gx} {p : Program} {l : Launch} {e : Env} {R : Room} {s : State} {m : MethodId} {args : Array Value} {below : List Frame} {meth : Method} {c : Code} {h0 : Hp} {r : Int32} {h' : Hp}
end
set_option maxRecDepth 20000 in
theorem con_X9_isAt (l : Launch) (G : Gx) (a0 : Nat) (i1 : Int32) (a2 : Nat) (i3 : Int32) (i4 : Int32) : Con G rvI l yX9_isAt cX9_isAt 5 (some .boolean) 1 27 [.ref a0, .int i1, .ref a2, .int i3, .int i4] (X9_isAt a0 i1 a2 i3 i4) := by
  refine con_of (lv := [(0, .ref a0), (1, .int i1), (2, .ref a2), (3, .int i3), (4, .int i4)]) (by decide) (Nat.le_of_ble_eq_true rfl) rfl (fun p e R s m args below meth c h0 r h' C hF hO hr hm => ?_)
  refine s_iload_n C 1 dX9_isAt_0 rfl rfl ?_
  refine s_aload_n C 0 dX9_isAt_1 rfl rfl ?_
  refine s_gI C ci12 33 (by decide) (Or.inl wd_6_148) dX9_isAt_2 (fun x1 => ?_)
  refine s_icmp_ge (tgt := 36) C dX9_isAt_5 (by decide) ?_ ?_
  · refine s_iconst (v := 0) C dX9_isAt_36 (by decide) ?_
    exact s_zret C hr rfl (Or.inl rfl) dX9_isAt_37
  refine s_aload_n C 0 dX9_isAt_8 rfl rfl ?_
  refine s_gR C ci12 27 (by decide) (Or.inl wd_6_142) dX9_isAt_9 (fun y2 => ?_)
  refine s_bipush (v := 16) C dX9_isAt_12 (by decide) ?_
  refine s_iload_n C 1 dX9_isAt_14 rfl rfl ?_
  refine s_imul C dX9_isAt_15 ?_
  refine s_aload_n C 0 dX9_isAt_16 rfl rfl ?_
  refine s_gR C ci12 28 (by decide) (Or.inl wd_6_143) dX9_isAt_17 (fun y3 => ?_)
  refine s_iload_n C 1 dX9_isAt_20 rfl rfl ?_
  refine s_al22 C dX9_isAt_21 (fun x4 => ?_)
  refine s_aload_n C 2 dX9_isAt_22 rfl rfl ?_
  refine s_iload_n C 3 dX9_isAt_23 rfl rfl ?_
  refine s_iload C 4 dX9_isAt_24 rfl ?_
  refine s_invS_i C cy_X9_order (Or.inl wd_7_108) wd_7_109 (con_X9_order l G y2 (16 * i1) x4 a2 i3 i4) rfl rfl (Nat.le_of_ble_eq_true rfl) (by rw [hF]; decide) (by rw [hO]; exact Nat.le_of_ble_eq_true rfl) dX9_isAt_26 (fun x5 => ?_)
  refine s_if_ne (tgt := 36) C dX9_isAt_29 (by decide) ?_ ?_
  · refine s_iconst (v := 0) C dX9_isAt_36 (by decide) ?_
    exact s_zret C hr rfl (Or.inl rfl) dX9_isAt_37
  refine s_iconst (v := 1) C dX9_isAt_32 (by decide) ?_
  refine s_goto (tgt := 37) C dX9_isAt_33 (by decide) ?_
  exact s_zret C hr rfl (Or.inr rfl) dX9_isAt_37

theorem dX9_moves_0 : decode cX9_moves 0 = .ok (.iconst 0, 1) := by decide +kernel
theorem dX9_moves_1 : decode cX9_moves 1 = .ok (.istore_n 3, 1) := by decide +kernel
theorem dX9_moves_2 : decode cX9_moves 2 = .ok (.iload_n 3, 1) := by decide +kernel
theorem dX9_moves_3 : decode cX9_moves 3 = .ok (.bipush 16, 2) := by decide +kernel
theorem dX9_moves_5 : decode cX9_moves 5 = .ok (.if_icmp .ge 31, 3) := by decide +kernel
theorem dX9_moves_8 : decode cX9_moves 8 = .ok (.aload_n 0, 1) := by decide +kernel
theorem dX9_moves_9 : decode cX9_moves 9 = .ok (.getfield 41, 3) := by decide +kernel
theorem dX9_moves_12 : decode cX9_moves 12 = .ok (.bipush 16, 2) := by decide +kernel
theorem dX9_moves_14 : decode cX9_moves 14 = .ok (.iload_n 2, 1) := by decide +kernel
theorem dX9_moves_15 : decode cX9_moves 15 = .ok (.imul, 1) := by decide +kernel
theorem dX9_moves_16 : decode cX9_moves 16 = .ok (.iload_n 3, 1) := by decide +kernel
theorem dX9_moves_17 : decode cX9_moves 17 = .ok (.iadd, 1) := by decide +kernel
theorem dX9_moves_18 : decode cX9_moves 18 = .ok (.aload_n 0, 1) := by decide +kernel
theorem dX9_moves_19 : decode cX9_moves 19 = .ok (.getfield 41, 3) := by decide +kernel
theorem dX9_moves_22 : decode cX9_moves 22 = .ok (.bipush 16, 2) := by decide +kernel
theorem dX9_moves_24 : decode cX9_moves 24 = .ok (.iload_n 1, 1) := by decide +kernel
theorem dX9_moves_25 : decode cX9_moves 25 = .ok (.imul, 1) := by decide +kernel
theorem dX9_moves_26 : decode cX9_moves 26 = .ok (.iload_n 3, 1) := by decide +kernel
theorem dX9_moves_27 : decode cX9_moves 27 = .ok (.iadd, 1) := by decide +kernel
theorem dX9_moves_28 : decode cX9_moves 28 = .ok (.baload, 1) := by decide +kernel
theorem dX9_moves_29 : decode cX9_moves 29 = .ok (.bastore, 1) := by decide +kernel
theorem dX9_moves_30 : decode cX9_moves 30 = .ok (.iinc 3 1, 3) := by decide +kernel
theorem dX9_moves_33 : decode cX9_moves 33 = .ok (.goto (-31), 3) := by decide +kernel
theorem dX9_moves_36 : decode cX9_moves 36 = .ok (.aload_n 0, 1) := by decide +kernel
theorem dX9_moves_37 : decode cX9_moves 37 = .ok (.getfield 44, 3) := by decide +kernel
theorem dX9_moves_40 : decode cX9_moves 40 = .ok (.iload_n 2, 1) := by decide +kernel
theorem dX9_moves_41 : decode cX9_moves 41 = .ok (.aload_n 0, 1) := by decide +kernel
theorem dX9_moves_42 : decode cX9_moves 42 = .ok (.getfield 44, 3) := by decide +kernel
theorem dX9_moves_45 : decode cX9_moves 45 = .ok (.iload_n 1, 1) := by decide +kernel
theorem dX9_moves_46 : decode cX9_moves 46 = .ok (.iaload, 1) := by decide +kernel
theorem dX9_moves_47 : decode cX9_moves 47 = .ok (.iastore, 1) := by decide +kernel
theorem dX9_moves_48 : decode cX9_moves 48 = .ok (.aload_n 0, 1) := by decide +kernel
theorem dX9_moves_49 : decode cX9_moves 49 = .ok (.getfield 47, 3) := by decide +kernel
theorem dX9_moves_52 : decode cX9_moves 52 = .ok (.iload_n 2, 1) := by decide +kernel
theorem dX9_moves_53 : decode cX9_moves 53 = .ok (.aload_n 0, 1) := by decide +kernel
theorem dX9_moves_54 : decode cX9_moves 54 = .ok (.getfield 47, 3) := by decide +kernel
theorem dX9_moves_57 : decode cX9_moves 57 = .ok (.iload_n 1, 1) := by decide +kernel
theorem dX9_moves_58 : decode cX9_moves 58 = .ok (.iaload, 1) := by decide +kernel
theorem dX9_moves_59 : decode cX9_moves 59 = .ok (.iastore, 1) := by decide +kernel
theorem dX9_moves_60 : decode cX9_moves 60 = .ok (.aload_n 0, 1) := by decide +kernel
theorem dX9_moves_61 : decode cX9_moves 61 = .ok (.getfield 50, 3) := by decide +kernel
theorem dX9_moves_64 : decode cX9_moves 64 = .ok (.iload_n 2, 1) := by decide +kernel
theorem dX9_moves_65 : decode cX9_moves 65 = .ok (.aload_n 0, 1) := by decide +kernel
theorem dX9_moves_66 : decode cX9_moves 66 = .ok (.getfield 50, 3) := by decide +kernel
theorem dX9_moves_69 : decode cX9_moves 69 = .ok (.iload_n 1, 1) := by decide +kernel
theorem dX9_moves_70 : decode cX9_moves 70 = .ok (.iaload, 1) := by decide +kernel
theorem dX9_moves_71 : decode cX9_moves 71 = .ok (.iastore, 1) := by decide +kernel
theorem dX9_moves_72 : decode cX9_moves 72 = .ok (.aload_n 0, 1) := by decide +kernel
theorem dX9_moves_73 : decode cX9_moves 73 = .ok (.getfield 53, 3) := by decide +kernel
theorem dX9_moves_76 : decode cX9_moves 76 = .ok (.iload_n 2, 1) := by decide +kernel
theorem dX9_moves_77 : decode cX9_moves 77 = .ok (.aload_n 0, 1) := by decide +kernel
theorem dX9_moves_78 : decode cX9_moves 78 = .ok (.getfield 53, 3) := by decide +kernel
theorem dX9_moves_81 : decode cX9_moves 81 = .ok (.iload_n 1, 1) := by decide +kernel
theorem dX9_moves_82 : decode cX9_moves 82 = .ok (.iaload, 1) := by decide +kernel
theorem dX9_moves_83 : decode cX9_moves 83 = .ok (.iastore, 1) := by decide +kernel
theorem dX9_moves_84 : decode cX9_moves 84 = .ok (.aload_n 0, 1) := by decide +kernel
theorem dX9_moves_85 : decode cX9_moves 85 = .ok (.getfield 56, 3) := by decide +kernel
theorem dX9_moves_88 : decode cX9_moves 88 = .ok (.iload_n 2, 1) := by decide +kernel
theorem dX9_moves_89 : decode cX9_moves 89 = .ok (.aload_n 0, 1) := by decide +kernel
theorem dX9_moves_90 : decode cX9_moves 90 = .ok (.getfield 56, 3) := by decide +kernel
theorem dX9_moves_93 : decode cX9_moves 93 = .ok (.iload_n 1, 1) := by decide +kernel
theorem dX9_moves_94 : decode cX9_moves 94 = .ok (.iaload, 1) := by decide +kernel
theorem dX9_moves_95 : decode cX9_moves 95 = .ok (.iastore, 1) := by decide +kernel
theorem dX9_moves_96 : decode cX9_moves 96 = .ok (.return_, 1) := by decide +kernel
def X9_moves_b2b  (k2 : Nat → Int32 → Int32 → Int32 → M Unit) (a0 : Nat) (i1 : Int32) (i2 : Int32) (i3 : Int32) : M Unit := it (16 ≤ i3) (bd (gR 12 28 a0) (fun y1 => bd (gR 12 28 a0) (fun y2 => bd (al 22 y2 i1) (fun x3 => bd (as 22 y1 i2 x3) (fun _ => bd (gR 12 29 a0) (fun y4 => bd (gR 12 29 a0) (fun y5 => bd (al 22 y5 i1) (fun x6 => bd (as 22 y4 i2 x6) (fun _ => bd (gR 12 30 a0) (fun y7 => bd (gR 12 30 a0) (fun y8 => bd (al 22 y8 i1) (fun x9 => bd (as 22 y7 i2 x9) (fun _ => bd (gR 12 31 a0) (fun y10 => bd (gR 12 31 a0) (fun y11 => bd (al 22 y11 i1) (fun x12 => bd (as 22 y10 i2 x12) (fun _ => bd (gR 12 32 a0) (fun y13 => bd (gR 12 32 a0) (fun y14 => bd (al 22 y14 i1) (fun x15 => bd (as 22 y13 i2 x15) (fun _ => pu ()))))))))))))))))))))) (bd (gR 12 27 a0) (fun y16 => bd (gR 12 27 a0) (fun y17 => bd (al 21 y17 ((16 * i1) + i3)) (fun x18 => bd (as 21 y16 ((16 * i2) + i3) x18) (fun _ => k2 a0 i1 i2 (i3 + 1))))))
def X9_moves_b2  : Nat → Nat → Int32 → Int32 → Int32 → M Unit
  | 0 => fun _ _ _ _ => fl
  | n + 1 => fun a0 i1 i2 i3 => X9_moves_b2b  (X9_moves_b2  n) a0 i1 i2 i3
def X9_moves (a0 : Nat) (i1 : Int32) (i2 : Int32) : M Unit := X9_moves_b2  FU a0 i1 i2 0
section
variable {G : Gx} {p : Program} {l : Launch} {e : Env} {R : Room} {s : State} {m : MethodId} {args : Array Value} {below : List Frame} {meth : Method} {c : Code} {h0 : Hp} {r : Unit} {h' : Hp}
set_option maxRecDepth 20000 in
theorem X9_moves_b2b_s (C : Cx G p R s m args meth c cX9_moves 4 yX9_moves.cls h0 h') (hF : R.frames = 0) (hO : R.locals = 0) (hr : meth.sig.returnType = none) (hm : meth.name = yX9_moves.name)  {k2 : Nat → Int32 → Int32 → Int32 → M Unit} (hk2 : ∀ (a0 : Nat) (i1 : Int32) (i2 : Int32) (i3 : Int32), Sm G (QM G rvU below args s h0 r h') p l e R s m args below meth c 4 h0 r h' 2 [(0, .ref a0), (1, .int i1), (2, .int i2), (3, .int i3)] [] (k2 a0 i1 i2 i3)) (a0 : Nat) (i1 : Int32) (i2 : Int32) (i3 : Int32) : Sm G (QM G rvU below args s h0 r h') p l e R s m args below meth c 4 h0 r h' 2 [(0, .ref a0), (1, .int i1), (2, .int i2), (3, .int i3)] [] (X9_moves_b2b  k2 a0 i1 i2 i3) := by
  refine s_iload_n C 3 dX9_moves_2 rfl rfl ?_
  refine s_bipush (v := 16) C dX9_moves_3 (by decide) ?_
  refine s_icmp_ge (tgt := 36) C dX9_moves_5 (by decide) ?_ ?_
  · refine s_aload_n C 0 dX9_moves_36 rfl rfl ?_
    refine s_gR C ci12 28 (by decide) (Or.inl wd_6_143) dX9_moves_37 (fun y1 => ?_)
    refine s_iload_n C 2 dX9_moves_40 rfl rfl ?_
    refine s_aload_n C 0 dX9_moves_41 rfl rfl ?_
    refine s_gR C ci12 28 (by decide) (Or.inl wd_6_143) dX9_moves_42 (fun y2 => ?_)
    refine s_iload_n C 1 dX9_moves_45 rfl rfl ?_
    refine s_al22 C dX9_moves_46 (fun x3 => ?_)
    refine s_as22 C dX9_moves_47 ?_
    refine s_aload_n C 0 dX9_moves_48 rfl rfl ?_
    refine s_gR C ci12 29 (by decide) (Or.inl wd_6_144) dX9_moves_49 (fun y4 => ?_)
    refine s_iload_n C 2 dX9_moves_52 rfl rfl ?_
    refine s_aload_n C 0 dX9_moves_53 rfl rfl ?_
    refine s_gR C ci12 29 (by decide) (Or.inl wd_6_144) dX9_moves_54 (fun y5 => ?_)
    refine s_iload_n C 1 dX9_moves_57 rfl rfl ?_
    refine s_al22 C dX9_moves_58 (fun x6 => ?_)
    refine s_as22 C dX9_moves_59 ?_
    refine s_aload_n C 0 dX9_moves_60 rfl rfl ?_
    refine s_gR C ci12 30 (by decide) (Or.inl wd_6_145) dX9_moves_61 (fun y7 => ?_)
    refine s_iload_n C 2 dX9_moves_64 rfl rfl ?_
    refine s_aload_n C 0 dX9_moves_65 rfl rfl ?_
    refine s_gR C ci12 30 (by decide) (Or.inl wd_6_145) dX9_moves_66 (fun y8 => ?_)
    refine s_iload_n C 1 dX9_moves_69 rfl rfl ?_
    refine s_al22 C dX9_moves_70 (fun x9 => ?_)
    refine s_as22 C dX9_moves_71 ?_
    refine s_aload_n C 0 dX9_moves_72 rfl rfl ?_
    refine s_gR C ci12 31 (by decide) (Or.inl wd_6_146) dX9_moves_73 (fun y10 => ?_)
    refine s_iload_n C 2 dX9_moves_76 rfl rfl ?_
    refine s_aload_n C 0 dX9_moves_77 rfl rfl ?_
    refine s_gR C ci12 31 (by decide) (Or.inl wd_6_146) dX9_moves_78 (fun y11 => ?_)
    refine s_iload_n C 1 dX9_moves_81 rfl rfl ?_
    refine s_al22 C dX9_moves_82 (fun x12 => ?_)
    refine s_as22 C dX9_moves_83 ?_
    refine s_aload_n C 0 dX9_moves_84 rfl rfl ?_
    refine s_gR C ci12 32 (by decide) (Or.inl wd_6_147) dX9_moves_85 (fun y13 => ?_)
    refine s_iload_n C 2 dX9_moves_88 rfl rfl ?_
    refine s_aload_n C 0 dX9_moves_89 rfl rfl ?_
    refine s_gR C ci12 32 (by decide) (Or.inl wd_6_147) dX9_moves_90 (fun y14 => ?_)
    refine s_iload_n C 1 dX9_moves_93 rfl rfl ?_
    refine s_al22 C dX9_moves_94 (fun x15 => ?_)
    refine s_as22 C dX9_moves_95 ?_
    exact s_vret C hr rfl dX9_moves_96
  refine s_aload_n C 0 dX9_moves_8 rfl rfl ?_
  refine s_gR C ci12 27 (by decide) (Or.inl wd_6_142) dX9_moves_9 (fun y16 => ?_)
  refine s_bipush (v := 16) C dX9_moves_12 (by decide) ?_
  refine s_iload_n C 2 dX9_moves_14 rfl rfl ?_
  refine s_imul C dX9_moves_15 ?_
  refine s_iload_n C 3 dX9_moves_16 rfl rfl ?_
  refine s_iadd C dX9_moves_17 ?_
  refine s_aload_n C 0 dX9_moves_18 rfl rfl ?_
  refine s_gR C ci12 27 (by decide) (Or.inl wd_6_142) dX9_moves_19 (fun y17 => ?_)
  refine s_bipush (v := 16) C dX9_moves_22 (by decide) ?_
  refine s_iload_n C 1 dX9_moves_24 rfl rfl ?_
  refine s_imul C dX9_moves_25 ?_
  refine s_iload_n C 3 dX9_moves_26 rfl rfl ?_
  refine s_iadd C dX9_moves_27 ?_
  refine s_al21 C dX9_moves_28 (fun x18 => ?_)
  refine s_as21 C dX9_moves_29 ?_
  refine s_iincK (lv' := [(3, .int (i3 + 1)), (0, .ref a0), (1, .int i1), (2, .int i2)]) (w := 1) C 3 dX9_moves_30 rfl (by decide) (by decide) rfl ?_
  refine s_goto (tgt := 2) C dX9_moves_33 (by decide) ?_
  refine s_sub [1, 2, 3, 0] rfl ?_
  exact hk2 a0 i1 i2 (i3 + 1)
set_option maxRecDepth 20000 in
theorem X9_moves_b2_s (C : Cx G p R s m args meth c cX9_moves 4 yX9_moves.cls h0 h') (hF : R.frames = 0) (hO : R.locals = 0) (hr : meth.sig.returnType = none) (hm : meth.name = yX9_moves.name)  (n : Nat) : ∀ (a0 : Nat) (i1 : Int32) (i2 : Int32) (i3 : Int32), Sm G (QM G rvU below args s h0 r h') p l e R s m args below meth c 4 h0 r h' 2 [(0, .ref a0), (1, .int i1), (2, .int i2), (3, .int i3)] [] (X9_moves_b2  n a0 i1 i2 i3) := by
  induction n with
  | zero => intro a0 i1 i2 i3; exact s_fl
  | succ n ih => intro a0 i1 i2 i3; exact X9_moves_b2b_s C hF hO hr hm  ih a0 i1 i2 i3
end
set_option maxRecDepth 20000 in
theorem con_X9_moves (l : Launch) (G : Gx) (a0 : Nat) (i1 : Int32) (i2 : Int32) : Con G rvU l yX9_moves cX9_moves 4 none 0 0 [.ref a0, .int i1, .int i2] (X9_moves a0 i1 i2) := by
  refine con_of (lv := [(0, .ref a0), (1, .int i1), (2, .int i2)]) (by decide) (Nat.le_of_ble_eq_true rfl) rfl (fun p e R s m args below meth c h0 r h' C hF hO hr hm => ?_)
  refine s_iconst (v := 0) C dX9_moves_0 (by decide) ?_
  refine s_istore_n (lv' := [(3, .int 0), (0, .ref a0), (1, .int i1), (2, .int i2)]) C dX9_moves_1 rfl (by decide) rfl ?_
  refine s_sub [1, 2, 3, 0] rfl ?_
  exact X9_moves_b2_s C hF hO hr hm  FU a0 i1 i2 0
