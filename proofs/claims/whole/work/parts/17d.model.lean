theorem dX9_mergeBegin_0 : decode cX9_mergeBegin 0 = .ok (.aload_n 0, 1) := by decide +kernel
theorem dX9_mergeBegin_1 : decode cX9_mergeBegin 1 = .ok (.aload_n 0, 1) := by decide +kernel
theorem dX9_mergeBegin_2 : decode cX9_mergeBegin 2 = .ok (.getfield 127, 3) := by decide +kernel
theorem dX9_mergeBegin_5 : decode cX9_mergeBegin 5 = .ok (.ifCond .eq 10, 3) := by decide +kernel
theorem dX9_mergeBegin_8 : decode cX9_mergeBegin 8 = .ok (.aload_n 0, 1) := by decide +kernel
theorem dX9_mergeBegin_9 : decode cX9_mergeBegin 9 = .ok (.getfield 143, 3) := by decide +kernel
theorem dX9_mergeBegin_12 : decode cX9_mergeBegin 12 = .ok (.ifCond .le 7, 3) := by decide +kernel
theorem dX9_mergeBegin_15 : decode cX9_mergeBegin 15 = .ok (.iconst 1, 1) := by decide +kernel
theorem dX9_mergeBegin_16 : decode cX9_mergeBegin 16 = .ok (.goto 4, 3) := by decide +kernel
theorem dX9_mergeBegin_19 : decode cX9_mergeBegin 19 = .ok (.iconst 0, 1) := by decide +kernel
theorem dX9_mergeBegin_20 : decode cX9_mergeBegin 20 = .ok (.putfield 93, 3) := by decide +kernel
theorem dX9_mergeBegin_23 : decode cX9_mergeBegin 23 = .ok (.aload_n 0, 1) := by decide +kernel
theorem dX9_mergeBegin_24 : decode cX9_mergeBegin 24 = .ok (.getfield 93, 3) := by decide +kernel
theorem dX9_mergeBegin_27 : decode cX9_mergeBegin 27 = .ok (.ifCond .le 5, 3) := by decide +kernel
theorem dX9_mergeBegin_30 : decode cX9_mergeBegin 30 = .ok (.iconst 0, 1) := by decide +kernel
theorem dX9_mergeBegin_31 : decode cX9_mergeBegin 31 = .ok (.ireturn, 1) := by decide +kernel
theorem dX9_mergeBegin_32 : decode cX9_mergeBegin 32 = .ok (.iconst 0, 1) := by decide +kernel
theorem dX9_mergeBegin_33 : decode cX9_mergeBegin 33 = .ok (.istore_n 1, 1) := by decide +kernel
theorem dX9_mergeBegin_34 : decode cX9_mergeBegin 34 = .ok (.iconst 0, 1) := by decide +kernel
theorem dX9_mergeBegin_35 : decode cX9_mergeBegin 35 = .ok (.istore_n 2, 1) := by decide +kernel
theorem dX9_mergeBegin_36 : decode cX9_mergeBegin 36 = .ok (.iload_n 2, 1) := by decide +kernel
theorem dX9_mergeBegin_37 : decode cX9_mergeBegin 37 = .ok (.aload_n 0, 1) := by decide +kernel
theorem dX9_mergeBegin_38 : decode cX9_mergeBegin 38 = .ok (.getfield 106, 3) := by decide +kernel
theorem dX9_mergeBegin_41 : decode cX9_mergeBegin 41 = .ok (.if_icmp .ge 26, 3) := by decide +kernel
theorem dX9_mergeBegin_44 : decode cX9_mergeBegin 44 = .ok (.iload_n 1, 1) := by decide +kernel
theorem dX9_mergeBegin_45 : decode cX9_mergeBegin 45 = .ok (.aload_n 0, 1) := by decide +kernel
theorem dX9_mergeBegin_46 : decode cX9_mergeBegin 46 = .ok (.getfield 17, 3) := by decide +kernel
theorem dX9_mergeBegin_49 : decode cX9_mergeBegin 49 = .ok (.iload_n 2, 1) := by decide +kernel
theorem dX9_mergeBegin_50 : decode cX9_mergeBegin 50 = .ok (.iaload, 1) := by decide +kernel
theorem dX9_mergeBegin_51 : decode cX9_mergeBegin 51 = .ok (.ifCond .ne 7, 3) := by decide +kernel
theorem dX9_mergeBegin_54 : decode cX9_mergeBegin 54 = .ok (.iconst 1, 1) := by decide +kernel
theorem dX9_mergeBegin_55 : decode cX9_mergeBegin 55 = .ok (.goto 4, 3) := by decide +kernel
theorem dX9_mergeBegin_58 : decode cX9_mergeBegin 58 = .ok (.iconst 0, 1) := by decide +kernel
theorem dX9_mergeBegin_59 : decode cX9_mergeBegin 59 = .ok (.iadd, 1) := by decide +kernel
theorem dX9_mergeBegin_60 : decode cX9_mergeBegin 60 = .ok (.istore_n 1, 1) := by decide +kernel
theorem dX9_mergeBegin_61 : decode cX9_mergeBegin 61 = .ok (.iinc 2 1, 3) := by decide +kernel
theorem dX9_mergeBegin_64 : decode cX9_mergeBegin 64 = .ok (.goto (-28), 3) := by decide +kernel
theorem dX9_mergeBegin_67 : decode cX9_mergeBegin 67 = .ok (.iload_n 1, 1) := by decide +kernel
theorem dX9_mergeBegin_68 : decode cX9_mergeBegin 68 = .ok (.ifCond .ne 5, 3) := by decide +kernel
theorem dX9_mergeBegin_71 : decode cX9_mergeBegin 71 = .ok (.iconst 0, 1) := by decide +kernel
theorem dX9_mergeBegin_72 : decode cX9_mergeBegin 72 = .ok (.ireturn, 1) := by decide +kernel
theorem dX9_mergeBegin_73 : decode cX9_mergeBegin 73 = .ok (.aload_n 0, 1) := by decide +kernel
theorem dX9_mergeBegin_74 : decode cX9_mergeBegin 74 = .ok (.iconst 0, 1) := by decide +kernel
theorem dX9_mergeBegin_75 : decode cX9_mergeBegin 75 = .ok (.putfield 298, 3) := by decide +kernel
theorem dX9_mergeBegin_78 : decode cX9_mergeBegin 78 = .ok (.iconst 0, 1) := by decide +kernel
theorem dX9_mergeBegin_79 : decode cX9_mergeBegin 79 = .ok (.istore_n 2, 1) := by decide +kernel
theorem dX9_mergeBegin_80 : decode cX9_mergeBegin 80 = .ok (.iload_n 2, 1) := by decide +kernel
theorem dX9_mergeBegin_81 : decode cX9_mergeBegin 81 = .ok (.aload_n 0, 1) := by decide +kernel
theorem dX9_mergeBegin_82 : decode cX9_mergeBegin 82 = .ok (.getfield 106, 3) := by decide +kernel
theorem dX9_mergeBegin_85 : decode cX9_mergeBegin 85 = .ok (.if_icmp .ge 46, 3) := by decide +kernel
theorem dX9_mergeBegin_88 : decode cX9_mergeBegin 88 = .ok (.aload_n 0, 1) := by decide +kernel
theorem dX9_mergeBegin_89 : decode cX9_mergeBegin 89 = .ok (.getfield 17, 3) := by decide +kernel
theorem dX9_mergeBegin_92 : decode cX9_mergeBegin 92 = .ok (.iload_n 2, 1) := by decide +kernel
theorem dX9_mergeBegin_93 : decode cX9_mergeBegin 93 = .ok (.iaload, 1) := by decide +kernel
theorem dX9_mergeBegin_94 : decode cX9_mergeBegin 94 = .ok (.ifCond .eq 6, 3) := by decide +kernel
theorem dX9_mergeBegin_97 : decode cX9_mergeBegin 97 = .ok (.goto 28, 3) := by decide +kernel
theorem dX9_mergeBegin_100 : decode cX9_mergeBegin 100 = .ok (.aload_n 0, 1) := by decide +kernel
theorem dX9_mergeBegin_101 : decode cX9_mergeBegin 101 = .ok (.getfield 71, 3) := by decide +kernel
theorem dX9_mergeBegin_104 : decode cX9_mergeBegin 104 = .ok (.aload_n 0, 1) := by decide +kernel
theorem dX9_mergeBegin_105 : decode cX9_mergeBegin 105 = .ok (.getfield 298, 3) := by decide +kernel
theorem dX9_mergeBegin_108 : decode cX9_mergeBegin 108 = .ok (.aload_n 0, 1) := by decide +kernel
theorem dX9_mergeBegin_109 : decode cX9_mergeBegin 109 = .ok (.getfield 13, 3) := by decide +kernel
theorem dX9_mergeBegin_112 : decode cX9_mergeBegin 112 = .ok (.iload_n 2, 1) := by decide +kernel
theorem dX9_mergeBegin_113 : decode cX9_mergeBegin 113 = .ok (.iaload, 1) := by decide +kernel
theorem dX9_mergeBegin_114 : decode cX9_mergeBegin 114 = .ok (.iastore, 1) := by decide +kernel
theorem dX9_mergeBegin_115 : decode cX9_mergeBegin 115 = .ok (.aload_n 0, 1) := by decide +kernel
theorem dX9_mergeBegin_116 : decode cX9_mergeBegin 116 = .ok (.dup, 1) := by decide +kernel
theorem dX9_mergeBegin_117 : decode cX9_mergeBegin 117 = .ok (.getfield 298, 3) := by decide +kernel
theorem dX9_mergeBegin_120 : decode cX9_mergeBegin 120 = .ok (.iconst 1, 1) := by decide +kernel
theorem dX9_mergeBegin_121 : decode cX9_mergeBegin 121 = .ok (.iadd, 1) := by decide +kernel
theorem dX9_mergeBegin_122 : decode cX9_mergeBegin 122 = .ok (.putfield 298, 3) := by decide +kernel
theorem dX9_mergeBegin_125 : decode cX9_mergeBegin 125 = .ok (.iinc 2 1, 3) := by decide +kernel
theorem dX9_mergeBegin_128 : decode cX9_mergeBegin 128 = .ok (.goto (-48), 3) := by decide +kernel
theorem dX9_mergeBegin_131 : decode cX9_mergeBegin 131 = .ok (.aload_n 0, 1) := by decide +kernel
theorem dX9_mergeBegin_132 : decode cX9_mergeBegin 132 = .ok (.invokevirtual 310, 3) := by decide +kernel
theorem dX9_mergeBegin_135 : decode cX9_mergeBegin 135 = .ok (.aload_n 0, 1) := by decide +kernel
theorem dX9_mergeBegin_136 : decode cX9_mergeBegin 136 = .ok (.aload_n 0, 1) := by decide +kernel
theorem dX9_mergeBegin_137 : decode cX9_mergeBegin 137 = .ok (.invokevirtual 313, 3) := by decide +kernel
theorem dX9_mergeBegin_140 : decode cX9_mergeBegin 140 = .ok (.putfield 207, 3) := by decide +kernel
theorem dX9_mergeBegin_143 : decode cX9_mergeBegin 143 = .ok (.aload_n 0, 1) := by decide +kernel
theorem dX9_mergeBegin_144 : decode cX9_mergeBegin 144 = .ok (.invokevirtual 213, 3) := by decide +kernel
theorem dX9_mergeBegin_147 : decode cX9_mergeBegin 147 = .ok (.aload_n 0, 1) := by decide +kernel
theorem dX9_mergeBegin_148 : decode cX9_mergeBegin 148 = .ok (.getfield 207, 3) := by decide +kernel
theorem dX9_mergeBegin_151 : decode cX9_mergeBegin 151 = .ok (.if_icmp .ge 10, 3) := by decide +kernel
theorem dX9_mergeBegin_154 : decode cX9_mergeBegin 154 = .ok (.aload_n 0, 1) := by decide +kernel
theorem dX9_mergeBegin_155 : decode cX9_mergeBegin 155 = .ok (.iconst 2, 1) := by decide +kernel
theorem dX9_mergeBegin_156 : decode cX9_mergeBegin 156 = .ok (.putfield 93, 3) := by decide +kernel
theorem dX9_mergeBegin_159 : decode cX9_mergeBegin 159 = .ok (.iconst 0, 1) := by decide +kernel
theorem dX9_mergeBegin_160 : decode cX9_mergeBegin 160 = .ok (.ireturn, 1) := by decide +kernel
theorem dX9_mergeBegin_161 : decode cX9_mergeBegin 161 = .ok (.aload_n 0, 1) := by decide +kernel
theorem dX9_mergeBegin_162 : decode cX9_mergeBegin 162 = .ok (.iconst (-1), 1) := by decide +kernel
theorem dX9_mergeBegin_163 : decode cX9_mergeBegin 163 = .ok (.putfield 137, 3) := by decide +kernel
theorem dX9_mergeBegin_166 : decode cX9_mergeBegin 166 = .ok (.aload_n 0, 1) := by decide +kernel
theorem dX9_mergeBegin_167 : decode cX9_mergeBegin 167 = .ok (.iconst 1, 1) := by decide +kernel
theorem dX9_mergeBegin_168 : decode cX9_mergeBegin 168 = .ok (.putfield 143, 3) := by decide +kernel
theorem dX9_mergeBegin_171 : decode cX9_mergeBegin 171 = .ok (.aload_n 0, 1) := by decide +kernel
theorem dX9_mergeBegin_172 : decode cX9_mergeBegin 172 = .ok (.iconst (-1), 1) := by decide +kernel
theorem dX9_mergeBegin_173 : decode cX9_mergeBegin 173 = .ok (.putfield 146, 3) := by decide +kernel
theorem dX9_mergeBegin_176 : decode cX9_mergeBegin 176 = .ok (.aload_n 0, 1) := by decide +kernel
theorem dX9_mergeBegin_177 : decode cX9_mergeBegin 177 = .ok (.iconst 0, 1) := by decide +kernel
theorem dX9_mergeBegin_178 : decode cX9_mergeBegin 178 = .ok (.putfield 316, 3) := by decide +kernel
theorem dX9_mergeBegin_181 : decode cX9_mergeBegin 181 = .ok (.aload_n 0, 1) := by decide +kernel
theorem dX9_mergeBegin_182 : decode cX9_mergeBegin 182 = .ok (.iconst 0, 1) := by decide +kernel
theorem dX9_mergeBegin_183 : decode cX9_mergeBegin 183 = .ok (.putfield 210, 3) := by decide +kernel
theorem dX9_mergeBegin_186 : decode cX9_mergeBegin 186 = .ok (.aload_n 0, 1) := by decide +kernel
theorem dX9_mergeBegin_187 : decode cX9_mergeBegin 187 = .ok (.iconst 0, 1) := by decide +kernel
theorem dX9_mergeBegin_188 : decode cX9_mergeBegin 188 = .ok (.putfield 304, 3) := by decide +kernel
theorem dX9_mergeBegin_191 : decode cX9_mergeBegin 191 = .ok (.aload_n 0, 1) := by decide +kernel
theorem dX9_mergeBegin_192 : decode cX9_mergeBegin 192 = .ok (.invokevirtual 319, 3) := by decide +kernel
theorem dX9_mergeBegin_195 : decode cX9_mergeBegin 195 = .ok (.ireturn, 1) := by decide +kernel
def X9_mergeBegin_b125 (k80 : Nat → Int32 → M Int32)  (a0 : Nat) (i2 : Int32) : M Int32 := k80 a0 (i2 + 1)
def X9_mergeBegin_b80b  (k80 : Nat → Int32 → M Int32) (a0 : Nat) (i2 : Int32) : M Int32 := bd (gI 12 8 a0) (fun x1 => it (x1 ≤ i2) (bd (ck 12 a0) (fun _ => bd (X9_takesLive a0) (fun _ => bd (ck 12 a0) (fun _ => bd (X9_needed a0) (fun x2 => bd (pV 12 36 a0 (.int x2)) (fun _ => bd (ck 12 a0) (fun _ => bd (X9_room a0) (fun x3 => bd (gI 12 36 a0) (fun x4 => it (x4 ≤ x3) (bd (pV 12 26 a0 (.int (-1))) (fun _ => bd (pV 12 34 a0 (.int 1)) (fun _ => bd (pV 12 35 a0 (.int (-1))) (fun _ => bd (pV 12 53 a0 (.int 0)) (fun _ => bd (pV 12 37 a0 (.int 0)) (fun _ => bd (pV 12 46 a0 (.int 0)) (fun _ => bd (ck 12 a0) (fun _ => bd (X9_unitsLeft a0) (fun x5 => pu x5))))))))) (bd (pV 12 0 a0 (.int 2)) (fun _ => pu 0))))))))))) (bd (gR 12 6 a0) (fun y6 => bd (al 22 y6 i2) (fun x7 => it (x7 = 0) (bd (gR 12 44 a0) (fun y8 => bd (gI 12 45 a0) (fun x9 => bd (gR 12 5 a0) (fun y10 => bd (al 22 y10 i2) (fun x11 => bd (as 22 y8 x9 x11) (fun _ => bd (gI 12 45 a0) (fun x12 => bd (pV 12 45 a0 (.int (x12 + 1))) (fun _ => X9_mergeBegin_b125 k80  a0 i2)))))))) (X9_mergeBegin_b125 k80  a0 i2)))))
def X9_mergeBegin_b80  : Nat → Nat → Int32 → M Int32
  | 0 => fun _ _ => fl
  | n + 1 => fun a0 i2 => X9_mergeBegin_b80b  (X9_mergeBegin_b80  n) a0 i2
def X9_mergeBegin_b59 (k36 : Nat → Int32 → Int32 → M Int32)  (a0 : Nat) (i2 : Int32) (s0 : Int32) (s1 : Int32) : M Int32 := bd (pu (s1 + s0)) (fun x1 => k36 a0 x1 (i2 + 1))
def X9_mergeBegin_b36b  (k36 : Nat → Int32 → Int32 → M Int32) (a0 : Nat) (i1 : Int32) (i2 : Int32) : M Int32 := bd (gI 12 8 a0) (fun x1 => it (x1 ≤ i2) (it (¬ i1 = 0) (bd (pV 12 45 a0 (.int 0)) (fun _ => X9_mergeBegin_b80  FU a0 0)) (pu 0)) (bd (gR 12 6 a0) (fun y2 => bd (al 22 y2 i2) (fun x3 => it (¬ x3 = 0) (X9_mergeBegin_b59 k36  a0 i2 0 i1) (X9_mergeBegin_b59 k36  a0 i2 1 i1)))))
def X9_mergeBegin_b36  : Nat → Nat → Int32 → Int32 → M Int32
  | 0 => fun _ _ _ => fl
  | n + 1 => fun a0 i1 i2 => X9_mergeBegin_b36b  (X9_mergeBegin_b36  n) a0 i1 i2
def X9_mergeBegin_b20   (a0 : Nat) (s0 : Int32) (s1 : Nat) : M Int32 := bd (pV 12 0 s1 (.int s0)) (fun _ => bd (gI 12 0 a0) (fun x1 => it (x1 ≤ 0) (X9_mergeBegin_b36  FU a0 0 0) (pu 0)))
def X9_mergeBegin_b15   (a0 : Nat) (s0 : Nat) : M Int32 := X9_mergeBegin_b20   a0 1 s0
def X9_mergeBegin (a0 : Nat) : M Int32 := bd (gI 12 23 a0) (fun x1 => it (x1 = 0) (X9_mergeBegin_b15   a0 a0) (bd (gI 12 34 a0) (fun x2 => it (x2 ≤ 0) (X9_mergeBegin_b20   a0 0 a0) (X9_mergeBegin_b15   a0 a0))))
section
variable {G : Gx} {p : Program} {l : Launch} {e : Env} {R : Room} {s : State} {m : MethodId} {args : Array Value} {below : List Frame} {meth : Method} {c : Code} {h0 : Hp} {r : Int32} {h' : Hp}
set_option maxRecDepth 20000 in
theorem X9_mergeBegin_b125_s (C : Cx G p R s m args meth c cX9_mergeBegin 3 yX9_mergeBegin.cls h0 h') (hF : R.frames = 5) (hO : R.locals = 117) (hr : meth.sig.returnType = (some .int)) (hm : meth.name = yX9_mergeBegin.name) {k80 : Nat → Int32 → M Int32} (hk80 : ∀ (a0 : Nat) (i2 : Int32), Sm G (QM G rvI below args s h0 r h') p l e R s m args below meth c 3 h0 r h' 80 [(0, .ref a0), (2, .int i2)] [] (k80 a0 i2))  (a0 : Nat) (i2 : Int32) : Sm G (QM G rvI below args s h0 r h') p l e R s m args below meth c 3 h0 r h' 125 [(0, .ref a0), (2, .int i2)] [] (X9_mergeBegin_b125 k80  a0 i2) := by
  refine s_iincK (lv' := [(2, .int (i2 + 1)), (0, .ref a0)]) (w := 1) C 1 dX9_mergeBegin_125 rfl (by decide) (by decide) rfl ?_
  refine s_goto (tgt := 80) C dX9_mergeBegin_128 (by decide) ?_
  refine s_sub [1, 0] rfl ?_
  exact hk80 a0 (i2 + 1)
set_option maxRecDepth 20000 in
theorem X9_mergeBegin_b80b_s (C : Cx G p R s m args meth c cX9_mergeBegin 3 yX9_mergeBegin.cls h0 h') (hF : R.frames = 5) (hO : R.locals = 117) (hr : meth.sig.returnType = (some .int)) (hm : meth.name = yX9_mergeBegin.name)  {k80 : Nat → Int32 → M Int32} (hk80 : ∀ (a0 : Nat) (i2 : Int32), Sm G (QM G rvI below args s h0 r h') p l e R s m args below meth c 3 h0 r h' 80 [(0, .ref a0), (2, .int i2)] [] (k80 a0 i2)) (a0 : Nat) (i2 : Int32) : Sm G (QM G rvI below args s h0 r h') p l e R s m args below meth c 3 h0 r h' 80 [(0, .ref a0), (2, .int i2)] [] (X9_mergeBegin_b80b  k80 a0 i2) := by
  refine s_iload_n C 1 dX9_mergeBegin_80 rfl rfl ?_
  refine s_aload_n C 0 dX9_mergeBegin_81 rfl rfl ?_
  refine s_gI C ci12 8 (by decide) (Or.inl wd_6_123) dX9_mergeBegin_82 (fun x1 => ?_)
  refine s_icmp_ge (tgt := 131) C dX9_mergeBegin_85 (by decide) ?_ ?_
  · refine s_aload_n C 0 dX9_mergeBegin_131 rfl rfl ?_
    refine s_invV_u C ci12 cy_X9_takesLive (Or.inl wd_7_219) rfl wd_7_221 wp_59 (con_X9_takesLive l G a0) rfl rfl (Nat.le_of_ble_eq_true rfl) (by rw [hF]; decide) (by rw [hO]; exact Nat.le_of_ble_eq_true rfl) dX9_mergeBegin_132 ?_
    refine s_aload_n C 0 dX9_mergeBegin_135 rfl rfl ?_
    refine s_aload_n C 0 dX9_mergeBegin_136 rfl rfl ?_
    refine s_invV_i C ci12 cy_X9_needed (Or.inl wd_7_223) rfl wd_7_225 wp_60 (con_X9_needed l G a0) rfl rfl (Nat.le_of_ble_eq_true rfl) (by rw [hF]; decide) (by rw [hO]; exact Nat.le_of_ble_eq_true rfl) dX9_mergeBegin_137 (fun x2 => ?_)
    refine s_pV C ci12 36 (by decide) rfl (Or.inl wd_6_151) dX9_mergeBegin_140 rfl rfl ?_
    refine s_aload_n C 0 dX9_mergeBegin_143 rfl rfl ?_
    refine s_invV_i C ci12 cy_X9_room (Or.inl wd_7_63) rfl wd_7_65 wp_32 (con_X9_room l G a0) rfl rfl (Nat.le_of_ble_eq_true rfl) (by rw [hF]; decide) (by rw [hO]; exact Nat.le_of_ble_eq_true rfl) dX9_mergeBegin_144 (fun x3 => ?_)
    refine s_aload_n C 0 dX9_mergeBegin_147 rfl rfl ?_
    refine s_gI C ci12 36 (by decide) (Or.inl wd_6_151) dX9_mergeBegin_148 (fun x4 => ?_)
    refine s_icmp_ge (tgt := 161) C dX9_mergeBegin_151 (by decide) ?_ ?_
    · refine s_aload_n C 0 dX9_mergeBegin_161 rfl rfl ?_
      refine s_iconst (v := (-1)) C dX9_mergeBegin_162 (by decide) ?_
      refine s_pV C ci12 26 (by decide) rfl (Or.inl wd_6_141) dX9_mergeBegin_163 rfl rfl ?_
      refine s_aload_n C 0 dX9_mergeBegin_166 rfl rfl ?_
      refine s_iconst (v := 1) C dX9_mergeBegin_167 (by decide) ?_
      refine s_pV C ci12 34 (by decide) rfl (Or.inl wd_6_149) dX9_mergeBegin_168 rfl rfl ?_
      refine s_aload_n C 0 dX9_mergeBegin_171 rfl rfl ?_
      refine s_iconst (v := (-1)) C dX9_mergeBegin_172 (by decide) ?_
      refine s_pV C ci12 35 (by decide) rfl (Or.inl wd_6_150) dX9_mergeBegin_173 rfl rfl ?_
      refine s_aload_n C 0 dX9_mergeBegin_176 rfl rfl ?_
      refine s_iconst (v := 0) C dX9_mergeBegin_177 (by decide) ?_
      refine s_pV C ci12 53 (by decide) rfl (Or.inl wd_6_168) dX9_mergeBegin_178 rfl rfl ?_
      refine s_aload_n C 0 dX9_mergeBegin_181 rfl rfl ?_
      refine s_iconst (v := 0) C dX9_mergeBegin_182 (by decide) ?_
      refine s_pV C ci12 37 (by decide) rfl (Or.inl wd_6_152) dX9_mergeBegin_183 rfl rfl ?_
      refine s_aload_n C 0 dX9_mergeBegin_186 rfl rfl ?_
      refine s_iconst (v := 0) C dX9_mergeBegin_187 (by decide) ?_
      refine s_pV C ci12 46 (by decide) rfl (Or.inl wd_6_161) dX9_mergeBegin_188 rfl rfl ?_
      refine s_aload_n C 0 dX9_mergeBegin_191 rfl rfl ?_
      refine s_invV_i C ci12 cy_X9_unitsLeft (Or.inl wd_7_231) rfl wd_7_233 wp_62 (con_X9_unitsLeft l G a0) rfl rfl (Nat.le_of_ble_eq_true rfl) (by rw [hF]; decide) (by rw [hO]; exact Nat.le_of_ble_eq_true rfl) dX9_mergeBegin_192 (fun x5 => ?_)
      exact s_iret C hr rfl dX9_mergeBegin_195
    refine s_aload_n C 0 dX9_mergeBegin_154 rfl rfl ?_
    refine s_iconst (v := 2) C dX9_mergeBegin_155 (by decide) ?_
    refine s_pV C ci12 0 (by decide) rfl (Or.inl wd_6_115) dX9_mergeBegin_156 rfl rfl ?_
    refine s_iconst (v := 0) C dX9_mergeBegin_159 (by decide) ?_
    exact s_iret C hr rfl dX9_mergeBegin_160
  refine s_aload_n C 0 dX9_mergeBegin_88 rfl rfl ?_
  refine s_gR C ci12 6 (by decide) (Or.inl wd_6_121) dX9_mergeBegin_89 (fun y6 => ?_)
  refine s_iload_n C 1 dX9_mergeBegin_92 rfl rfl ?_
  refine s_al22 C dX9_mergeBegin_93 (fun x7 => ?_)
  refine s_if_eq (tgt := 100) C dX9_mergeBegin_94 (by decide) ?_ ?_
  · refine s_aload_n C 0 dX9_mergeBegin_100 rfl rfl ?_
    refine s_gR C ci12 44 (by decide) (Or.inl wd_6_159) dX9_mergeBegin_101 (fun y8 => ?_)
    refine s_aload_n C 0 dX9_mergeBegin_104 rfl rfl ?_
    refine s_gI C ci12 45 (by decide) (Or.inl wd_6_160) dX9_mergeBegin_105 (fun x9 => ?_)
    refine s_aload_n C 0 dX9_mergeBegin_108 rfl rfl ?_
    refine s_gR C ci12 5 (by decide) (Or.inl wd_6_120) dX9_mergeBegin_109 (fun y10 => ?_)
    refine s_iload_n C 1 dX9_mergeBegin_112 rfl rfl ?_
    refine s_al22 C dX9_mergeBegin_113 (fun x11 => ?_)
    refine s_as22 C dX9_mergeBegin_114 ?_
    refine s_aload_n C 0 dX9_mergeBegin_115 rfl rfl ?_
    refine s_dup C dX9_mergeBegin_116 rfl ?_
    refine s_gI C ci12 45 (by decide) (Or.inl wd_6_160) dX9_mergeBegin_117 (fun x12 => ?_)
    refine s_iconst (v := 1) C dX9_mergeBegin_120 (by decide) ?_
    refine s_iadd C dX9_mergeBegin_121 ?_
    refine s_pV C ci12 45 (by decide) rfl (Or.inl wd_6_160) dX9_mergeBegin_122 rfl rfl ?_
    exact X9_mergeBegin_b125_s C hF hO hr hm hk80  a0 i2
  refine s_goto (tgt := 125) C dX9_mergeBegin_97 (by decide) ?_
  exact X9_mergeBegin_b125_s C hF hO hr hm hk80  a0 i2
set_option maxRecDepth 20000 in
theorem X9_mergeBegin_b80_s (C : Cx G p R s m args meth c cX9_mergeBegin 3 yX9_mergeBegin.cls h0 h') (hF : R.frames = 5) (hO : R.locals = 117) (hr : meth.sig.returnType = (some .int)) (hm : meth.name = yX9_mergeBegin.name)  (n : Nat) : ∀ (a0 : Nat) (i2 : Int32), Sm G (QM G rvI below args s h0 r h') p l e R s m args below meth c 3 h0 r h' 80 [(0, .ref a0), (2, .int i2)] [] (X9_mergeBegin_b80  n a0 i2) := by
  induction n with
  | zero => intro a0 i2; exact s_fl
  | succ n ih => intro a0 i2; exact X9_mergeBegin_b80b_s C hF hO hr hm  ih a0 i2
set_option maxRecDepth 20000 in
theorem X9_mergeBegin_b59_s (C : Cx G p R s m args meth c cX9_mergeBegin 3 yX9_mergeBegin.cls h0 h') (hF : R.frames = 5) (hO : R.locals = 117) (hr : meth.sig.returnType = (some .int)) (hm : meth.name = yX9_mergeBegin.name) {k36 : Nat → Int32 → Int32 → M Int32} (hk36 : ∀ (a0 : Nat) (i1 : Int32) (i2 : Int32), Sm G (QM G rvI below args s h0 r h') p l e R s m args below meth c 3 h0 r h' 36 [(0, .ref a0), (1, .int i1), (2, .int i2)] [] (k36 a0 i1 i2))  (a0 : Nat) (i2 : Int32) (s0 : Int32) (s1 : Int32) : Sm G (QM G rvI below args s h0 r h') p l e R s m args below meth c 3 h0 r h' 59 [(0, .ref a0), (2, .int i2)] [.int s0, .int s1] (X9_mergeBegin_b59 k36  a0 i2 s0 s1) := by
  refine s_iadd C dX9_mergeBegin_59 ?_
  refine s_let (fun x1 => ?_)
  refine s_istore_n (lv' := [(1, .int x1), (0, .ref a0), (2, .int i2)]) C dX9_mergeBegin_60 rfl (by decide) rfl ?_
  refine s_iincK (lv' := [(2, .int (i2 + 1)), (1, .int x1), (0, .ref a0)]) (w := 1) C 2 dX9_mergeBegin_61 rfl (by decide) (by decide) rfl ?_
  refine s_goto (tgt := 36) C dX9_mergeBegin_64 (by decide) ?_
  refine s_sub [2, 1, 0] rfl ?_
  exact hk36 a0 x1 (i2 + 1)
set_option maxRecDepth 20000 in
theorem X9_mergeBegin_b36b_s (C : Cx G p R s m args meth c cX9_mergeBegin 3 yX9_mergeBegin.cls h0 h') (hF : R.frames = 5) (hO : R.locals = 117) (hr : meth.sig.returnType = (some .int)) (hm : meth.name = yX9_mergeBegin.name)  {k36 : Nat → Int32 → Int32 → M Int32} (hk36 : ∀ (a0 : Nat) (i1 : Int32) (i2 : Int32), Sm G (QM G rvI below args s h0 r h') p l e R s m args below meth c 3 h0 r h' 36 [(0, .ref a0), (1, .int i1), (2, .int i2)] [] (k36 a0 i1 i2)) (a0 : Nat) (i1 : Int32) (i2 : Int32) : Sm G (QM G rvI below args s h0 r h') p l e R s m args below meth c 3 h0 r h' 36 [(0, .ref a0), (1, .int i1), (2, .int i2)] [] (X9_mergeBegin_b36b  k36 a0 i1 i2) := by
  refine s_iload_n C 2 dX9_mergeBegin_36 rfl rfl ?_
  refine s_aload_n C 0 dX9_mergeBegin_37 rfl rfl ?_
  refine s_gI C ci12 8 (by decide) (Or.inl wd_6_123) dX9_mergeBegin_38 (fun x1 => ?_)
  refine s_icmp_ge (tgt := 67) C dX9_mergeBegin_41 (by decide) ?_ ?_
  · refine s_iload_n C 1 dX9_mergeBegin_67 rfl rfl ?_
    refine s_if_ne (tgt := 73) C dX9_mergeBegin_68 (by decide) ?_ ?_
    · refine s_aload_n C 0 dX9_mergeBegin_73 rfl rfl ?_
      refine s_iconst (v := 0) C dX9_mergeBegin_74 (by decide) ?_
      refine s_pV C ci12 45 (by decide) rfl (Or.inl wd_6_160) dX9_mergeBegin_75 rfl rfl ?_
      refine s_iconst (v := 0) C dX9_mergeBegin_78 (by decide) ?_
      refine s_istore_n (lv' := [(2, .int 0), (0, .ref a0), (1, .int i1)]) C dX9_mergeBegin_79 rfl (by decide) rfl ?_
      refine s_sub [1, 0] rfl ?_
      exact X9_mergeBegin_b80_s C hF hO hr hm  FU a0 0
    refine s_iconst (v := 0) C dX9_mergeBegin_71 (by decide) ?_
    exact s_iret C hr rfl dX9_mergeBegin_72
  refine s_iload_n C 1 dX9_mergeBegin_44 rfl rfl ?_
  refine s_aload_n C 0 dX9_mergeBegin_45 rfl rfl ?_
  refine s_gR C ci12 6 (by decide) (Or.inl wd_6_121) dX9_mergeBegin_46 (fun y2 => ?_)
  refine s_iload_n C 2 dX9_mergeBegin_49 rfl rfl ?_
  refine s_al22 C dX9_mergeBegin_50 (fun x3 => ?_)
  refine s_if_ne (tgt := 58) C dX9_mergeBegin_51 (by decide) ?_ ?_
  · refine s_iconst (v := 0) C dX9_mergeBegin_58 (by decide) ?_
    refine s_sub [0, 2] rfl ?_
    exact X9_mergeBegin_b59_s C hF hO hr hm hk36  a0 i2 0 i1
  refine s_iconst (v := 1) C dX9_mergeBegin_54 (by decide) ?_
  refine s_goto (tgt := 59) C dX9_mergeBegin_55 (by decide) ?_
  refine s_sub [0, 2] rfl ?_
  exact X9_mergeBegin_b59_s C hF hO hr hm hk36  a0 i2 1 i1
set_option maxRecDepth 20000 in
theorem X9_mergeBegin_b36_s (C : Cx G p R s m args meth c cX9_mergeBegin 3 yX9_mergeBegin.cls h0 h') (hF : R.frames = 5) (hO : R.locals = 117) (hr : meth.sig.returnType = (some .int)) (hm : meth.name = yX9_mergeBegin.name)  (n : Nat) : ∀ (a0 : Nat) (i1 : Int32) (i2 : Int32), Sm G (QM G rvI below args s h0 r h') p l e R s m args below meth c 3 h0 r h' 36 [(0, .ref a0), (1, .int i1), (2, .int i2)] [] (X9_mergeBegin_b36  n a0 i1 i2) := by
  induction n with
  | zero => intro a0 i1 i2; exact s_fl
  | succ n ih => intro a0 i1 i2; exact X9_mergeBegin_b36b_s C hF hO hr hm  ih a0 i1 i2
set_option maxRecDepth 20000 in
theorem X9_mergeBegin_b20_s (C : Cx G p R s m args meth c cX9_mergeBegin 3 yX9_mergeBegin.cls h0 h') (hF : R.frames = 5) (hO : R.locals = 117) (hr : meth.sig.returnType = (some .int)) (hm : meth.name = yX9_mergeBegin.name)   (a0 : Nat) (s0 : Int32) (s1 : Nat) : Sm G (QM G rvI below args s h0 r h') p l e R s m args below meth c 3 h0 r h' 20 [(0, .ref a0)] [.int s0, .ref s1] (X9_mergeBegin_b20   a0 s0 s1) := by
  refine s_pV C ci12 0 (by decide) rfl (Or.inl wd_6_115) dX9_mergeBegin_20 rfl rfl ?_
  refine s_aload_n C 0 dX9_mergeBegin_23 rfl rfl ?_
  refine s_gI C ci12 0 (by decide) (Or.inl wd_6_115) dX9_mergeBegin_24 (fun x1 => ?_)
  refine s_if_le (tgt := 32) C dX9_mergeBegin_27 (by decide) ?_ ?_
  · refine s_iconst (v := 0) C dX9_mergeBegin_32 (by decide) ?_
    refine s_istore_n (lv' := [(1, .int 0), (0, .ref a0)]) C dX9_mergeBegin_33 rfl (by decide) rfl ?_
    refine s_iconst (v := 0) C dX9_mergeBegin_34 (by decide) ?_
    refine s_istore_n (lv' := [(2, .int 0), (1, .int 0), (0, .ref a0)]) C dX9_mergeBegin_35 rfl (by decide) rfl ?_
    refine s_sub [2, 1, 0] rfl ?_
    exact X9_mergeBegin_b36_s C hF hO hr hm  FU a0 0 0
  refine s_iconst (v := 0) C dX9_mergeBegin_30 (by decide) ?_
  exact s_iret C hr rfl dX9_mergeBegin_31
set_option maxRecDepth 20000 in
theorem X9_mergeBegin_b15_s (C : Cx G p R s m args meth c cX9_mergeBegin 3 yX9_mergeBegin.cls h0 h') (hF : R.frames = 5) (hO : R.locals = 117) (hr : meth.sig.returnType = (some .int)) (hm : meth.name = yX9_mergeBegin.name)   (a0 : Nat) (s0 : Nat) : Sm G (QM G rvI below args s h0 r h') p l e R s m args below meth c 3 h0 r h' 15 [(0, .ref a0)] [.ref s0] (X9_mergeBegin_b15   a0 s0) := by
  refine s_iconst (v := 1) C dX9_mergeBegin_15 (by decide) ?_
  refine s_goto (tgt := 20) C dX9_mergeBegin_16 (by decide) ?_
  exact X9_mergeBegin_b20_s C hF hO hr hm   a0 1 s0
end
set_option maxRecDepth 20000 in
theorem con_X9_mergeBegin (l : Launch) (G : Gx) (a0 : Nat) : Con G rvI l yX9_mergeBegin cX9_mergeBegin 3 (some .int) 5 117 [.ref a0] (X9_mergeBegin a0) := by
  refine con_of (lv := [(0, .ref a0)]) (by decide) (Nat.le_of_ble_eq_true rfl) rfl (fun p e R s m args below meth c h0 r h' C hF hO hr hm => ?_)
  refine s_aload_n C 0 dX9_mergeBegin_0 rfl rfl ?_
  refine s_aload_n C 0 dX9_mergeBegin_1 rfl rfl ?_
  refine s_gI C ci12 23 (by decide) (Or.inl wd_6_138) dX9_mergeBegin_2 (fun x1 => ?_)
  refine s_if_eq (tgt := 15) C dX9_mergeBegin_5 (by decide) ?_ ?_
  · exact X9_mergeBegin_b15_s C hF hO hr hm   a0 a0
  refine s_aload_n C 0 dX9_mergeBegin_8 rfl rfl ?_
  refine s_gI C ci12 34 (by decide) (Or.inl wd_6_149) dX9_mergeBegin_9 (fun x2 => ?_)
  refine s_if_le (tgt := 19) C dX9_mergeBegin_12 (by decide) ?_ ?_
  · refine s_iconst (v := 0) C dX9_mergeBegin_19 (by decide) ?_
    exact X9_mergeBegin_b20_s C hF hO hr hm   a0 0 a0
  exact X9_mergeBegin_b15_s C hF hO hr hm   a0 a0

theorem dX9_brings_0 : decode cX9_brings 0 = .ok (.aload_n 0, 1) := by decide +kernel
theorem dX9_brings_1 : decode cX9_brings 1 = .ok (.dup, 1) := by decide +kernel
theorem dX9_brings_2 : decode cX9_brings 2 = .ok (.getfield 210, 3) := by decide +kernel
theorem dX9_brings_5 : decode cX9_brings 5 = .ok (.aload_n 0, 1) := by decide +kernel
theorem dX9_brings_6 : decode cX9_brings 6 = .ok (.getfield 157, 3) := by decide +kernel
theorem dX9_brings_9 : decode cX9_brings 9 = .ok (.iadd, 1) := by decide +kernel
theorem dX9_brings_10 : decode cX9_brings 10 = .ok (.putfield 210, 3) := by decide +kernel
theorem dX9_brings_13 : decode cX9_brings 13 = .ok (.aload_n 0, 1) := by decide +kernel
theorem dX9_brings_14 : decode cX9_brings 14 = .ok (.iload_n 1, 1) := by decide +kernel
theorem dX9_brings_15 : decode cX9_brings 15 = .ok (.iload_n 2, 1) := by decide +kernel
theorem dX9_brings_16 : decode cX9_brings 16 = .ok (.invokevirtual 226, 3) := by decide +kernel
theorem dX9_brings_19 : decode cX9_brings 19 = .ok (.return_, 1) := by decide +kernel
def X9_brings (a0 : Nat) (i1 : Int32) (i2 : Int32) : M Unit := bd (gI 12 37 a0) (fun x1 => bd (gI 12 14 a0) (fun x2 => bd (pV 12 37 a0 (.int (x1 + x2))) (fun _ => bd (ck 12 a0) (fun _ => bd (X9_comes a0 i1 i2) (fun _ => pu ())))))
section
variable {G : Gx} {p : Program} {l : Launch} {e : Env} {R : Room} {s : State} {m : MethodId} {args : Array Value} {below : List Frame} {meth : Method} {c : Code} {h0 : Hp} {r : Unit} {h' : Hp}
end
set_option maxRecDepth 20000 in
theorem con_X9_brings (l : Launch) (G : Gx) (a0 : Nat) (i1 : Int32) (i2 : Int32) : Con G rvU l yX9_brings cX9_brings 3 none 2 48 [.ref a0, .int i1, .int i2] (X9_brings a0 i1 i2) := by
  refine con_of (lv := [(0, .ref a0), (1, .int i1), (2, .int i2)]) (by decide) (Nat.le_of_ble_eq_true rfl) rfl (fun p e R s m args below meth c h0 r h' C hF hO hr hm => ?_)
  refine s_aload_n C 0 dX9_brings_0 rfl rfl ?_
  refine s_dup C dX9_brings_1 rfl ?_
  refine s_gI C ci12 37 (by decide) (Or.inl wd_6_152) dX9_brings_2 (fun x1 => ?_)
  refine s_aload_n C 0 dX9_brings_5 rfl rfl ?_
  refine s_gI C ci12 14 (by decide) (Or.inl wd_6_129) dX9_brings_6 (fun x2 => ?_)
  refine s_iadd C dX9_brings_9 ?_
  refine s_pV C ci12 37 (by decide) rfl (Or.inl wd_6_152) dX9_brings_10 rfl rfl ?_
  refine s_aload_n C 0 dX9_brings_13 rfl rfl ?_
  refine s_iload_n C 1 dX9_brings_14 rfl rfl ?_
  refine s_iload_n C 2 dX9_brings_15 rfl rfl ?_
  refine s_invV_u C ci12 cy_X9_comes (Or.inl wd_7_92) rfl wd_7_94 wp_38 (con_X9_comes l G a0 i1 i2) rfl rfl (Nat.le_of_ble_eq_true rfl) (by rw [hF]; decide) (by rw [hO]; exact Nat.le_of_ble_eq_true rfl) dX9_brings_16 ?_
  exact s_vret C hr rfl dX9_brings_19

theorem dX9_hints_0 : decode cX9_hints 0 = .ok (.aload_n 0, 1) := by decide +kernel
theorem dX9_hints_1 : decode cX9_hints 1 = .ok (.iconst 0, 1) := by decide +kernel
theorem dX9_hints_2 : decode cX9_hints 2 = .ok (.putfield 157, 3) := by decide +kernel
theorem dX9_hints_5 : decode cX9_hints 5 = .ok (.aload_n 0, 1) := by decide +kernel
theorem dX9_hints_6 : decode cX9_hints 6 = .ok (.aload_n 0, 1) := by decide +kernel
theorem dX9_hints_7 : decode cX9_hints 7 = .ok (.getfield 316, 3) := by decide +kernel
theorem dX9_hints_10 : decode cX9_hints 10 = .ok (.iconst 4, 1) := by decide +kernel
theorem dX9_hints_11 : decode cX9_hints 11 = .ok (.invokevirtual 223, 3) := by decide +kernel
theorem dX9_hints_14 : decode cX9_hints 14 = .ok (.iconst 0, 1) := by decide +kernel
theorem dX9_hints_15 : decode cX9_hints 15 = .ok (.istore_n 1, 1) := by decide +kernel
theorem dX9_hints_16 : decode cX9_hints 16 = .ok (.iload_n 1, 1) := by decide +kernel
theorem dX9_hints_17 : decode cX9_hints 17 = .ok (.aload_n 0, 1) := by decide +kernel
theorem dX9_hints_18 : decode cX9_hints 18 = .ok (.getfield 316, 3) := by decide +kernel
theorem dX9_hints_21 : decode cX9_hints 21 = .ok (.if_icmp .ge 87, 3) := by decide +kernel
theorem dX9_hints_24 : decode cX9_hints 24 = .ok (.aload_n 0, 1) := by decide +kernel
theorem dX9_hints_25 : decode cX9_hints 25 = .ok (.aload_n 0, 1) := by decide +kernel
theorem dX9_hints_26 : decode cX9_hints 26 = .ok (.getfield 86, 3) := by decide +kernel
theorem dX9_hints_29 : decode cX9_hints 29 = .ok (.iload_n 1, 1) := by decide +kernel
theorem dX9_hints_30 : decode cX9_hints 30 = .ok (.iaload, 1) := by decide +kernel
theorem dX9_hints_31 : decode cX9_hints 31 = .ok (.iconst 4, 1) := by decide +kernel
theorem dX9_hints_32 : decode cX9_hints 32 = .ok (.invokevirtual 223, 3) := by decide +kernel
theorem dX9_hints_35 : decode cX9_hints 35 = .ok (.aload_n 0, 1) := by decide +kernel
theorem dX9_hints_36 : decode cX9_hints 36 = .ok (.aload_n 0, 1) := by decide +kernel
theorem dX9_hints_37 : decode cX9_hints 37 = .ok (.getfield 80, 3) := by decide +kernel
theorem dX9_hints_40 : decode cX9_hints 40 = .ok (.iload_n 1, 1) := by decide +kernel
theorem dX9_hints_41 : decode cX9_hints 41 = .ok (.iaload, 1) := by decide +kernel
theorem dX9_hints_42 : decode cX9_hints 42 = .ok (.iconst 4, 1) := by decide +kernel
theorem dX9_hints_43 : decode cX9_hints 43 = .ok (.invokevirtual 223, 3) := by decide +kernel
theorem dX9_hints_46 : decode cX9_hints 46 = .ok (.aload_n 0, 1) := by decide +kernel
theorem dX9_hints_47 : decode cX9_hints 47 = .ok (.aload_n 0, 1) := by decide +kernel
theorem dX9_hints_48 : decode cX9_hints 48 = .ok (.getfield 77, 3) := by decide +kernel
theorem dX9_hints_51 : decode cX9_hints 51 = .ok (.iload_n 1, 1) := by decide +kernel
theorem dX9_hints_52 : decode cX9_hints 52 = .ok (.iaload, 1) := by decide +kernel
theorem dX9_hints_53 : decode cX9_hints 53 = .ok (.iconst 2, 1) := by decide +kernel
theorem dX9_hints_54 : decode cX9_hints 54 = .ok (.invokevirtual 223, 3) := by decide +kernel
theorem dX9_hints_57 : decode cX9_hints 57 = .ok (.aload_n 0, 1) := by decide +kernel
theorem dX9_hints_58 : decode cX9_hints 58 = .ok (.aload_n 0, 1) := by decide +kernel
theorem dX9_hints_59 : decode cX9_hints 59 = .ok (.getfield 83, 3) := by decide +kernel
theorem dX9_hints_62 : decode cX9_hints 62 = .ok (.iload_n 1, 1) := by decide +kernel
theorem dX9_hints_63 : decode cX9_hints 63 = .ok (.iaload, 1) := by decide +kernel
theorem dX9_hints_64 : decode cX9_hints 64 = .ok (.iconst 4, 1) := by decide +kernel
theorem dX9_hints_65 : decode cX9_hints 65 = .ok (.invokevirtual 223, 3) := by decide +kernel
theorem dX9_hints_68 : decode cX9_hints 68 = .ok (.iconst 0, 1) := by decide +kernel
theorem dX9_hints_69 : decode cX9_hints 69 = .ok (.istore_n 2, 1) := by decide +kernel
theorem dX9_hints_70 : decode cX9_hints 70 = .ok (.iload_n 2, 1) := by decide +kernel
theorem dX9_hints_71 : decode cX9_hints 71 = .ok (.aload_n 0, 1) := by decide +kernel
theorem dX9_hints_72 : decode cX9_hints 72 = .ok (.getfield 77, 3) := by decide +kernel
theorem dX9_hints_75 : decode cX9_hints 75 = .ok (.iload_n 1, 1) := by decide +kernel
theorem dX9_hints_76 : decode cX9_hints 76 = .ok (.iaload, 1) := by decide +kernel
theorem dX9_hints_77 : decode cX9_hints 77 = .ok (.if_icmp .ge 25, 3) := by decide +kernel
theorem dX9_hints_80 : decode cX9_hints 80 = .ok (.aload_n 0, 1) := by decide +kernel
theorem dX9_hints_81 : decode cX9_hints 81 = .ok (.aload_n 0, 1) := by decide +kernel
theorem dX9_hints_82 : decode cX9_hints 82 = .ok (.getfield 74, 3) := by decide +kernel
theorem dX9_hints_85 : decode cX9_hints 85 = .ok (.bipush 16, 2) := by decide +kernel
theorem dX9_hints_87 : decode cX9_hints 87 = .ok (.iload_n 1, 1) := by decide +kernel
theorem dX9_hints_88 : decode cX9_hints 88 = .ok (.imul, 1) := by decide +kernel
theorem dX9_hints_89 : decode cX9_hints 89 = .ok (.iload_n 2, 1) := by decide +kernel
theorem dX9_hints_90 : decode cX9_hints 90 = .ok (.iadd, 1) := by decide +kernel
theorem dX9_hints_91 : decode cX9_hints 91 = .ok (.baload, 1) := by decide +kernel
theorem dX9_hints_92 : decode cX9_hints 92 = .ok (.iconst 1, 1) := by decide +kernel
theorem dX9_hints_93 : decode cX9_hints 93 = .ok (.invokevirtual 223, 3) := by decide +kernel
theorem dX9_hints_96 : decode cX9_hints 96 = .ok (.iinc 2 1, 3) := by decide +kernel
theorem dX9_hints_99 : decode cX9_hints 99 = .ok (.goto (-29), 3) := by decide +kernel
theorem dX9_hints_102 : decode cX9_hints 102 = .ok (.iinc 1 1, 3) := by decide +kernel
theorem dX9_hints_105 : decode cX9_hints 105 = .ok (.goto (-89), 3) := by decide +kernel
theorem dX9_hints_108 : decode cX9_hints 108 = .ok (.aload_n 0, 1) := by decide +kernel
theorem dX9_hints_109 : decode cX9_hints 109 = .ok (.aload_n 0, 1) := by decide +kernel
theorem dX9_hints_110 : decode cX9_hints 110 = .ok (.getfield 32, 3) := by decide +kernel
theorem dX9_hints_113 : decode cX9_hints 113 = .ok (.iconst 0, 1) := by decide +kernel
theorem dX9_hints_114 : decode cX9_hints 114 = .ok (.aload_n 0, 1) := by decide +kernel
theorem dX9_hints_115 : decode cX9_hints 115 = .ok (.getfield 157, 3) := by decide +kernel
theorem dX9_hints_118 : decode cX9_hints 118 = .ok (.invokestatic 194, 3) := by decide +kernel
theorem dX9_hints_121 : decode cX9_hints 121 = .ok (.iconst 4, 1) := by decide +kernel
theorem dX9_hints_122 : decode cX9_hints 122 = .ok (.invokevirtual 223, 3) := by decide +kernel
theorem dX9_hints_125 : decode cX9_hints 125 = .ok (.aload_n 0, 1) := by decide +kernel
theorem dX9_hints_126 : decode cX9_hints 126 = .ok (.aload_n 0, 1) := by decide +kernel
theorem dX9_hints_127 : decode cX9_hints 127 = .ok (.getfield 146, 3) := by decide +kernel
theorem dX9_hints_130 : decode cX9_hints 130 = .ok (.iconst 1, 1) := by decide +kernel
theorem dX9_hints_131 : decode cX9_hints 131 = .ok (.invokevirtual 322, 3) := by decide +kernel
theorem dX9_hints_134 : decode cX9_hints 134 = .ok (.return_, 1) := by decide +kernel
def X9_hints_b70b (k16 : Nat → Int32 → M Unit) (k70 : Nat → Int32 → Int32 → M Unit) (a0 : Nat) (i1 : Int32) (i2 : Int32) : M Unit := bd (gR 12 49 a0) (fun y1 => bd (al 22 y1 i1) (fun x2 => it (x2 ≤ i2) (k16 a0 (i1 + 1)) (bd (gR 12 48 a0) (fun y3 => bd (al 21 y3 ((16 * i1) + i2)) (fun x4 => bd (ck 12 a0) (fun _ => bd (X9_drafts a0 x4 1) (fun _ => k70 a0 i1 (i2 + 1))))))))
def X9_hints_b70 (k16 : Nat → Int32 → M Unit) : Nat → Nat → Int32 → Int32 → M Unit
  | 0 => fun _ _ _ => fl
  | n + 1 => fun a0 i1 i2 => X9_hints_b70b k16 (X9_hints_b70 k16 n) a0 i1 i2
def X9_hints_b16b  (k16 : Nat → Int32 → M Unit) (a0 : Nat) (i1 : Int32) : M Unit := bd (gI 12 53 a0) (fun x1 => it (x1 ≤ i1) (bd (gR 12 13 a0) (fun y2 => bd (gI 12 14 a0) (fun x3 => bd (X9_sum y2 0 x3) (fun x4 => bd (ck 12 a0) (fun _ => bd (X9_drafts a0 x4 4) (fun _ => bd (gI 12 35 a0) (fun x5 => bd (ck 12 a0) (fun _ => bd (X9_brings a0 x5 1) (fun _ => pu ()))))))))) (bd (gR 12 52 a0) (fun y6 => bd (al 22 y6 i1) (fun x7 => bd (ck 12 a0) (fun _ => bd (X9_drafts a0 x7 4) (fun _ => bd (gR 12 50 a0) (fun y8 => bd (al 22 y8 i1) (fun x9 => bd (ck 12 a0) (fun _ => bd (X9_drafts a0 x9 4) (fun _ => bd (gR 12 49 a0) (fun y10 => bd (al 22 y10 i1) (fun x11 => bd (ck 12 a0) (fun _ => bd (X9_drafts a0 x11 2) (fun _ => bd (gR 12 51 a0) (fun y12 => bd (al 22 y12 i1) (fun x13 => bd (ck 12 a0) (fun _ => bd (X9_drafts a0 x13 4) (fun _ => X9_hints_b70 k16 FU a0 i1 0))))))))))))))))))
def X9_hints_b16  : Nat → Nat → Int32 → M Unit
  | 0 => fun _ _ => fl
  | n + 1 => fun a0 i1 => X9_hints_b16b  (X9_hints_b16  n) a0 i1
def X9_hints (a0 : Nat) : M Unit := bd (pV 12 14 a0 (.int 0)) (fun _ => bd (gI 12 53 a0) (fun x1 => bd (ck 12 a0) (fun _ => bd (X9_drafts a0 x1 4) (fun _ => X9_hints_b16  FU a0 0))))
section
variable {G : Gx} {p : Program} {l : Launch} {e : Env} {R : Room} {s : State} {m : MethodId} {args : Array Value} {below : List Frame} {meth : Method} {c : Code} {h0 : Hp} {r : Unit} {h' : Hp}
set_option maxRecDepth 20000 in
theorem X9_hints_b70b_s (C : Cx G p R s m args meth c cX9_hints 3 yX9_hints.cls h0 h') (hF : R.frames = 3) (hO : R.locals = 70) (hr : meth.sig.returnType = none) (hm : meth.name = yX9_hints.name) {k16 : Nat → Int32 → M Unit} (hk16 : ∀ (a0 : Nat) (i1 : Int32), Sm G (QM G rvU below args s h0 r h') p l e R s m args below meth c 3 h0 r h' 16 [(0, .ref a0), (1, .int i1)] [] (k16 a0 i1)) {k70 : Nat → Int32 → Int32 → M Unit} (hk70 : ∀ (a0 : Nat) (i1 : Int32) (i2 : Int32), Sm G (QM G rvU below args s h0 r h') p l e R s m args below meth c 3 h0 r h' 70 [(0, .ref a0), (1, .int i1), (2, .int i2)] [] (k70 a0 i1 i2)) (a0 : Nat) (i1 : Int32) (i2 : Int32) : Sm G (QM G rvU below args s h0 r h') p l e R s m args below meth c 3 h0 r h' 70 [(0, .ref a0), (1, .int i1), (2, .int i2)] [] (X9_hints_b70b k16 k70 a0 i1 i2) := by
  refine s_iload_n C 2 dX9_hints_70 rfl rfl ?_
  refine s_aload_n C 0 dX9_hints_71 rfl rfl ?_
  refine s_gR C ci12 49 (by decide) (Or.inl wd_6_164) dX9_hints_72 (fun y1 => ?_)
  refine s_iload_n C 1 dX9_hints_75 rfl rfl ?_
  refine s_al22 C dX9_hints_76 (fun x2 => ?_)
  refine s_icmp_ge (tgt := 102) C dX9_hints_77 (by decide) ?_ ?_
  · refine s_iincK (lv' := [(1, .int (i1 + 1)), (0, .ref a0), (2, .int i2)]) (w := 1) C 1 dX9_hints_102 rfl (by decide) (by decide) rfl ?_
    refine s_goto (tgt := 16) C dX9_hints_105 (by decide) ?_
    refine s_sub [1, 0] rfl ?_
    exact hk16 a0 (i1 + 1)
  refine s_aload_n C 0 dX9_hints_80 rfl rfl ?_
  refine s_aload_n C 0 dX9_hints_81 rfl rfl ?_
  refine s_gR C ci12 48 (by decide) (Or.inl wd_6_163) dX9_hints_82 (fun y3 => ?_)
  refine s_bipush (v := 16) C dX9_hints_85 (by decide) ?_
  refine s_iload_n C 1 dX9_hints_87 rfl rfl ?_
  refine s_imul C dX9_hints_88 ?_
  refine s_iload_n C 2 dX9_hints_89 rfl rfl ?_
  refine s_iadd C dX9_hints_90 ?_
  refine s_al21 C dX9_hints_91 (fun x4 => ?_)
  refine s_iconst (v := 1) C dX9_hints_92 (by decide) ?_
  refine s_invV_u C ci12 cy_X9_drafts (Or.inl wd_7_84) rfl wd_7_86 wp_37 (con_X9_drafts l G a0 x4 1) rfl rfl (Nat.le_of_ble_eq_true rfl) (by rw [hF]; decide) (by rw [hO]; exact Nat.le_of_ble_eq_true rfl) dX9_hints_93 ?_
  refine s_iincK (lv' := [(2, .int (i2 + 1)), (0, .ref a0), (1, .int i1)]) (w := 1) C 2 dX9_hints_96 rfl (by decide) (by decide) rfl ?_
  refine s_goto (tgt := 70) C dX9_hints_99 (by decide) ?_
  refine s_sub [1, 2, 0] rfl ?_
  exact hk70 a0 i1 (i2 + 1)
set_option maxRecDepth 20000 in
theorem X9_hints_b70_s (C : Cx G p R s m args meth c cX9_hints 3 yX9_hints.cls h0 h') (hF : R.frames = 3) (hO : R.locals = 70) (hr : meth.sig.returnType = none) (hm : meth.name = yX9_hints.name) {k16 : Nat → Int32 → M Unit} (hk16 : ∀ (a0 : Nat) (i1 : Int32), Sm G (QM G rvU below args s h0 r h') p l e R s m args below meth c 3 h0 r h' 16 [(0, .ref a0), (1, .int i1)] [] (k16 a0 i1)) (n : Nat) : ∀ (a0 : Nat) (i1 : Int32) (i2 : Int32), Sm G (QM G rvU below args s h0 r h') p l e R s m args below meth c 3 h0 r h' 70 [(0, .ref a0), (1, .int i1), (2, .int i2)] [] (X9_hints_b70 k16 n a0 i1 i2) := by
  induction n with
  | zero => intro a0 i1 i2; exact s_fl
  | succ n ih => intro a0 i1 i2; exact X9_hints_b70b_s C hF hO hr hm hk16 ih a0 i1 i2
set_option maxRecDepth 20000 in
theorem X9_hints_b16b_s (C : Cx G p R s m args meth c cX9_hints 3 yX9_hints.cls h0 h') (hF : R.frames = 3) (hO : R.locals = 70) (hr : meth.sig.returnType = none) (hm : meth.name = yX9_hints.name)  {k16 : Nat → Int32 → M Unit} (hk16 : ∀ (a0 : Nat) (i1 : Int32), Sm G (QM G rvU below args s h0 r h') p l e R s m args below meth c 3 h0 r h' 16 [(0, .ref a0), (1, .int i1)] [] (k16 a0 i1)) (a0 : Nat) (i1 : Int32) : Sm G (QM G rvU below args s h0 r h') p l e R s m args below meth c 3 h0 r h' 16 [(0, .ref a0), (1, .int i1)] [] (X9_hints_b16b  k16 a0 i1) := by
  refine s_iload_n C 1 dX9_hints_16 rfl rfl ?_
  refine s_aload_n C 0 dX9_hints_17 rfl rfl ?_
  refine s_gI C ci12 53 (by decide) (Or.inl wd_6_168) dX9_hints_18 (fun x1 => ?_)
  refine s_icmp_ge (tgt := 108) C dX9_hints_21 (by decide) ?_ ?_
  · refine s_aload_n C 0 dX9_hints_108 rfl rfl ?_
    refine s_aload_n C 0 dX9_hints_109 rfl rfl ?_
    refine s_gR C ci12 13 (by decide) (Or.inl wd_6_128) dX9_hints_110 (fun y2 => ?_)
    refine s_iconst (v := 0) C dX9_hints_113 (by decide) ?_
    refine s_aload_n C 0 dX9_hints_114 rfl rfl ?_
    refine s_gI C ci12 14 (by decide) (Or.inl wd_6_129) dX9_hints_115 (fun x3 => ?_)
    refine s_invS_i C cy_X9_sum (Or.inl wd_7_88) wd_7_89 (con_X9_sum l G y2 0 x3) rfl rfl (Nat.le_of_ble_eq_true rfl) (by rw [hF]; decide) (by rw [hO]; exact Nat.le_of_ble_eq_true rfl) dX9_hints_118 (fun x4 => ?_)
    refine s_iconst (v := 4) C dX9_hints_121 (by decide) ?_
    refine s_invV_u C ci12 cy_X9_drafts (Or.inl wd_7_84) rfl wd_7_86 wp_37 (con_X9_drafts l G a0 x4 4) rfl rfl (Nat.le_of_ble_eq_true rfl) (by rw [hF]; decide) (by rw [hO]; exact Nat.le_of_ble_eq_true rfl) dX9_hints_122 ?_
    refine s_aload_n C 0 dX9_hints_125 rfl rfl ?_
    refine s_aload_n C 0 dX9_hints_126 rfl rfl ?_
    refine s_gI C ci12 35 (by decide) (Or.inl wd_6_150) dX9_hints_127 (fun x5 => ?_)
    refine s_iconst (v := 1) C dX9_hints_130 (by decide) ?_
    refine s_invV_u C ci12 cy_X9_brings (Or.inl wd_8_19) rfl wd_8_21 wp_68 (con_X9_brings l G a0 x5 1) rfl rfl (Nat.le_of_ble_eq_true rfl) (by rw [hF]; decide) (by rw [hO]; exact Nat.le_of_ble_eq_true rfl) dX9_hints_131 ?_
    exact s_vret C hr rfl dX9_hints_134
  refine s_aload_n C 0 dX9_hints_24 rfl rfl ?_
  refine s_aload_n C 0 dX9_hints_25 rfl rfl ?_
  refine s_gR C ci12 52 (by decide) (Or.inl wd_6_167) dX9_hints_26 (fun y6 => ?_)
  refine s_iload_n C 1 dX9_hints_29 rfl rfl ?_
  refine s_al22 C dX9_hints_30 (fun x7 => ?_)
  refine s_iconst (v := 4) C dX9_hints_31 (by decide) ?_
  refine s_invV_u C ci12 cy_X9_drafts (Or.inl wd_7_84) rfl wd_7_86 wp_37 (con_X9_drafts l G a0 x7 4) rfl rfl (Nat.le_of_ble_eq_true rfl) (by rw [hF]; decide) (by rw [hO]; exact Nat.le_of_ble_eq_true rfl) dX9_hints_32 ?_
  refine s_aload_n C 0 dX9_hints_35 rfl rfl ?_
  refine s_aload_n C 0 dX9_hints_36 rfl rfl ?_
  refine s_gR C ci12 50 (by decide) (Or.inl wd_6_165) dX9_hints_37 (fun y8 => ?_)
  refine s_iload_n C 1 dX9_hints_40 rfl rfl ?_
  refine s_al22 C dX9_hints_41 (fun x9 => ?_)
  refine s_iconst (v := 4) C dX9_hints_42 (by decide) ?_
  refine s_invV_u C ci12 cy_X9_drafts (Or.inl wd_7_84) rfl wd_7_86 wp_37 (con_X9_drafts l G a0 x9 4) rfl rfl (Nat.le_of_ble_eq_true rfl) (by rw [hF]; decide) (by rw [hO]; exact Nat.le_of_ble_eq_true rfl) dX9_hints_43 ?_
  refine s_aload_n C 0 dX9_hints_46 rfl rfl ?_
  refine s_aload_n C 0 dX9_hints_47 rfl rfl ?_
  refine s_gR C ci12 49 (by decide) (Or.inl wd_6_164) dX9_hints_48 (fun y10 => ?_)
  refine s_iload_n C 1 dX9_hints_51 rfl rfl ?_
  refine s_al22 C dX9_hints_52 (fun x11 => ?_)
  refine s_iconst (v := 2) C dX9_hints_53 (by decide) ?_
  refine s_invV_u C ci12 cy_X9_drafts (Or.inl wd_7_84) rfl wd_7_86 wp_37 (con_X9_drafts l G a0 x11 2) rfl rfl (Nat.le_of_ble_eq_true rfl) (by rw [hF]; decide) (by rw [hO]; exact Nat.le_of_ble_eq_true rfl) dX9_hints_54 ?_
  refine s_aload_n C 0 dX9_hints_57 rfl rfl ?_
  refine s_aload_n C 0 dX9_hints_58 rfl rfl ?_
  refine s_gR C ci12 51 (by decide) (Or.inl wd_6_166) dX9_hints_59 (fun y12 => ?_)
  refine s_iload_n C 1 dX9_hints_62 rfl rfl ?_
  refine s_al22 C dX9_hints_63 (fun x13 => ?_)
  refine s_iconst (v := 4) C dX9_hints_64 (by decide) ?_
  refine s_invV_u C ci12 cy_X9_drafts (Or.inl wd_7_84) rfl wd_7_86 wp_37 (con_X9_drafts l G a0 x13 4) rfl rfl (Nat.le_of_ble_eq_true rfl) (by rw [hF]; decide) (by rw [hO]; exact Nat.le_of_ble_eq_true rfl) dX9_hints_65 ?_
  refine s_iconst (v := 0) C dX9_hints_68 (by decide) ?_
  refine s_istore_n (lv' := [(2, .int 0), (0, .ref a0), (1, .int i1)]) C dX9_hints_69 rfl (by decide) rfl ?_
  refine s_sub [1, 2, 0] rfl ?_
  exact X9_hints_b70_s C hF hO hr hm hk16 FU a0 i1 0
set_option maxRecDepth 20000 in
theorem X9_hints_b16_s (C : Cx G p R s m args meth c cX9_hints 3 yX9_hints.cls h0 h') (hF : R.frames = 3) (hO : R.locals = 70) (hr : meth.sig.returnType = none) (hm : meth.name = yX9_hints.name)  (n : Nat) : ∀ (a0 : Nat) (i1 : Int32), Sm G (QM G rvU below args s h0 r h') p l e R s m args below meth c 3 h0 r h' 16 [(0, .ref a0), (1, .int i1)] [] (X9_hints_b16  n a0 i1) := by
  induction n with
  | zero => intro a0 i1; exact s_fl
  | succ n ih => intro a0 i1; exact X9_hints_b16b_s C hF hO hr hm  ih a0 i1
end
set_option maxRecDepth 20000 in
theorem con_X9_hints (l : Launch) (G : Gx) (a0 : Nat) : Con G rvU l yX9_hints cX9_hints 3 none 3 70 [.ref a0] (X9_hints a0) := by
  refine con_of (lv := [(0, .ref a0)]) (by decide) (Nat.le_of_ble_eq_true rfl) rfl (fun p e R s m args below meth c h0 r h' C hF hO hr hm => ?_)
  refine s_aload_n C 0 dX9_hints_0 rfl rfl ?_
  refine s_iconst (v := 0) C dX9_hints_1 (by decide) ?_
  refine s_pV C ci12 14 (by decide) rfl (Or.inl wd_6_129) dX9_hints_2 rfl rfl ?_
  refine s_aload_n C 0 dX9_hints_5 rfl rfl ?_
  refine s_aload_n C 0 dX9_hints_6 rfl rfl ?_
  refine s_gI C ci12 53 (by decide) (Or.inl wd_6_168) dX9_hints_7 (fun x1 => ?_)
  refine s_iconst (v := 4) C dX9_hints_10 (by decide) ?_
  refine s_invV_u C ci12 cy_X9_drafts (Or.inl wd_7_84) rfl wd_7_86 wp_37 (con_X9_drafts l G a0 x1 4) rfl rfl (Nat.le_of_ble_eq_true rfl) (by rw [hF]; decide) (by rw [hO]; exact Nat.le_of_ble_eq_true rfl) dX9_hints_11 ?_
  refine s_iconst (v := 0) C dX9_hints_14 (by decide) ?_
  refine s_istore_n (lv' := [(1, .int 0), (0, .ref a0)]) C dX9_hints_15 rfl (by decide) rfl ?_
  refine s_sub [1, 0] rfl ?_
  exact X9_hints_b16_s C hF hO hr hm  FU a0 0

theorem dX9_copies_0 : decode cX9_copies 0 = .ok (.aload_n 0, 1) := by decide +kernel
theorem dX9_copies_1 : decode cX9_copies 1 = .ok (.iload_n 1, 1) := by decide +kernel
theorem dX9_copies_2 : decode cX9_copies 2 = .ok (.invokevirtual 301, 3) := by decide +kernel
theorem dX9_copies_5 : decode cX9_copies 5 = .ok (.istore_n 2, 1) := by decide +kernel
theorem dX9_copies_6 : decode cX9_copies 6 = .ok (.aload_n 0, 1) := by decide +kernel
theorem dX9_copies_7 : decode cX9_copies 7 = .ok (.iload_n 2, 1) := by decide +kernel
theorem dX9_copies_8 : decode cX9_copies 8 = .ok (.invokevirtual 191, 3) := by decide +kernel
theorem dX9_copies_11 : decode cX9_copies 11 = .ok (.istore_n 3, 1) := by decide +kernel
theorem dX9_copies_12 : decode cX9_copies 12 = .ok (.aload_n 0, 1) := by decide +kernel
theorem dX9_copies_13 : decode cX9_copies 13 = .ok (.getfield 146, 3) := by decide +kernel
theorem dX9_copies_16 : decode cX9_copies 16 = .ok (.iconst (-1), 1) := by decide +kernel
theorem dX9_copies_17 : decode cX9_copies 17 = .ok (.if_icmp .eq 30, 3) := by decide +kernel
theorem dX9_copies_20 : decode cX9_copies 20 = .ok (.aload_n 0, 1) := by decide +kernel
theorem dX9_copies_21 : decode cX9_copies 21 = .ok (.aload_n 0, 1) := by decide +kernel
theorem dX9_copies_22 : decode cX9_copies 22 = .ok (.getfield 146, 3) := by decide +kernel
theorem dX9_copies_25 : decode cX9_copies 25 = .ok (.iconst 0, 1) := by decide +kernel
theorem dX9_copies_26 : decode cX9_copies 26 = .ok (.invokevirtual 220, 3) := by decide +kernel
theorem dX9_copies_29 : decode cX9_copies 29 = .ok (.iload_n 3, 1) := by decide +kernel
theorem dX9_copies_30 : decode cX9_copies 30 = .ok (.iadd, 1) := by decide +kernel
theorem dX9_copies_31 : decode cX9_copies 31 = .ok (.aload_n 0, 1) := by decide +kernel
theorem dX9_copies_32 : decode cX9_copies 32 = .ok (.getfield 100, 3) := by decide +kernel
theorem dX9_copies_35 : decode cX9_copies 35 = .ok (.if_icmp .le 12, 3) := by decide +kernel
theorem dX9_copies_38 : decode cX9_copies 38 = .ok (.aload_n 0, 1) := by decide +kernel
theorem dX9_copies_39 : decode cX9_copies 39 = .ok (.invokevirtual 325, 3) := by decide +kernel
theorem dX9_copies_42 : decode cX9_copies 42 = .ok (.aload_n 0, 1) := by decide +kernel
theorem dX9_copies_43 : decode cX9_copies 43 = .ok (.iconst (-1), 1) := by decide +kernel
theorem dX9_copies_44 : decode cX9_copies 44 = .ok (.putfield 146, 3) := by decide +kernel
theorem dX9_copies_47 : decode cX9_copies 47 = .ok (.aload_n 0, 1) := by decide +kernel
theorem dX9_copies_48 : decode cX9_copies 48 = .ok (.getfield 146, 3) := by decide +kernel
theorem dX9_copies_51 : decode cX9_copies 51 = .ok (.iconst (-1), 1) := by decide +kernel
theorem dX9_copies_52 : decode cX9_copies 52 = .ok (.if_icmp .ne 26, 3) := by decide +kernel
theorem dX9_copies_55 : decode cX9_copies 55 = .ok (.aload_n 0, 1) := by decide +kernel
theorem dX9_copies_56 : decode cX9_copies 56 = .ok (.aload_n 0, 1) := by decide +kernel
theorem dX9_copies_57 : decode cX9_copies 57 = .ok (.getfield 131, 3) := by decide +kernel
theorem dX9_copies_60 : decode cX9_copies 60 = .ok (.putfield 146, 3) := by decide +kernel
theorem dX9_copies_63 : decode cX9_copies 63 = .ok (.aload_n 0, 1) := by decide +kernel
theorem dX9_copies_64 : decode cX9_copies 64 = .ok (.dup, 1) := by decide +kernel
theorem dX9_copies_65 : decode cX9_copies 65 = .ok (.getfield 131, 3) := by decide +kernel
theorem dX9_copies_68 : decode cX9_copies 68 = .ok (.iconst 1, 1) := by decide +kernel
theorem dX9_copies_69 : decode cX9_copies 69 = .ok (.iadd, 1) := by decide +kernel
theorem dX9_copies_70 : decode cX9_copies 70 = .ok (.putfield 131, 3) := by decide +kernel
theorem dX9_copies_73 : decode cX9_copies 73 = .ok (.aload_n 0, 1) := by decide +kernel
theorem dX9_copies_74 : decode cX9_copies 74 = .ok (.iconst 0, 1) := by decide +kernel
theorem dX9_copies_75 : decode cX9_copies 75 = .ok (.putfield 316, 3) := by decide +kernel
theorem dX9_copies_78 : decode cX9_copies 78 = .ok (.aload_n 0, 1) := by decide +kernel
theorem dX9_copies_79 : decode cX9_copies 79 = .ok (.aload_n 0, 1) := by decide +kernel
theorem dX9_copies_80 : decode cX9_copies 80 = .ok (.getfield 146, 3) := by decide +kernel
theorem dX9_copies_83 : decode cX9_copies 83 = .ok (.iconst 0, 1) := by decide +kernel
theorem dX9_copies_84 : decode cX9_copies 84 = .ok (.invokevirtual 220, 3) := by decide +kernel
theorem dX9_copies_87 : decode cX9_copies 87 = .ok (.istore 4, 2) := by decide +kernel
theorem dX9_copies_89 : decode cX9_copies 89 = .ok (.aload_n 0, 1) := by decide +kernel
theorem dX9_copies_90 : decode cX9_copies 90 = .ok (.iload_n 2, 1) := by decide +kernel
theorem dX9_copies_91 : decode cX9_copies 91 = .ok (.invokevirtual 188, 3) := by decide +kernel
theorem dX9_copies_94 : decode cX9_copies 94 = .ok (.istore 5, 2) := by decide +kernel
theorem dX9_copies_96 : decode cX9_copies 96 = .ok (.aload_n 0, 1) := by decide +kernel
theorem dX9_copies_97 : decode cX9_copies 97 = .ok (.iload_n 3, 1) := by decide +kernel
theorem dX9_copies_98 : decode cX9_copies 98 = .ok (.putfield 157, 3) := by decide +kernel
theorem dX9_copies_101 : decode cX9_copies 101 = .ok (.iconst 0, 1) := by decide +kernel
theorem dX9_copies_102 : decode cX9_copies 102 = .ok (.istore 6, 2) := by decide +kernel
theorem dX9_copies_104 : decode cX9_copies 104 = .ok (.iload 6, 2) := by decide +kernel
theorem dX9_copies_106 : decode cX9_copies 106 = .ok (.iload_n 3, 1) := by decide +kernel
theorem dX9_copies_107 : decode cX9_copies 107 = .ok (.if_icmp .ge 26, 3) := by decide +kernel
theorem dX9_copies_110 : decode cX9_copies 110 = .ok (.aload_n 0, 1) := by decide +kernel
theorem dX9_copies_111 : decode cX9_copies 111 = .ok (.getfield 32, 3) := by decide +kernel
theorem dX9_copies_114 : decode cX9_copies 114 = .ok (.iload 6, 2) := by decide +kernel
theorem dX9_copies_116 : decode cX9_copies 116 = .ok (.aload_n 0, 1) := by decide +kernel
theorem dX9_copies_117 : decode cX9_copies 117 = .ok (.getfield 9, 3) := by decide +kernel
theorem dX9_copies_120 : decode cX9_copies 120 = .ok (.iload 5, 2) := by decide +kernel
theorem dX9_copies_122 : decode cX9_copies 122 = .ok (.iload 6, 2) := by decide +kernel
theorem dX9_copies_124 : decode cX9_copies 124 = .ok (.iadd, 1) := by decide +kernel
theorem dX9_copies_125 : decode cX9_copies 125 = .ok (.baload, 1) := by decide +kernel
theorem dX9_copies_126 : decode cX9_copies 126 = .ok (.bastore, 1) := by decide +kernel
theorem dX9_copies_127 : decode cX9_copies 127 = .ok (.iinc 6 1, 3) := by decide +kernel
theorem dX9_copies_130 : decode cX9_copies 130 = .ok (.goto (-26), 3) := by decide +kernel
theorem dX9_copies_133 : decode cX9_copies 133 = .ok (.aload_n 0, 1) := by decide +kernel
theorem dX9_copies_134 : decode cX9_copies 134 = .ok (.aload_n 0, 1) := by decide +kernel
theorem dX9_copies_135 : decode cX9_copies 135 = .ok (.getfield 146, 3) := by decide +kernel
theorem dX9_copies_138 : decode cX9_copies 138 = .ok (.iconst 0, 1) := by decide +kernel
theorem dX9_copies_139 : decode cX9_copies 139 = .ok (.invokevirtual 322, 3) := by decide +kernel
theorem dX9_copies_142 : decode cX9_copies 142 = .ok (.iconst 0, 1) := by decide +kernel
theorem dX9_copies_143 : decode cX9_copies 143 = .ok (.istore 6, 2) := by decide +kernel
theorem dX9_copies_145 : decode cX9_copies 145 = .ok (.iload 6, 2) := by decide +kernel
theorem dX9_copies_147 : decode cX9_copies 147 = .ok (.aload_n 0, 1) := by decide +kernel
theorem dX9_copies_148 : decode cX9_copies 148 = .ok (.getfield 44, 3) := by decide +kernel
theorem dX9_copies_151 : decode cX9_copies 151 = .ok (.iload_n 2, 1) := by decide +kernel
theorem dX9_copies_152 : decode cX9_copies 152 = .ok (.iaload, 1) := by decide +kernel
theorem dX9_copies_153 : decode cX9_copies 153 = .ok (.if_icmp .ge 36, 3) := by decide +kernel
theorem dX9_copies_156 : decode cX9_copies 156 = .ok (.aload_n 0, 1) := by decide +kernel
theorem dX9_copies_157 : decode cX9_copies 157 = .ok (.getfield 74, 3) := by decide +kernel
theorem dX9_copies_160 : decode cX9_copies 160 = .ok (.bipush 16, 2) := by decide +kernel
theorem dX9_copies_162 : decode cX9_copies 162 = .ok (.aload_n 0, 1) := by decide +kernel
theorem dX9_copies_163 : decode cX9_copies 163 = .ok (.getfield 316, 3) := by decide +kernel
theorem dX9_copies_166 : decode cX9_copies 166 = .ok (.imul, 1) := by decide +kernel
theorem dX9_copies_167 : decode cX9_copies 167 = .ok (.iload 6, 2) := by decide +kernel
theorem dX9_copies_169 : decode cX9_copies 169 = .ok (.iadd, 1) := by decide +kernel
theorem dX9_copies_170 : decode cX9_copies 170 = .ok (.aload_n 0, 1) := by decide +kernel
theorem dX9_copies_171 : decode cX9_copies 171 = .ok (.getfield 41, 3) := by decide +kernel
theorem dX9_copies_174 : decode cX9_copies 174 = .ok (.bipush 16, 2) := by decide +kernel
theorem dX9_copies_176 : decode cX9_copies 176 = .ok (.iload_n 2, 1) := by decide +kernel
theorem dX9_copies_177 : decode cX9_copies 177 = .ok (.imul, 1) := by decide +kernel
theorem dX9_copies_178 : decode cX9_copies 178 = .ok (.iload 6, 2) := by decide +kernel
theorem dX9_copies_180 : decode cX9_copies 180 = .ok (.iadd, 1) := by decide +kernel
theorem dX9_copies_181 : decode cX9_copies 181 = .ok (.baload, 1) := by decide +kernel
theorem dX9_copies_182 : decode cX9_copies 182 = .ok (.bastore, 1) := by decide +kernel
theorem dX9_copies_183 : decode cX9_copies 183 = .ok (.iinc 6 1, 3) := by decide +kernel
theorem dX9_copies_186 : decode cX9_copies 186 = .ok (.goto (-41), 3) := by decide +kernel
theorem dX9_copies_189 : decode cX9_copies 189 = .ok (.aload_n 0, 1) := by decide +kernel
theorem dX9_copies_190 : decode cX9_copies 190 = .ok (.getfield 77, 3) := by decide +kernel
theorem dX9_copies_193 : decode cX9_copies 193 = .ok (.aload_n 0, 1) := by decide +kernel
theorem dX9_copies_194 : decode cX9_copies 194 = .ok (.getfield 316, 3) := by decide +kernel
theorem dX9_copies_197 : decode cX9_copies 197 = .ok (.aload_n 0, 1) := by decide +kernel
theorem dX9_copies_198 : decode cX9_copies 198 = .ok (.getfield 44, 3) := by decide +kernel
theorem dX9_copies_201 : decode cX9_copies 201 = .ok (.iload_n 2, 1) := by decide +kernel
theorem dX9_copies_202 : decode cX9_copies 202 = .ok (.iaload, 1) := by decide +kernel
theorem dX9_copies_203 : decode cX9_copies 203 = .ok (.iastore, 1) := by decide +kernel
theorem dX9_copies_204 : decode cX9_copies 204 = .ok (.aload_n 0, 1) := by decide +kernel
theorem dX9_copies_205 : decode cX9_copies 205 = .ok (.getfield 80, 3) := by decide +kernel
theorem dX9_copies_208 : decode cX9_copies 208 = .ok (.aload_n 0, 1) := by decide +kernel
theorem dX9_copies_209 : decode cX9_copies 209 = .ok (.getfield 316, 3) := by decide +kernel
theorem dX9_copies_212 : decode cX9_copies 212 = .ok (.iload 4, 2) := by decide +kernel
theorem dX9_copies_214 : decode cX9_copies 214 = .ok (.iastore, 1) := by decide +kernel
theorem dX9_copies_215 : decode cX9_copies 215 = .ok (.aload_n 0, 1) := by decide +kernel
theorem dX9_copies_216 : decode cX9_copies 216 = .ok (.getfield 83, 3) := by decide +kernel
theorem dX9_copies_219 : decode cX9_copies 219 = .ok (.aload_n 0, 1) := by decide +kernel
theorem dX9_copies_220 : decode cX9_copies 220 = .ok (.getfield 316, 3) := by decide +kernel
theorem dX9_copies_223 : decode cX9_copies 223 = .ok (.aload_n 0, 1) := by decide +kernel
theorem dX9_copies_224 : decode cX9_copies 224 = .ok (.getfield 53, 3) := by decide +kernel
theorem dX9_copies_227 : decode cX9_copies 227 = .ok (.iload_n 2, 1) := by decide +kernel
theorem dX9_copies_228 : decode cX9_copies 228 = .ok (.iaload, 1) := by decide +kernel
theorem dX9_copies_229 : decode cX9_copies 229 = .ok (.iastore, 1) := by decide +kernel
theorem dX9_copies_230 : decode cX9_copies 230 = .ok (.aload_n 0, 1) := by decide +kernel
theorem dX9_copies_231 : decode cX9_copies 231 = .ok (.getfield 86, 3) := by decide +kernel
theorem dX9_copies_234 : decode cX9_copies 234 = .ok (.aload_n 0, 1) := by decide +kernel
theorem dX9_copies_235 : decode cX9_copies 235 = .ok (.getfield 316, 3) := by decide +kernel
theorem dX9_copies_238 : decode cX9_copies 238 = .ok (.aload_n 0, 1) := by decide +kernel
theorem dX9_copies_239 : decode cX9_copies 239 = .ok (.getfield 56, 3) := by decide +kernel
theorem dX9_copies_242 : decode cX9_copies 242 = .ok (.iload_n 2, 1) := by decide +kernel
theorem dX9_copies_243 : decode cX9_copies 243 = .ok (.iaload, 1) := by decide +kernel
theorem dX9_copies_244 : decode cX9_copies 244 = .ok (.iastore, 1) := by decide +kernel
theorem dX9_copies_245 : decode cX9_copies 245 = .ok (.aload_n 0, 1) := by decide +kernel
theorem dX9_copies_246 : decode cX9_copies 246 = .ok (.dup, 1) := by decide +kernel
theorem dX9_copies_247 : decode cX9_copies 247 = .ok (.getfield 316, 3) := by decide +kernel
theorem dX9_copies_250 : decode cX9_copies 250 = .ok (.iconst 1, 1) := by decide +kernel
theorem dX9_copies_251 : decode cX9_copies 251 = .ok (.iadd, 1) := by decide +kernel
theorem dX9_copies_252 : decode cX9_copies 252 = .ok (.putfield 316, 3) := by decide +kernel
theorem dX9_copies_255 : decode cX9_copies 255 = .ok (.aload_n 0, 1) := by decide +kernel
theorem dX9_copies_256 : decode cX9_copies 256 = .ok (.getfield 47, 3) := by decide +kernel
theorem dX9_copies_259 : decode cX9_copies 259 = .ok (.iload_n 2, 1) := by decide +kernel
theorem dX9_copies_260 : decode cX9_copies 260 = .ok (.aload_n 0, 1) := by decide +kernel
theorem dX9_copies_261 : decode cX9_copies 261 = .ok (.getfield 146, 3) := by decide +kernel
theorem dX9_copies_264 : decode cX9_copies 264 = .ok (.iastore, 1) := by decide +kernel
theorem dX9_copies_265 : decode cX9_copies 265 = .ok (.aload_n 0, 1) := by decide +kernel
theorem dX9_copies_266 : decode cX9_copies 266 = .ok (.getfield 50, 3) := by decide +kernel
theorem dX9_copies_269 : decode cX9_copies 269 = .ok (.iload_n 2, 1) := by decide +kernel
theorem dX9_copies_270 : decode cX9_copies 270 = .ok (.iload 4, 2) := by decide +kernel
theorem dX9_copies_272 : decode cX9_copies 272 = .ok (.iastore, 1) := by decide +kernel
theorem dX9_copies_273 : decode cX9_copies 273 = .ok (.aload_n 0, 1) := by decide +kernel
theorem dX9_copies_274 : decode cX9_copies 274 = .ok (.iload_n 1, 1) := by decide +kernel
theorem dX9_copies_275 : decode cX9_copies 275 = .ok (.iconst 1, 1) := by decide +kernel
theorem dX9_copies_276 : decode cX9_copies 276 = .ok (.iadd, 1) := by decide +kernel
theorem dX9_copies_277 : decode cX9_copies 277 = .ok (.putfield 295, 3) := by decide +kernel
theorem dX9_copies_280 : decode cX9_copies 280 = .ok (.return_, 1) := by decide +kernel
def X9_copies_b145b  (k145 : Nat → Int32 → Int32 → Int32 → Int32 → M Unit) (a0 : Nat) (i1 : Int32) (i2 : Int32) (i4 : Int32) (i6 : Int32) : M Unit := bd (gR 12 28 a0) (fun y1 => bd (al 22 y1 i2) (fun x2 => it (x2 ≤ i6) (bd (gR 12 49 a0) (fun y3 => bd (gI 12 53 a0) (fun x4 => bd (gR 12 28 a0) (fun y5 => bd (al 22 y5 i2) (fun x6 => bd (as 22 y3 x4 x6) (fun _ => bd (gR 12 50 a0) (fun y7 => bd (gI 12 53 a0) (fun x8 => bd (as 22 y7 x8 i4) (fun _ => bd (gR 12 51 a0) (fun y9 => bd (gI 12 53 a0) (fun x10 => bd (gR 12 31 a0) (fun y11 => bd (al 22 y11 i2) (fun x12 => bd (as 22 y9 x10 x12) (fun _ => bd (gR 12 52 a0) (fun y13 => bd (gI 12 53 a0) (fun x14 => bd (gR 12 32 a0) (fun y15 => bd (al 22 y15 i2) (fun x16 => bd (as 22 y13 x14 x16) (fun _ => bd (gI 12 53 a0) (fun x17 => bd (pV 12 53 a0 (.int (x17 + 1))) (fun _ => bd (gR 12 29 a0) (fun y18 => bd (gI 12 35 a0) (fun x19 => bd (as 22 y18 i2 x19) (fun _ => bd (gR 12 30 a0) (fun y20 => bd (as 22 y20 i2 i4) (fun _ => bd (pV 12 43 a0 (.int (i1 + 1))) (fun _ => pu ()))))))))))))))))))))))))))) (bd (gR 12 48 a0) (fun y21 => bd (gI 12 53 a0) (fun x22 => bd (gR 12 27 a0) (fun y23 => bd (al 21 y23 ((16 * i2) + i6)) (fun x24 => bd (as 21 y21 ((16 * x22) + i6) x24) (fun _ => k145 a0 i1 i2 i4 (i6 + 1)))))))))
def X9_copies_b145  : Nat → Nat → Int32 → Int32 → Int32 → Int32 → M Unit
  | 0 => fun _ _ _ _ _ => fl
  | n + 1 => fun a0 i1 i2 i4 i6 => X9_copies_b145b  (X9_copies_b145  n) a0 i1 i2 i4 i6
def X9_copies_b104b  (k104 : Nat → Int32 → Int32 → Int32 → Int32 → Int32 → Int32 → M Unit) (a0 : Nat) (i1 : Int32) (i2 : Int32) (i3 : Int32) (i4 : Int32) (i5 : Int32) (i6 : Int32) : M Unit := it (i3 ≤ i6) (bd (gI 12 35 a0) (fun x1 => bd (ck 12 a0) (fun _ => bd (X9_brings a0 x1 0) (fun _ => X9_copies_b145  FU a0 i1 i2 i4 0)))) (bd (gR 12 13 a0) (fun y2 => bd (gR 12 3 a0) (fun y3 => bd (al 21 y3 (i5 + i6)) (fun x4 => bd (as 21 y2 i6 x4) (fun _ => k104 a0 i1 i2 i3 i4 i5 (i6 + 1))))))
def X9_copies_b104  : Nat → Nat → Int32 → Int32 → Int32 → Int32 → Int32 → Int32 → M Unit
  | 0 => fun _ _ _ _ _ _ _ => fl
  | n + 1 => fun a0 i1 i2 i3 i4 i5 i6 => X9_copies_b104b  (X9_copies_b104  n) a0 i1 i2 i3 i4 i5 i6
def X9_copies_b78   (a0 : Nat) (i1 : Int32) (i2 : Int32) (i3 : Int32) : M Unit := bd (gI 12 35 a0) (fun x1 => bd (ck 12 a0) (fun _ => bd (X9_sizeOf a0 x1 0) (fun x2 => bd (ck 12 a0) (fun _ => bd (X9_recordAt a0 i2) (fun x3 => bd (pV 12 14 a0 (.int i3)) (fun _ => X9_copies_b104  FU a0 i1 i2 i3 x2 x3 0))))))
def X9_copies_b47   (a0 : Nat) (i1 : Int32) (i2 : Int32) (i3 : Int32) : M Unit := bd (gI 12 35 a0) (fun x1 => it (¬ x1 = (-1)) (X9_copies_b78   a0 i1 i2 i3) (bd (gI 12 24 a0) (fun x2 => bd (pV 12 35 a0 (.int x2)) (fun _ => bd (gI 12 24 a0) (fun x3 => bd (pV 12 24 a0 (.int (x3 + 1))) (fun _ => bd (pV 12 53 a0 (.int 0)) (fun _ => X9_copies_b78   a0 i1 i2 i3)))))))
def X9_copies (a0 : Nat) (i1 : Int32) : M Unit := bd (ck 12 a0) (fun _ => bd (X9_entryOf a0 i1) (fun x1 => bd (ck 12 a0) (fun _ => bd (X9_recordBytes a0 x1) (fun x2 => bd (gI 12 35 a0) (fun x3 => it (x3 = (-1)) (X9_copies_b47   a0 i1 x1 x2) (bd (gI 12 35 a0) (fun x4 => bd (ck 12 a0) (fun _ => bd (X9_sizeOf a0 x4 0) (fun x5 => bd (gI 12 2 a0) (fun x6 => it ((x5 + x2) ≤ x6) (X9_copies_b47   a0 i1 x1 x2) (bd (ck 12 a0) (fun _ => bd (X9_hints a0) (fun _ => bd (pV 12 35 a0 (.int (-1))) (fun _ => X9_copies_b47   a0 i1 x1 x2))))))))))))))
section
variable {G : Gx} {p : Program} {l : Launch} {e : Env} {R : Room} {s : State} {m : MethodId} {args : Array Value} {below : List Frame} {meth : Method} {c : Code} {h0 : Hp} {r : Unit} {h' : Hp}
set_option maxRecDepth 20000 in
theorem X9_copies_b145b_s (C : Cx G p R s m args meth c cX9_copies 7 yX9_copies.cls h0 h') (hF : R.frames = 4) (hO : R.locals = 92) (hr : meth.sig.returnType = none) (hm : meth.name = yX9_copies.name)  {k145 : Nat → Int32 → Int32 → Int32 → Int32 → M Unit} (hk145 : ∀ (a0 : Nat) (i1 : Int32) (i2 : Int32) (i4 : Int32) (i6 : Int32), Sm G (QM G rvU below args s h0 r h') p l e R s m args below meth c 7 h0 r h' 145 [(0, .ref a0), (1, .int i1), (2, .int i2), (4, .int i4), (6, .int i6)] [] (k145 a0 i1 i2 i4 i6)) (a0 : Nat) (i1 : Int32) (i2 : Int32) (i4 : Int32) (i6 : Int32) : Sm G (QM G rvU below args s h0 r h') p l e R s m args below meth c 7 h0 r h' 145 [(0, .ref a0), (1, .int i1), (2, .int i2), (4, .int i4), (6, .int i6)] [] (X9_copies_b145b  k145 a0 i1 i2 i4 i6) := by
  refine s_iload C 4 dX9_copies_145 rfl ?_
  refine s_aload_n C 0 dX9_copies_147 rfl rfl ?_
  refine s_gR C ci12 28 (by decide) (Or.inl wd_6_143) dX9_copies_148 (fun y1 => ?_)
  refine s_iload_n C 2 dX9_copies_151 rfl rfl ?_
  refine s_al22 C dX9_copies_152 (fun x2 => ?_)
  refine s_icmp_ge (tgt := 189) C dX9_copies_153 (by decide) ?_ ?_
  · refine s_aload_n C 0 dX9_copies_189 rfl rfl ?_
    refine s_gR C ci12 49 (by decide) (Or.inl wd_6_164) dX9_copies_190 (fun y3 => ?_)
    refine s_aload_n C 0 dX9_copies_193 rfl rfl ?_
    refine s_gI C ci12 53 (by decide) (Or.inl wd_6_168) dX9_copies_194 (fun x4 => ?_)
    refine s_aload_n C 0 dX9_copies_197 rfl rfl ?_
    refine s_gR C ci12 28 (by decide) (Or.inl wd_6_143) dX9_copies_198 (fun y5 => ?_)
    refine s_iload_n C 2 dX9_copies_201 rfl rfl ?_
    refine s_al22 C dX9_copies_202 (fun x6 => ?_)
    refine s_as22 C dX9_copies_203 ?_
    refine s_aload_n C 0 dX9_copies_204 rfl rfl ?_
    refine s_gR C ci12 50 (by decide) (Or.inl wd_6_165) dX9_copies_205 (fun y7 => ?_)
    refine s_aload_n C 0 dX9_copies_208 rfl rfl ?_
    refine s_gI C ci12 53 (by decide) (Or.inl wd_6_168) dX9_copies_209 (fun x8 => ?_)
    refine s_iload C 3 dX9_copies_212 rfl ?_
    refine s_as22 C dX9_copies_214 ?_
    refine s_aload_n C 0 dX9_copies_215 rfl rfl ?_
    refine s_gR C ci12 51 (by decide) (Or.inl wd_6_166) dX9_copies_216 (fun y9 => ?_)
    refine s_aload_n C 0 dX9_copies_219 rfl rfl ?_
    refine s_gI C ci12 53 (by decide) (Or.inl wd_6_168) dX9_copies_220 (fun x10 => ?_)
    refine s_aload_n C 0 dX9_copies_223 rfl rfl ?_
    refine s_gR C ci12 31 (by decide) (Or.inl wd_6_146) dX9_copies_224 (fun y11 => ?_)
    refine s_iload_n C 2 dX9_copies_227 rfl rfl ?_
    refine s_al22 C dX9_copies_228 (fun x12 => ?_)
    refine s_as22 C dX9_copies_229 ?_
    refine s_aload_n C 0 dX9_copies_230 rfl rfl ?_
    refine s_gR C ci12 52 (by decide) (Or.inl wd_6_167) dX9_copies_231 (fun y13 => ?_)
    refine s_aload_n C 0 dX9_copies_234 rfl rfl ?_
    refine s_gI C ci12 53 (by decide) (Or.inl wd_6_168) dX9_copies_235 (fun x14 => ?_)
    refine s_aload_n C 0 dX9_copies_238 rfl rfl ?_
    refine s_gR C ci12 32 (by decide) (Or.inl wd_6_147) dX9_copies_239 (fun y15 => ?_)
    refine s_iload_n C 2 dX9_copies_242 rfl rfl ?_
    refine s_al22 C dX9_copies_243 (fun x16 => ?_)
    refine s_as22 C dX9_copies_244 ?_
    refine s_aload_n C 0 dX9_copies_245 rfl rfl ?_
    refine s_dup C dX9_copies_246 rfl ?_
    refine s_gI C ci12 53 (by decide) (Or.inl wd_6_168) dX9_copies_247 (fun x17 => ?_)
    refine s_iconst (v := 1) C dX9_copies_250 (by decide) ?_
    refine s_iadd C dX9_copies_251 ?_
    refine s_pV C ci12 53 (by decide) rfl (Or.inl wd_6_168) dX9_copies_252 rfl rfl ?_
    refine s_aload_n C 0 dX9_copies_255 rfl rfl ?_
    refine s_gR C ci12 29 (by decide) (Or.inl wd_6_144) dX9_copies_256 (fun y18 => ?_)
    refine s_iload_n C 2 dX9_copies_259 rfl rfl ?_
    refine s_aload_n C 0 dX9_copies_260 rfl rfl ?_
    refine s_gI C ci12 35 (by decide) (Or.inl wd_6_150) dX9_copies_261 (fun x19 => ?_)
    refine s_as22 C dX9_copies_264 ?_
    refine s_aload_n C 0 dX9_copies_265 rfl rfl ?_
    refine s_gR C ci12 30 (by decide) (Or.inl wd_6_145) dX9_copies_266 (fun y20 => ?_)
    refine s_iload_n C 2 dX9_copies_269 rfl rfl ?_
    refine s_iload C 3 dX9_copies_270 rfl ?_
    refine s_as22 C dX9_copies_272 ?_
    refine s_aload_n C 0 dX9_copies_273 rfl rfl ?_
    refine s_iload_n C 1 dX9_copies_274 rfl rfl ?_
    refine s_iconst (v := 1) C dX9_copies_275 (by decide) ?_
    refine s_iadd C dX9_copies_276 ?_
    refine s_pV C ci12 43 (by decide) rfl (Or.inl wd_6_158) dX9_copies_277 rfl rfl ?_
    exact s_vret C hr rfl dX9_copies_280
  refine s_aload_n C 0 dX9_copies_156 rfl rfl ?_
  refine s_gR C ci12 48 (by decide) (Or.inl wd_6_163) dX9_copies_157 (fun y21 => ?_)
  refine s_bipush (v := 16) C dX9_copies_160 (by decide) ?_
  refine s_aload_n C 0 dX9_copies_162 rfl rfl ?_
  refine s_gI C ci12 53 (by decide) (Or.inl wd_6_168) dX9_copies_163 (fun x22 => ?_)
  refine s_imul C dX9_copies_166 ?_
  refine s_iload C 4 dX9_copies_167 rfl ?_
  refine s_iadd C dX9_copies_169 ?_
  refine s_aload_n C 0 dX9_copies_170 rfl rfl ?_
  refine s_gR C ci12 27 (by decide) (Or.inl wd_6_142) dX9_copies_171 (fun y23 => ?_)
  refine s_bipush (v := 16) C dX9_copies_174 (by decide) ?_
  refine s_iload_n C 2 dX9_copies_176 rfl rfl ?_
  refine s_imul C dX9_copies_177 ?_
  refine s_iload C 4 dX9_copies_178 rfl ?_
  refine s_iadd C dX9_copies_180 ?_
  refine s_al21 C dX9_copies_181 (fun x24 => ?_)
  refine s_as21 C dX9_copies_182 ?_
  refine s_iincK (lv' := [(6, .int (i6 + 1)), (0, .ref a0), (1, .int i1), (2, .int i2), (4, .int i4)]) (w := 1) C 4 dX9_copies_183 rfl (by decide) (by decide) rfl ?_
  refine s_goto (tgt := 145) C dX9_copies_186 (by decide) ?_
  refine s_sub [1, 2, 3, 4, 0] rfl ?_
  exact hk145 a0 i1 i2 i4 (i6 + 1)
set_option maxRecDepth 20000 in
theorem X9_copies_b145_s (C : Cx G p R s m args meth c cX9_copies 7 yX9_copies.cls h0 h') (hF : R.frames = 4) (hO : R.locals = 92) (hr : meth.sig.returnType = none) (hm : meth.name = yX9_copies.name)  (n : Nat) : ∀ (a0 : Nat) (i1 : Int32) (i2 : Int32) (i4 : Int32) (i6 : Int32), Sm G (QM G rvU below args s h0 r h') p l e R s m args below meth c 7 h0 r h' 145 [(0, .ref a0), (1, .int i1), (2, .int i2), (4, .int i4), (6, .int i6)] [] (X9_copies_b145  n a0 i1 i2 i4 i6) := by
  induction n with
  | zero => intro a0 i1 i2 i4 i6; exact s_fl
  | succ n ih => intro a0 i1 i2 i4 i6; exact X9_copies_b145b_s C hF hO hr hm  ih a0 i1 i2 i4 i6
set_option maxRecDepth 20000 in
theorem X9_copies_b104b_s (C : Cx G p R s m args meth c cX9_copies 7 yX9_copies.cls h0 h') (hF : R.frames = 4) (hO : R.locals = 92) (hr : meth.sig.returnType = none) (hm : meth.name = yX9_copies.name)  {k104 : Nat → Int32 → Int32 → Int32 → Int32 → Int32 → Int32 → M Unit} (hk104 : ∀ (a0 : Nat) (i1 : Int32) (i2 : Int32) (i3 : Int32) (i4 : Int32) (i5 : Int32) (i6 : Int32), Sm G (QM G rvU below args s h0 r h') p l e R s m args below meth c 7 h0 r h' 104 [(0, .ref a0), (1, .int i1), (2, .int i2), (3, .int i3), (4, .int i4), (5, .int i5), (6, .int i6)] [] (k104 a0 i1 i2 i3 i4 i5 i6)) (a0 : Nat) (i1 : Int32) (i2 : Int32) (i3 : Int32) (i4 : Int32) (i5 : Int32) (i6 : Int32) : Sm G (QM G rvU below args s h0 r h') p l e R s m args below meth c 7 h0 r h' 104 [(0, .ref a0), (1, .int i1), (2, .int i2), (3, .int i3), (4, .int i4), (5, .int i5), (6, .int i6)] [] (X9_copies_b104b  k104 a0 i1 i2 i3 i4 i5 i6) := by
  refine s_iload C 6 dX9_copies_104 rfl ?_
  refine s_iload_n C 3 dX9_copies_106 rfl rfl ?_
  refine s_icmp_ge (tgt := 133) C dX9_copies_107 (by decide) ?_ ?_
  · refine s_aload_n C 0 dX9_copies_133 rfl rfl ?_
    refine s_aload_n C 0 dX9_copies_134 rfl rfl ?_
    refine s_gI C ci12 35 (by decide) (Or.inl wd_6_150) dX9_copies_135 (fun x1 => ?_)
    refine s_iconst (v := 0) C dX9_copies_138 (by decide) ?_
    refine s_invV_u C ci12 cy_X9_brings (Or.inl wd_8_19) rfl wd_8_21 wp_68 (con_X9_brings l G a0 x1 0) rfl rfl (Nat.le_of_ble_eq_true rfl) (by rw [hF]; decide) (by rw [hO]; exact Nat.le_of_ble_eq_true rfl) dX9_copies_139 ?_
    refine s_iconst (v := 0) C dX9_copies_142 (by decide) ?_
    refine s_istore (lv' := [(6, .int 0), (0, .ref a0), (1, .int i1), (2, .int i2), (3, .int i3), (4, .int i4), (5, .int i5)]) C dX9_copies_143 (by decide) rfl ?_
    refine s_sub [1, 2, 3, 5, 0] rfl ?_
    exact X9_copies_b145_s C hF hO hr hm  FU a0 i1 i2 i4 0
  refine s_aload_n C 0 dX9_copies_110 rfl rfl ?_
  refine s_gR C ci12 13 (by decide) (Or.inl wd_6_128) dX9_copies_111 (fun y2 => ?_)
  refine s_iload C 6 dX9_copies_114 rfl ?_
  refine s_aload_n C 0 dX9_copies_116 rfl rfl ?_
  refine s_gR C ci12 3 (by decide) (Or.inl wd_6_118) dX9_copies_117 (fun y3 => ?_)
  refine s_iload C 5 dX9_copies_120 rfl ?_
  refine s_iload C 6 dX9_copies_122 rfl ?_
  refine s_iadd C dX9_copies_124 ?_
  refine s_al21 C dX9_copies_125 (fun x4 => ?_)
  refine s_as21 C dX9_copies_126 ?_
  refine s_iincK (lv' := [(6, .int (i6 + 1)), (0, .ref a0), (1, .int i1), (2, .int i2), (3, .int i3), (4, .int i4), (5, .int i5)]) (w := 1) C 6 dX9_copies_127 rfl (by decide) (by decide) rfl ?_
  refine s_goto (tgt := 104) C dX9_copies_130 (by decide) ?_
  refine s_sub [1, 2, 3, 4, 5, 6, 0] rfl ?_
  exact hk104 a0 i1 i2 i3 i4 i5 (i6 + 1)
set_option maxRecDepth 20000 in
theorem X9_copies_b104_s (C : Cx G p R s m args meth c cX9_copies 7 yX9_copies.cls h0 h') (hF : R.frames = 4) (hO : R.locals = 92) (hr : meth.sig.returnType = none) (hm : meth.name = yX9_copies.name)  (n : Nat) : ∀ (a0 : Nat) (i1 : Int32) (i2 : Int32) (i3 : Int32) (i4 : Int32) (i5 : Int32) (i6 : Int32), Sm G (QM G rvU below args s h0 r h') p l e R s m args below meth c 7 h0 r h' 104 [(0, .ref a0), (1, .int i1), (2, .int i2), (3, .int i3), (4, .int i4), (5, .int i5), (6, .int i6)] [] (X9_copies_b104  n a0 i1 i2 i3 i4 i5 i6) := by
  induction n with
  | zero => intro a0 i1 i2 i3 i4 i5 i6; exact s_fl
  | succ n ih => intro a0 i1 i2 i3 i4 i5 i6; exact X9_copies_b104b_s C hF hO hr hm  ih a0 i1 i2 i3 i4 i5 i6
set_option maxRecDepth 20000 in
theorem X9_copies_b78_s (C : Cx G p R s m args meth c cX9_copies 7 yX9_copies.cls h0 h') (hF : R.frames = 4) (hO : R.locals = 92) (hr : meth.sig.returnType = none) (hm : meth.name = yX9_copies.name)   (a0 : Nat) (i1 : Int32) (i2 : Int32) (i3 : Int32) : Sm G (QM G rvU below args s h0 r h') p l e R s m args below meth c 7 h0 r h' 78 [(0, .ref a0), (1, .int i1), (2, .int i2), (3, .int i3)] [] (X9_copies_b78   a0 i1 i2 i3) := by
  refine s_aload_n C 0 dX9_copies_78 rfl rfl ?_
  refine s_aload_n C 0 dX9_copies_79 rfl rfl ?_
  refine s_gI C ci12 35 (by decide) (Or.inl wd_6_150) dX9_copies_80 (fun x1 => ?_)
  refine s_iconst (v := 0) C dX9_copies_83 (by decide) ?_
  refine s_invV_i C ci12 cy_X9_sizeOf (Or.inl wd_7_76) rfl wd_7_78 wp_35 (con_X9_sizeOf l G a0 x1 0) rfl rfl (Nat.le_of_ble_eq_true rfl) (by rw [hF]; decide) (by rw [hO]; exact Nat.le_of_ble_eq_true rfl) dX9_copies_84 (fun x2 => ?_)
  refine s_istore (lv' := [(4, .int x2), (0, .ref a0), (1, .int i1), (2, .int i2), (3, .int i3)]) C dX9_copies_87 (by decide) rfl ?_
  refine s_aload_n C 1 dX9_copies_89 rfl rfl ?_
  refine s_iload_n C 3 dX9_copies_90 rfl rfl ?_
  refine s_invV_i C ci12 cy_X9_recordAt (Or.inl wd_7_135) rfl wd_7_137 wp_46 (con_X9_recordAt l G a0 i2) rfl rfl (Nat.le_of_ble_eq_true rfl) (by rw [hF]; decide) (by rw [hO]; exact Nat.le_of_ble_eq_true rfl) dX9_copies_91 (fun x3 => ?_)
  refine s_istore (lv' := [(5, .int x3), (4, .int x2), (0, .ref a0), (1, .int i1), (2, .int i2), (3, .int i3)]) C dX9_copies_94 (by decide) rfl ?_
  refine s_aload_n C 2 dX9_copies_96 rfl rfl ?_
  refine s_iload_n C 5 dX9_copies_97 rfl rfl ?_
  refine s_pV C ci12 14 (by decide) rfl (Or.inl wd_6_129) dX9_copies_98 rfl rfl ?_
  refine s_iconst (v := 0) C dX9_copies_101 (by decide) ?_
  refine s_istore (lv' := [(6, .int 0), (5, .int x3), (4, .int x2), (0, .ref a0), (1, .int i1), (2, .int i2), (3, .int i3)]) C dX9_copies_102 (by decide) rfl ?_
  refine s_sub [3, 4, 5, 6, 2, 1, 0] rfl ?_
  exact X9_copies_b104_s C hF hO hr hm  FU a0 i1 i2 i3 x2 x3 0
set_option maxRecDepth 20000 in
theorem X9_copies_b47_s (C : Cx G p R s m args meth c cX9_copies 7 yX9_copies.cls h0 h') (hF : R.frames = 4) (hO : R.locals = 92) (hr : meth.sig.returnType = none) (hm : meth.name = yX9_copies.name)   (a0 : Nat) (i1 : Int32) (i2 : Int32) (i3 : Int32) : Sm G (QM G rvU below args s h0 r h') p l e R s m args below meth c 7 h0 r h' 47 [(0, .ref a0), (1, .int i1), (2, .int i2), (3, .int i3)] [] (X9_copies_b47   a0 i1 i2 i3) := by
  refine s_aload_n C 0 dX9_copies_47 rfl rfl ?_
  refine s_gI C ci12 35 (by decide) (Or.inl wd_6_150) dX9_copies_48 (fun x1 => ?_)
  refine s_iconst (v := (-1)) C dX9_copies_51 (by decide) ?_
  refine s_icmp_ne (tgt := 78) C dX9_copies_52 (by decide) ?_ ?_
  · exact X9_copies_b78_s C hF hO hr hm   a0 i1 i2 i3
  refine s_aload_n C 0 dX9_copies_55 rfl rfl ?_
  refine s_aload_n C 0 dX9_copies_56 rfl rfl ?_
  refine s_gI C ci12 24 (by decide) (Or.inl wd_6_139) dX9_copies_57 (fun x2 => ?_)
  refine s_pV C ci12 35 (by decide) rfl (Or.inl wd_6_150) dX9_copies_60 rfl rfl ?_
  refine s_aload_n C 0 dX9_copies_63 rfl rfl ?_
  refine s_dup C dX9_copies_64 rfl ?_
  refine s_gI C ci12 24 (by decide) (Or.inl wd_6_139) dX9_copies_65 (fun x3 => ?_)
  refine s_iconst (v := 1) C dX9_copies_68 (by decide) ?_
  refine s_iadd C dX9_copies_69 ?_
  refine s_pV C ci12 24 (by decide) rfl (Or.inl wd_6_139) dX9_copies_70 rfl rfl ?_
  refine s_aload_n C 0 dX9_copies_73 rfl rfl ?_
  refine s_iconst (v := 0) C dX9_copies_74 (by decide) ?_
  refine s_pV C ci12 53 (by decide) rfl (Or.inl wd_6_168) dX9_copies_75 rfl rfl ?_
  exact X9_copies_b78_s C hF hO hr hm   a0 i1 i2 i3
end
set_option maxRecDepth 20000 in
theorem con_X9_copies (l : Launch) (G : Gx) (a0 : Nat) (i1 : Int32) : Con G rvU l yX9_copies cX9_copies 7 none 4 92 [.ref a0, .int i1] (X9_copies a0 i1) := by
  refine con_of (lv := [(0, .ref a0), (1, .int i1)]) (by decide) (Nat.le_of_ble_eq_true rfl) rfl (fun p e R s m args below meth c h0 r h' C hF hO hr hm => ?_)
  refine s_aload_n C 0 dX9_copies_0 rfl rfl ?_
  refine s_iload_n C 1 dX9_copies_1 rfl rfl ?_
  refine s_invV_i C ci12 cy_X9_entryOf (Or.inl wd_7_227) rfl wd_7_229 wp_61 (con_X9_entryOf l G a0 i1) rfl rfl (Nat.le_of_ble_eq_true rfl) (by rw [hF]; decide) (by rw [hO]; exact Nat.le_of_ble_eq_true rfl) dX9_copies_2 (fun x1 => ?_)
  refine s_istore_n (lv' := [(2, .int x1), (0, .ref a0), (1, .int i1)]) C dX9_copies_5 rfl (by decide) rfl ?_
  refine s_aload_n C 1 dX9_copies_6 rfl rfl ?_
  refine s_iload_n C 0 dX9_copies_7 rfl rfl ?_
  refine s_invV_i C ci12 cy_X9_recordBytes (Or.inl wd_7_139) rfl wd_7_141 wp_47 (con_X9_recordBytes l G a0 x1) rfl rfl (Nat.le_of_ble_eq_true rfl) (by rw [hF]; decide) (by rw [hO]; exact Nat.le_of_ble_eq_true rfl) dX9_copies_8 (fun x2 => ?_)
  refine s_istore_n (lv' := [(3, .int x2), (2, .int x1), (0, .ref a0), (1, .int i1)]) C dX9_copies_11 rfl (by decide) rfl ?_
  refine s_aload_n C 2 dX9_copies_12 rfl rfl ?_
  refine s_gI C ci12 35 (by decide) (Or.inl wd_6_150) dX9_copies_13 (fun x3 => ?_)
  refine s_iconst (v := (-1)) C dX9_copies_16 (by decide) ?_
  refine s_icmp_eq (tgt := 47) C dX9_copies_17 (by decide) ?_ ?_
  · refine s_sub [2, 3, 1, 0] rfl ?_
    exact X9_copies_b47_s C hF hO hr hm   a0 i1 x1 x2
  refine s_aload_n C 2 dX9_copies_20 rfl rfl ?_
  refine s_aload_n C 2 dX9_copies_21 rfl rfl ?_
  refine s_gI C ci12 35 (by decide) (Or.inl wd_6_150) dX9_copies_22 (fun x4 => ?_)
  refine s_iconst (v := 0) C dX9_copies_25 (by decide) ?_
  refine s_invV_i C ci12 cy_X9_sizeOf (Or.inl wd_7_76) rfl wd_7_78 wp_35 (con_X9_sizeOf l G a0 x4 0) rfl rfl (Nat.le_of_ble_eq_true rfl) (by rw [hF]; decide) (by rw [hO]; exact Nat.le_of_ble_eq_true rfl) dX9_copies_26 (fun x5 => ?_)
  refine s_iload_n C 0 dX9_copies_29 rfl rfl ?_
  refine s_iadd C dX9_copies_30 ?_
  refine s_aload_n C 2 dX9_copies_31 rfl rfl ?_
  refine s_gI C ci12 2 (by decide) (Or.inl wd_6_117) dX9_copies_32 (fun x6 => ?_)
  refine s_icmp_le (tgt := 47) C dX9_copies_35 (by decide) ?_ ?_
  · refine s_sub [2, 3, 1, 0] rfl ?_
    exact X9_copies_b47_s C hF hO hr hm   a0 i1 x1 x2
  refine s_aload_n C 2 dX9_copies_38 rfl rfl ?_
  refine s_invV_u C ci12 cy_X9_hints (Or.inl wd_8_15) rfl wd_8_17 wp_67 (con_X9_hints l G a0) rfl rfl (Nat.le_of_ble_eq_true rfl) (by rw [hF]; decide) (by rw [hO]; exact Nat.le_of_ble_eq_true rfl) dX9_copies_39 ?_
  refine s_aload_n C 2 dX9_copies_42 rfl rfl ?_
  refine s_iconst (v := (-1)) C dX9_copies_43 (by decide) ?_
  refine s_pV C ci12 35 (by decide) rfl (Or.inl wd_6_150) dX9_copies_44 rfl rfl ?_
  refine s_sub [2, 3, 1, 0] rfl ?_
  exact X9_copies_b47_s C hF hO hr hm   a0 i1 x1 x2

theorem dX9_finishes_0 : decode cX9_finishes 0 = .ok (.aload_n 0, 1) := by decide +kernel
theorem dX9_finishes_1 : decode cX9_finishes 1 = .ok (.getfield 146, 3) := by decide +kernel
theorem dX9_finishes_4 : decode cX9_finishes 4 = .ok (.iconst (-1), 1) := by decide +kernel
theorem dX9_finishes_5 : decode cX9_finishes 5 = .ok (.if_icmp .eq 7, 3) := by decide +kernel
theorem dX9_finishes_8 : decode cX9_finishes 8 = .ok (.aload_n 0, 1) := by decide +kernel
theorem dX9_finishes_9 : decode cX9_finishes 9 = .ok (.invokevirtual 325, 3) := by decide +kernel
theorem dX9_finishes_12 : decode cX9_finishes 12 = .ok (.aload_n 0, 1) := by decide +kernel
theorem dX9_finishes_13 : decode cX9_finishes 13 = .ok (.iconst (-1), 1) := by decide +kernel
theorem dX9_finishes_14 : decode cX9_finishes 14 = .ok (.putfield 146, 3) := by decide +kernel
theorem dX9_finishes_17 : decode cX9_finishes 17 = .ok (.aload_n 0, 1) := by decide +kernel
theorem dX9_finishes_18 : decode cX9_finishes 18 = .ok (.aload_n 0, 1) := by decide +kernel
theorem dX9_finishes_19 : decode cX9_finishes 19 = .ok (.getfield 131, 3) := by decide +kernel
theorem dX9_finishes_22 : decode cX9_finishes 22 = .ok (.putfield 328, 3) := by decide +kernel
theorem dX9_finishes_25 : decode cX9_finishes 25 = .ok (.aload_n 0, 1) := by decide +kernel
theorem dX9_finishes_26 : decode cX9_finishes 26 = .ok (.dup, 1) := by decide +kernel
theorem dX9_finishes_27 : decode cX9_finishes 27 = .ok (.getfield 131, 3) := by decide +kernel
theorem dX9_finishes_30 : decode cX9_finishes 30 = .ok (.iconst 1, 1) := by decide +kernel
theorem dX9_finishes_31 : decode cX9_finishes 31 = .ok (.iadd, 1) := by decide +kernel
theorem dX9_finishes_32 : decode cX9_finishes 32 = .ok (.putfield 131, 3) := by decide +kernel
theorem dX9_finishes_35 : decode cX9_finishes 35 = .ok (.aload_n 0, 1) := by decide +kernel
theorem dX9_finishes_36 : decode cX9_finishes 36 = .ok (.iconst 0, 1) := by decide +kernel
theorem dX9_finishes_37 : decode cX9_finishes 37 = .ok (.putfield 157, 3) := by decide +kernel
theorem dX9_finishes_40 : decode cX9_finishes 40 = .ok (.aload_n 0, 1) := by decide +kernel
theorem dX9_finishes_41 : decode cX9_finishes 41 = .ok (.aload_n 0, 1) := by decide +kernel
theorem dX9_finishes_42 : decode cX9_finishes 42 = .ok (.getfield 298, 3) := by decide +kernel
theorem dX9_finishes_45 : decode cX9_finishes 45 = .ok (.iconst 4, 1) := by decide +kernel
theorem dX9_finishes_46 : decode cX9_finishes 46 = .ok (.invokevirtual 223, 3) := by decide +kernel
theorem dX9_finishes_49 : decode cX9_finishes 49 = .ok (.iconst 0, 1) := by decide +kernel
theorem dX9_finishes_50 : decode cX9_finishes 50 = .ok (.istore_n 1, 1) := by decide +kernel
theorem dX9_finishes_51 : decode cX9_finishes 51 = .ok (.iload_n 1, 1) := by decide +kernel
theorem dX9_finishes_52 : decode cX9_finishes 52 = .ok (.aload_n 0, 1) := by decide +kernel
theorem dX9_finishes_53 : decode cX9_finishes 53 = .ok (.getfield 298, 3) := by decide +kernel
theorem dX9_finishes_56 : decode cX9_finishes 56 = .ok (.if_icmp .ge 20, 3) := by decide +kernel
theorem dX9_finishes_59 : decode cX9_finishes 59 = .ok (.aload_n 0, 1) := by decide +kernel
theorem dX9_finishes_60 : decode cX9_finishes 60 = .ok (.aload_n 0, 1) := by decide +kernel
theorem dX9_finishes_61 : decode cX9_finishes 61 = .ok (.getfield 71, 3) := by decide +kernel
theorem dX9_finishes_64 : decode cX9_finishes 64 = .ok (.iload_n 1, 1) := by decide +kernel
theorem dX9_finishes_65 : decode cX9_finishes 65 = .ok (.iaload, 1) := by decide +kernel
theorem dX9_finishes_66 : decode cX9_finishes 66 = .ok (.iconst 4, 1) := by decide +kernel
theorem dX9_finishes_67 : decode cX9_finishes 67 = .ok (.invokevirtual 223, 3) := by decide +kernel
theorem dX9_finishes_70 : decode cX9_finishes 70 = .ok (.iinc 1 1, 3) := by decide +kernel
theorem dX9_finishes_73 : decode cX9_finishes 73 = .ok (.goto (-22), 3) := by decide +kernel
theorem dX9_finishes_76 : decode cX9_finishes 76 = .ok (.aload_n 0, 1) := by decide +kernel
theorem dX9_finishes_77 : decode cX9_finishes 77 = .ok (.aload_n 0, 1) := by decide +kernel
theorem dX9_finishes_78 : decode cX9_finishes 78 = .ok (.getfield 32, 3) := by decide +kernel
theorem dX9_finishes_81 : decode cX9_finishes 81 = .ok (.iconst 0, 1) := by decide +kernel
theorem dX9_finishes_82 : decode cX9_finishes 82 = .ok (.aload_n 0, 1) := by decide +kernel
theorem dX9_finishes_83 : decode cX9_finishes 83 = .ok (.getfield 157, 3) := by decide +kernel
theorem dX9_finishes_86 : decode cX9_finishes 86 = .ok (.invokestatic 194, 3) := by decide +kernel
theorem dX9_finishes_89 : decode cX9_finishes 89 = .ok (.iconst 4, 1) := by decide +kernel
theorem dX9_finishes_90 : decode cX9_finishes 90 = .ok (.invokevirtual 223, 3) := by decide +kernel
theorem dX9_finishes_93 : decode cX9_finishes 93 = .ok (.aload_n 0, 1) := by decide +kernel
theorem dX9_finishes_94 : decode cX9_finishes 94 = .ok (.aload_n 0, 1) := by decide +kernel
theorem dX9_finishes_95 : decode cX9_finishes 95 = .ok (.getfield 328, 3) := by decide +kernel
theorem dX9_finishes_98 : decode cX9_finishes 98 = .ok (.iconst 2, 1) := by decide +kernel
theorem dX9_finishes_99 : decode cX9_finishes 99 = .ok (.invokevirtual 322, 3) := by decide +kernel
theorem dX9_finishes_102 : decode cX9_finishes 102 = .ok (.aload_n 0, 1) := by decide +kernel
theorem dX9_finishes_103 : decode cX9_finishes 103 = .ok (.iconst 0, 1) := by decide +kernel
theorem dX9_finishes_104 : decode cX9_finishes 104 = .ok (.putfield 109, 3) := by decide +kernel
theorem dX9_finishes_107 : decode cX9_finishes 107 = .ok (.aload_n 0, 1) := by decide +kernel
theorem dX9_finishes_108 : decode cX9_finishes 108 = .ok (.iconst 2, 1) := by decide +kernel
theorem dX9_finishes_109 : decode cX9_finishes 109 = .ok (.putfield 143, 3) := by decide +kernel
theorem dX9_finishes_112 : decode cX9_finishes 112 = .ok (.return_, 1) := by decide +kernel
def X9_finishes_b51b  (k51 : Nat → Int32 → M Unit) (a0 : Nat) (i1 : Int32) : M Unit := bd (gI 12 45 a0) (fun x1 => it (x1 ≤ i1) (bd (gR 12 13 a0) (fun y2 => bd (gI 12 14 a0) (fun x3 => bd (X9_sum y2 0 x3) (fun x4 => bd (ck 12 a0) (fun _ => bd (X9_drafts a0 x4 4) (fun _ => bd (gI 12 47 a0) (fun x5 => bd (ck 12 a0) (fun _ => bd (X9_brings a0 x5 2) (fun _ => bd (pV 12 12 a0 (.int 0)) (fun _ => bd (pV 12 34 a0 (.int 2)) (fun _ => pu ()))))))))))) (bd (gR 12 44 a0) (fun y6 => bd (al 22 y6 i1) (fun x7 => bd (ck 12 a0) (fun _ => bd (X9_drafts a0 x7 4) (fun _ => k51 a0 (i1 + 1)))))))
def X9_finishes_b51  : Nat → Nat → Int32 → M Unit
  | 0 => fun _ _ => fl
  | n + 1 => fun a0 i1 => X9_finishes_b51b  (X9_finishes_b51  n) a0 i1
def X9_finishes_b12   (a0 : Nat) : M Unit := bd (pV 12 35 a0 (.int (-1))) (fun _ => bd (gI 12 24 a0) (fun x1 => bd (pV 12 47 a0 (.int x1)) (fun _ => bd (gI 12 24 a0) (fun x2 => bd (pV 12 24 a0 (.int (x2 + 1))) (fun _ => bd (pV 12 14 a0 (.int 0)) (fun _ => bd (gI 12 45 a0) (fun x3 => bd (ck 12 a0) (fun _ => bd (X9_drafts a0 x3 4) (fun _ => X9_finishes_b51  FU a0 0)))))))))
def X9_finishes (a0 : Nat) : M Unit := bd (gI 12 35 a0) (fun x1 => it (x1 = (-1)) (X9_finishes_b12   a0) (bd (ck 12 a0) (fun _ => bd (X9_hints a0) (fun _ => X9_finishes_b12   a0))))
section
variable {G : Gx} {p : Program} {l : Launch} {e : Env} {R : Room} {s : State} {m : MethodId} {args : Array Value} {below : List Frame} {meth : Method} {c : Code} {h0 : Hp} {r : Unit} {h' : Hp}
set_option maxRecDepth 20000 in
theorem X9_finishes_b51b_s (C : Cx G p R s m args meth c cX9_finishes 2 yX9_finishes.cls h0 h') (hF : R.frames = 4) (hO : R.locals = 92) (hr : meth.sig.returnType = none) (hm : meth.name = yX9_finishes.name)  {k51 : Nat → Int32 → M Unit} (hk51 : ∀ (a0 : Nat) (i1 : Int32), Sm G (QM G rvU below args s h0 r h') p l e R s m args below meth c 2 h0 r h' 51 [(0, .ref a0), (1, .int i1)] [] (k51 a0 i1)) (a0 : Nat) (i1 : Int32) : Sm G (QM G rvU below args s h0 r h') p l e R s m args below meth c 2 h0 r h' 51 [(0, .ref a0), (1, .int i1)] [] (X9_finishes_b51b  k51 a0 i1) := by
  refine s_iload_n C 1 dX9_finishes_51 rfl rfl ?_
  refine s_aload_n C 0 dX9_finishes_52 rfl rfl ?_
  refine s_gI C ci12 45 (by decide) (Or.inl wd_6_160) dX9_finishes_53 (fun x1 => ?_)
  refine s_icmp_ge (tgt := 76) C dX9_finishes_56 (by decide) ?_ ?_
  · refine s_aload_n C 0 dX9_finishes_76 rfl rfl ?_
    refine s_aload_n C 0 dX9_finishes_77 rfl rfl ?_
    refine s_gR C ci12 13 (by decide) (Or.inl wd_6_128) dX9_finishes_78 (fun y2 => ?_)
    refine s_iconst (v := 0) C dX9_finishes_81 (by decide) ?_
    refine s_aload_n C 0 dX9_finishes_82 rfl rfl ?_
    refine s_gI C ci12 14 (by decide) (Or.inl wd_6_129) dX9_finishes_83 (fun x3 => ?_)
    refine s_invS_i C cy_X9_sum (Or.inl wd_7_88) wd_7_89 (con_X9_sum l G y2 0 x3) rfl rfl (Nat.le_of_ble_eq_true rfl) (by rw [hF]; decide) (by rw [hO]; exact Nat.le_of_ble_eq_true rfl) dX9_finishes_86 (fun x4 => ?_)
    refine s_iconst (v := 4) C dX9_finishes_89 (by decide) ?_
    refine s_invV_u C ci12 cy_X9_drafts (Or.inl wd_7_84) rfl wd_7_86 wp_37 (con_X9_drafts l G a0 x4 4) rfl rfl (Nat.le_of_ble_eq_true rfl) (by rw [hF]; decide) (by rw [hO]; exact Nat.le_of_ble_eq_true rfl) dX9_finishes_90 ?_
    refine s_aload_n C 0 dX9_finishes_93 rfl rfl ?_
    refine s_aload_n C 0 dX9_finishes_94 rfl rfl ?_
    refine s_gI C ci12 47 (by decide) (Or.inl wd_6_162) dX9_finishes_95 (fun x5 => ?_)
    refine s_iconst (v := 2) C dX9_finishes_98 (by decide) ?_
    refine s_invV_u C ci12 cy_X9_brings (Or.inl wd_8_19) rfl wd_8_21 wp_68 (con_X9_brings l G a0 x5 2) rfl rfl (Nat.le_of_ble_eq_true rfl) (by rw [hF]; decide) (by rw [hO]; exact Nat.le_of_ble_eq_true rfl) dX9_finishes_99 ?_
    refine s_aload_n C 0 dX9_finishes_102 rfl rfl ?_
    refine s_iconst (v := 0) C dX9_finishes_103 (by decide) ?_
    refine s_pV C ci12 12 (by decide) rfl (Or.inl wd_6_127) dX9_finishes_104 rfl rfl ?_
    refine s_aload_n C 0 dX9_finishes_107 rfl rfl ?_
    refine s_iconst (v := 2) C dX9_finishes_108 (by decide) ?_
    refine s_pV C ci12 34 (by decide) rfl (Or.inl wd_6_149) dX9_finishes_109 rfl rfl ?_
    exact s_vret C hr rfl dX9_finishes_112
  refine s_aload_n C 0 dX9_finishes_59 rfl rfl ?_
  refine s_aload_n C 0 dX9_finishes_60 rfl rfl ?_
  refine s_gR C ci12 44 (by decide) (Or.inl wd_6_159) dX9_finishes_61 (fun y6 => ?_)
  refine s_iload_n C 1 dX9_finishes_64 rfl rfl ?_
  refine s_al22 C dX9_finishes_65 (fun x7 => ?_)
  refine s_iconst (v := 4) C dX9_finishes_66 (by decide) ?_
  refine s_invV_u C ci12 cy_X9_drafts (Or.inl wd_7_84) rfl wd_7_86 wp_37 (con_X9_drafts l G a0 x7 4) rfl rfl (Nat.le_of_ble_eq_true rfl) (by rw [hF]; decide) (by rw [hO]; exact Nat.le_of_ble_eq_true rfl) dX9_finishes_67 ?_
  refine s_iincK (lv' := [(1, .int (i1 + 1)), (0, .ref a0)]) (w := 1) C 1 dX9_finishes_70 rfl (by decide) (by decide) rfl ?_
  refine s_goto (tgt := 51) C dX9_finishes_73 (by decide) ?_
  refine s_sub [1, 0] rfl ?_
  exact hk51 a0 (i1 + 1)
set_option maxRecDepth 20000 in
theorem X9_finishes_b51_s (C : Cx G p R s m args meth c cX9_finishes 2 yX9_finishes.cls h0 h') (hF : R.frames = 4) (hO : R.locals = 92) (hr : meth.sig.returnType = none) (hm : meth.name = yX9_finishes.name)  (n : Nat) : ∀ (a0 : Nat) (i1 : Int32), Sm G (QM G rvU below args s h0 r h') p l e R s m args below meth c 2 h0 r h' 51 [(0, .ref a0), (1, .int i1)] [] (X9_finishes_b51  n a0 i1) := by
  induction n with
  | zero => intro a0 i1; exact s_fl
  | succ n ih => intro a0 i1; exact X9_finishes_b51b_s C hF hO hr hm  ih a0 i1
set_option maxRecDepth 20000 in
theorem X9_finishes_b12_s (C : Cx G p R s m args meth c cX9_finishes 2 yX9_finishes.cls h0 h') (hF : R.frames = 4) (hO : R.locals = 92) (hr : meth.sig.returnType = none) (hm : meth.name = yX9_finishes.name)   (a0 : Nat) : Sm G (QM G rvU below args s h0 r h') p l e R s m args below meth c 2 h0 r h' 12 [(0, .ref a0)] [] (X9_finishes_b12   a0) := by
  refine s_aload_n C 0 dX9_finishes_12 rfl rfl ?_
  refine s_iconst (v := (-1)) C dX9_finishes_13 (by decide) ?_
  refine s_pV C ci12 35 (by decide) rfl (Or.inl wd_6_150) dX9_finishes_14 rfl rfl ?_
  refine s_aload_n C 0 dX9_finishes_17 rfl rfl ?_
  refine s_aload_n C 0 dX9_finishes_18 rfl rfl ?_
  refine s_gI C ci12 24 (by decide) (Or.inl wd_6_139) dX9_finishes_19 (fun x1 => ?_)
  refine s_pV C ci12 47 (by decide) rfl (Or.inl wd_6_162) dX9_finishes_22 rfl rfl ?_
  refine s_aload_n C 0 dX9_finishes_25 rfl rfl ?_
  refine s_dup C dX9_finishes_26 rfl ?_
  refine s_gI C ci12 24 (by decide) (Or.inl wd_6_139) dX9_finishes_27 (fun x2 => ?_)
  refine s_iconst (v := 1) C dX9_finishes_30 (by decide) ?_
  refine s_iadd C dX9_finishes_31 ?_
  refine s_pV C ci12 24 (by decide) rfl (Or.inl wd_6_139) dX9_finishes_32 rfl rfl ?_
  refine s_aload_n C 0 dX9_finishes_35 rfl rfl ?_
  refine s_iconst (v := 0) C dX9_finishes_36 (by decide) ?_
  refine s_pV C ci12 14 (by decide) rfl (Or.inl wd_6_129) dX9_finishes_37 rfl rfl ?_
  refine s_aload_n C 0 dX9_finishes_40 rfl rfl ?_
  refine s_aload_n C 0 dX9_finishes_41 rfl rfl ?_
  refine s_gI C ci12 45 (by decide) (Or.inl wd_6_160) dX9_finishes_42 (fun x3 => ?_)
  refine s_iconst (v := 4) C dX9_finishes_45 (by decide) ?_
  refine s_invV_u C ci12 cy_X9_drafts (Or.inl wd_7_84) rfl wd_7_86 wp_37 (con_X9_drafts l G a0 x3 4) rfl rfl (Nat.le_of_ble_eq_true rfl) (by rw [hF]; decide) (by rw [hO]; exact Nat.le_of_ble_eq_true rfl) dX9_finishes_46 ?_
  refine s_iconst (v := 0) C dX9_finishes_49 (by decide) ?_
  refine s_istore_n (lv' := [(1, .int 0), (0, .ref a0)]) C dX9_finishes_50 rfl (by decide) rfl ?_
  refine s_sub [1, 0] rfl ?_
  exact X9_finishes_b51_s C hF hO hr hm  FU a0 0
end
set_option maxRecDepth 20000 in
theorem con_X9_finishes (l : Launch) (G : Gx) (a0 : Nat) : Con G rvU l yX9_finishes cX9_finishes 2 none 4 92 [.ref a0] (X9_finishes a0) := by
  refine con_of (lv := [(0, .ref a0)]) (by decide) (Nat.le_of_ble_eq_true rfl) rfl (fun p e R s m args below meth c h0 r h' C hF hO hr hm => ?_)
  refine s_aload_n C 0 dX9_finishes_0 rfl rfl ?_
  refine s_gI C ci12 35 (by decide) (Or.inl wd_6_150) dX9_finishes_1 (fun x1 => ?_)
  refine s_iconst (v := (-1)) C dX9_finishes_4 (by decide) ?_
  refine s_icmp_eq (tgt := 12) C dX9_finishes_5 (by decide) ?_ ?_
  · exact X9_finishes_b12_s C hF hO hr hm   a0
  refine s_aload_n C 0 dX9_finishes_8 rfl rfl ?_
  refine s_invV_u C ci12 cy_X9_hints (Or.inl wd_8_15) rfl wd_8_17 wp_67 (con_X9_hints l G a0) rfl rfl (Nat.le_of_ble_eq_true rfl) (by rw [hF]; decide) (by rw [hO]; exact Nat.le_of_ble_eq_true rfl) dX9_finishes_9 ?_
  exact X9_finishes_b12_s C hF hO hr hm   a0

theorem dX9_unit_0 : decode cX9_unit 0 = .ok (.aload_n 0, 1) := by decide +kernel
theorem dX9_unit_1 : decode cX9_unit 1 = .ok (.getfield 143, 3) := by decide +kernel
theorem dX9_unit_4 : decode cX9_unit 4 = .ok (.iconst 1, 1) := by decide +kernel
theorem dX9_unit_5 : decode cX9_unit 5 = .ok (.if_icmp .ne 33, 3) := by decide +kernel
theorem dX9_unit_8 : decode cX9_unit 8 = .ok (.aload_n 0, 1) := by decide +kernel
theorem dX9_unit_9 : decode cX9_unit 9 = .ok (.aload_n 0, 1) := by decide +kernel
theorem dX9_unit_10 : decode cX9_unit 10 = .ok (.getfield 295, 3) := by decide +kernel
theorem dX9_unit_13 : decode cX9_unit 13 = .ok (.invokevirtual 307, 3) := by decide +kernel
theorem dX9_unit_16 : decode cX9_unit 16 = .ok (.istore_n 1, 1) := by decide +kernel
theorem dX9_unit_17 : decode cX9_unit 17 = .ok (.iload_n 1, 1) := by decide +kernel
theorem dX9_unit_18 : decode cX9_unit 18 = .ok (.aload_n 0, 1) := by decide +kernel
theorem dX9_unit_19 : decode cX9_unit 19 = .ok (.getfield 289, 3) := by decide +kernel
theorem dX9_unit_22 : decode cX9_unit 22 = .ok (.if_icmp .ge 11, 3) := by decide +kernel
theorem dX9_unit_25 : decode cX9_unit 25 = .ok (.aload_n 0, 1) := by decide +kernel
theorem dX9_unit_26 : decode cX9_unit 26 = .ok (.iload_n 1, 1) := by decide +kernel
theorem dX9_unit_27 : decode cX9_unit 27 = .ok (.invokevirtual 331, 3) := by decide +kernel
theorem dX9_unit_30 : decode cX9_unit 30 = .ok (.goto 7, 3) := by decide +kernel
theorem dX9_unit_33 : decode cX9_unit 33 = .ok (.aload_n 0, 1) := by decide +kernel
theorem dX9_unit_34 : decode cX9_unit 34 = .ok (.invokevirtual 334, 3) := by decide +kernel
theorem dX9_unit_37 : decode cX9_unit 37 = .ok (.return_, 1) := by decide +kernel
theorem dX9_unit_38 : decode cX9_unit 38 = .ok (.aload_n 0, 1) := by decide +kernel
theorem dX9_unit_39 : decode cX9_unit 39 = .ok (.getfield 124, 3) := by decide +kernel
theorem dX9_unit_42 : decode cX9_unit 42 = .ok (.istore_n 1, 1) := by decide +kernel
theorem dX9_unit_43 : decode cX9_unit 43 = .ok (.aload_n 0, 1) := by decide +kernel
theorem dX9_unit_44 : decode cX9_unit 44 = .ok (.getfield 304, 3) := by decide +kernel
theorem dX9_unit_47 : decode cX9_unit 47 = .ok (.aload_n 0, 1) := by decide +kernel
theorem dX9_unit_48 : decode cX9_unit 48 = .ok (.getfield 298, 3) := by decide +kernel
theorem dX9_unit_51 : decode cX9_unit 51 = .ok (.if_icmp .ge 44, 3) := by decide +kernel
theorem dX9_unit_54 : decode cX9_unit 54 = .ok (.aload_n 0, 1) := by decide +kernel
theorem dX9_unit_55 : decode cX9_unit 55 = .ok (.aload_n 0, 1) := by decide +kernel
theorem dX9_unit_56 : decode cX9_unit 56 = .ok (.getfield 71, 3) := by decide +kernel
theorem dX9_unit_59 : decode cX9_unit 59 = .ok (.aload_n 0, 1) := by decide +kernel
theorem dX9_unit_60 : decode cX9_unit 60 = .ok (.getfield 304, 3) := by decide +kernel
theorem dX9_unit_63 : decode cX9_unit 63 = .ok (.iaload, 1) := by decide +kernel
theorem dX9_unit_64 : decode cX9_unit 64 = .ok (.iconst 0, 1) := by decide +kernel
theorem dX9_unit_65 : decode cX9_unit 65 = .ok (.invokevirtual 260, 3) := by decide +kernel
theorem dX9_unit_68 : decode cX9_unit 68 = .ok (.aload_n 0, 1) := by decide +kernel
theorem dX9_unit_69 : decode cX9_unit 69 = .ok (.aload_n 0, 1) := by decide +kernel
theorem dX9_unit_70 : decode cX9_unit 70 = .ok (.getfield 71, 3) := by decide +kernel
theorem dX9_unit_73 : decode cX9_unit 73 = .ok (.aload_n 0, 1) := by decide +kernel
theorem dX9_unit_74 : decode cX9_unit 74 = .ok (.getfield 304, 3) := by decide +kernel
theorem dX9_unit_77 : decode cX9_unit 77 = .ok (.iaload, 1) := by decide +kernel
theorem dX9_unit_78 : decode cX9_unit 78 = .ok (.iconst 1, 1) := by decide +kernel
theorem dX9_unit_79 : decode cX9_unit 79 = .ok (.invokevirtual 260, 3) := by decide +kernel
theorem dX9_unit_82 : decode cX9_unit 82 = .ok (.aload_n 0, 1) := by decide +kernel
theorem dX9_unit_83 : decode cX9_unit 83 = .ok (.dup, 1) := by decide +kernel
theorem dX9_unit_84 : decode cX9_unit 84 = .ok (.getfield 304, 3) := by decide +kernel
theorem dX9_unit_87 : decode cX9_unit 87 = .ok (.iconst 1, 1) := by decide +kernel
theorem dX9_unit_88 : decode cX9_unit 88 = .ok (.iadd, 1) := by decide +kernel
theorem dX9_unit_89 : decode cX9_unit 89 = .ok (.putfield 304, 3) := by decide +kernel
theorem dX9_unit_92 : decode cX9_unit 92 = .ok (.goto 17, 3) := by decide +kernel
theorem dX9_unit_95 : decode cX9_unit 95 = .ok (.aload_n 0, 1) := by decide +kernel
theorem dX9_unit_96 : decode cX9_unit 96 = .ok (.aload_n 0, 1) := by decide +kernel
theorem dX9_unit_97 : decode cX9_unit 97 = .ok (.getfield 328, 3) := by decide +kernel
theorem dX9_unit_100 : decode cX9_unit 100 = .ok (.iconst 2, 1) := by decide +kernel
theorem dX9_unit_101 : decode cX9_unit 101 = .ok (.invokevirtual 260, 3) := by decide +kernel
theorem dX9_unit_104 : decode cX9_unit 104 = .ok (.aload_n 0, 1) := by decide +kernel
theorem dX9_unit_105 : decode cX9_unit 105 = .ok (.iconst 0, 1) := by decide +kernel
theorem dX9_unit_106 : decode cX9_unit 106 = .ok (.putfield 143, 3) := by decide +kernel
theorem dX9_unit_109 : decode cX9_unit 109 = .ok (.aload_n 0, 1) := by decide +kernel
theorem dX9_unit_110 : decode cX9_unit 110 = .ok (.iload_n 1, 1) := by decide +kernel
theorem dX9_unit_111 : decode cX9_unit 111 = .ok (.putfield 124, 3) := by decide +kernel
theorem dX9_unit_114 : decode cX9_unit 114 = .ok (.return_, 1) := by decide +kernel
def X9_unit_b109   (a0 : Nat) (i1 : Int32) : M Unit := bd (pV 12 22 a0 (.int i1)) (fun _ => pu ())
def X9_unit (a0 : Nat) : M Unit := bd (gI 12 34 a0) (fun x1 => it (¬ x1 = 1) (bd (gI 12 22 a0) (fun x2 => bd (gI 12 46 a0) (fun x3 => bd (gI 12 45 a0) (fun x4 => it (x4 ≤ x3) (bd (gI 12 47 a0) (fun x5 => bd (ck 12 a0) (fun _ => bd (X9_removes a0 x5 2) (fun _ => bd (pV 12 34 a0 (.int 0)) (fun _ => X9_unit_b109   a0 x2))))) (bd (gR 12 44 a0) (fun y6 => bd (gI 12 46 a0) (fun x7 => bd (al 22 y6 x7) (fun x8 => bd (ck 12 a0) (fun _ => bd (X9_removes a0 x8 0) (fun _ => bd (gR 12 44 a0) (fun y9 => bd (gI 12 46 a0) (fun x10 => bd (al 22 y9 x10) (fun x11 => bd (ck 12 a0) (fun _ => bd (X9_removes a0 x11 1) (fun _ => bd (gI 12 46 a0) (fun x12 => bd (pV 12 46 a0 (.int (x12 + 1))) (fun _ => X9_unit_b109   a0 x2))))))))))))))))) (bd (gI 12 43 a0) (fun x13 => bd (ck 12 a0) (fun _ => bd (X9_nextStill a0 x13) (fun x14 => bd (gI 12 42 a0) (fun x15 => it (x15 ≤ x14) (bd (ck 12 a0) (fun _ => bd (X9_finishes a0) (fun _ => pu ()))) (bd (ck 12 a0) (fun _ => bd (X9_copies a0 x14) (fun _ => pu ())))))))))
section
variable {G : Gx} {p : Program} {l : Launch} {e : Env} {R : Room} {s : State} {m : MethodId} {args : Array Value} {below : List Frame} {meth : Method} {c : Code} {h0 : Hp} {r : Unit} {h' : Hp}
set_option maxRecDepth 20000 in
theorem X9_unit_b109_s (C : Cx G p R s m args meth c cX9_unit 2 yX9_unit.cls h0 h') (hF : R.frames = 5) (hO : R.locals = 118) (hr : meth.sig.returnType = none) (hm : meth.name = yX9_unit.name)   (a0 : Nat) (i1 : Int32) : Sm G (QM G rvU below args s h0 r h') p l e R s m args below meth c 2 h0 r h' 109 [(0, .ref a0), (1, .int i1)] [] (X9_unit_b109   a0 i1) := by
  refine s_aload_n C 0 dX9_unit_109 rfl rfl ?_
  refine s_iload_n C 1 dX9_unit_110 rfl rfl ?_
  refine s_pV C ci12 22 (by decide) rfl (Or.inl wd_6_137) dX9_unit_111 rfl rfl ?_
  exact s_vret C hr rfl dX9_unit_114
end
set_option maxRecDepth 20000 in
theorem con_X9_unit (l : Launch) (G : Gx) (a0 : Nat) : Con G rvU l yX9_unit cX9_unit 2 none 5 118 [.ref a0] (X9_unit a0) := by
  refine con_of (lv := [(0, .ref a0)]) (by decide) (Nat.le_of_ble_eq_true rfl) rfl (fun p e R s m args below meth c h0 r h' C hF hO hr hm => ?_)
  refine s_aload_n C 0 dX9_unit_0 rfl rfl ?_
  refine s_gI C ci12 34 (by decide) (Or.inl wd_6_149) dX9_unit_1 (fun x1 => ?_)
  refine s_iconst (v := 1) C dX9_unit_4 (by decide) ?_
  refine s_icmp_ne (tgt := 38) C dX9_unit_5 (by decide) ?_ ?_
  · refine s_aload_n C 0 dX9_unit_38 rfl rfl ?_
    refine s_gI C ci12 22 (by decide) (Or.inl wd_6_137) dX9_unit_39 (fun x2 => ?_)
    refine s_istore_n (lv' := [(1, .int x2), (0, .ref a0)]) C dX9_unit_42 rfl (by decide) rfl ?_
    refine s_aload_n C 1 dX9_unit_43 rfl rfl ?_
    refine s_gI C ci12 46 (by decide) (Or.inl wd_6_161) dX9_unit_44 (fun x3 => ?_)
    refine s_aload_n C 1 dX9_unit_47 rfl rfl ?_
    refine s_gI C ci12 45 (by decide) (Or.inl wd_6_160) dX9_unit_48 (fun x4 => ?_)
    refine s_icmp_ge (tgt := 95) C dX9_unit_51 (by decide) ?_ ?_
    · refine s_aload_n C 1 dX9_unit_95 rfl rfl ?_
      refine s_aload_n C 1 dX9_unit_96 rfl rfl ?_
      refine s_gI C ci12 47 (by decide) (Or.inl wd_6_162) dX9_unit_97 (fun x5 => ?_)
      refine s_iconst (v := 2) C dX9_unit_100 (by decide) ?_
      refine s_invV_u C ci12 cy_X9_removes (Or.inl wd_7_184) rfl wd_7_186 wp_52 (con_X9_removes l G a0 x5 2) rfl rfl (Nat.le_of_ble_eq_true rfl) (by rw [hF]; decide) (by rw [hO]; exact Nat.le_of_ble_eq_true rfl) dX9_unit_101 ?_
      refine s_aload_n C 1 dX9_unit_104 rfl rfl ?_
      refine s_iconst (v := 0) C dX9_unit_105 (by decide) ?_
      refine s_pV C ci12 34 (by decide) rfl (Or.inl wd_6_149) dX9_unit_106 rfl rfl ?_
      refine s_sub [1, 0] rfl ?_
      exact X9_unit_b109_s C hF hO hr hm   a0 x2
    refine s_aload_n C 1 dX9_unit_54 rfl rfl ?_
    refine s_aload_n C 1 dX9_unit_55 rfl rfl ?_
    refine s_gR C ci12 44 (by decide) (Or.inl wd_6_159) dX9_unit_56 (fun y6 => ?_)
    refine s_aload_n C 1 dX9_unit_59 rfl rfl ?_
    refine s_gI C ci12 46 (by decide) (Or.inl wd_6_161) dX9_unit_60 (fun x7 => ?_)
    refine s_al22 C dX9_unit_63 (fun x8 => ?_)
    refine s_iconst (v := 0) C dX9_unit_64 (by decide) ?_
    refine s_invV_u C ci12 cy_X9_removes (Or.inl wd_7_184) rfl wd_7_186 wp_52 (con_X9_removes l G a0 x8 0) rfl rfl (Nat.le_of_ble_eq_true rfl) (by rw [hF]; decide) (by rw [hO]; exact Nat.le_of_ble_eq_true rfl) dX9_unit_65 ?_
    refine s_aload_n C 1 dX9_unit_68 rfl rfl ?_
    refine s_aload_n C 1 dX9_unit_69 rfl rfl ?_
    refine s_gR C ci12 44 (by decide) (Or.inl wd_6_159) dX9_unit_70 (fun y9 => ?_)
    refine s_aload_n C 1 dX9_unit_73 rfl rfl ?_
    refine s_gI C ci12 46 (by decide) (Or.inl wd_6_161) dX9_unit_74 (fun x10 => ?_)
    refine s_al22 C dX9_unit_77 (fun x11 => ?_)
    refine s_iconst (v := 1) C dX9_unit_78 (by decide) ?_
    refine s_invV_u C ci12 cy_X9_removes (Or.inl wd_7_184) rfl wd_7_186 wp_52 (con_X9_removes l G a0 x11 1) rfl rfl (Nat.le_of_ble_eq_true rfl) (by rw [hF]; decide) (by rw [hO]; exact Nat.le_of_ble_eq_true rfl) dX9_unit_79 ?_
    refine s_aload_n C 1 dX9_unit_82 rfl rfl ?_
    refine s_dup C dX9_unit_83 rfl ?_
    refine s_gI C ci12 46 (by decide) (Or.inl wd_6_161) dX9_unit_84 (fun x12 => ?_)
    refine s_iconst (v := 1) C dX9_unit_87 (by decide) ?_
    refine s_iadd C dX9_unit_88 ?_
    refine s_pV C ci12 46 (by decide) rfl (Or.inl wd_6_161) dX9_unit_89 rfl rfl ?_
    refine s_goto (tgt := 109) C dX9_unit_92 (by decide) ?_
    refine s_sub [1, 0] rfl ?_
    exact X9_unit_b109_s C hF hO hr hm   a0 x2
  refine s_aload_n C 0 dX9_unit_8 rfl rfl ?_
  refine s_aload_n C 0 dX9_unit_9 rfl rfl ?_
  refine s_gI C ci12 43 (by decide) (Or.inl wd_6_158) dX9_unit_10 (fun x13 => ?_)
  refine s_invV_i C ci12 cy_X9_nextStill (Or.inl wd_7_235) rfl wd_7_237 wp_63 (con_X9_nextStill l G a0 x13) rfl rfl (Nat.le_of_ble_eq_true rfl) (by rw [hF]; decide) (by rw [hO]; exact Nat.le_of_ble_eq_true rfl) dX9_unit_13 (fun x14 => ?_)
  refine s_istore_n (lv' := [(1, .int x14), (0, .ref a0)]) C dX9_unit_16 rfl (by decide) rfl ?_
  refine s_iload_n C 0 dX9_unit_17 rfl rfl ?_
  refine s_aload_n C 1 dX9_unit_18 rfl rfl ?_
  refine s_gI C ci12 42 (by decide) (Or.inl wd_6_157) dX9_unit_19 (fun x15 => ?_)
  refine s_icmp_ge (tgt := 33) C dX9_unit_22 (by decide) ?_ ?_
  · refine s_aload_n C 1 dX9_unit_33 rfl rfl ?_
    refine s_invV_u C ci12 cy_X9_finishes (Or.inl wd_8_23) rfl wd_8_25 wp_69 (con_X9_finishes l G a0) rfl rfl (Nat.le_of_ble_eq_true rfl) (by rw [hF]; decide) (by rw [hO]; exact Nat.le_of_ble_eq_true rfl) dX9_unit_34 ?_
    exact s_vret C hr rfl dX9_unit_37
  refine s_aload_n C 1 dX9_unit_25 rfl rfl ?_
  refine s_iload_n C 0 dX9_unit_26 rfl rfl ?_
  refine s_invV_u C ci12 cy_X9_copies (Or.inl wd_8_11) rfl wd_8_13 wp_66 (con_X9_copies l G a0 x14) rfl rfl (Nat.le_of_ble_eq_true rfl) (by rw [hF]; decide) (by rw [hO]; exact Nat.le_of_ble_eq_true rfl) dX9_unit_27 ?_
  refine s_goto (tgt := 37) C dX9_unit_30 (by decide) ?_
  exact s_vret C hr rfl dX9_unit_37

theorem dX9_mergeStep_0 : decode cX9_mergeStep 0 = .ok (.aload_n 0, 1) := by decide +kernel
theorem dX9_mergeStep_1 : decode cX9_mergeStep 1 = .ok (.aload_n 0, 1) := by decide +kernel
theorem dX9_mergeStep_2 : decode cX9_mergeStep 2 = .ok (.getfield 127, 3) := by decide +kernel
theorem dX9_mergeStep_5 : decode cX9_mergeStep 5 = .ok (.ifCond .eq 10, 3) := by decide +kernel
theorem dX9_mergeStep_8 : decode cX9_mergeStep 8 = .ok (.aload_n 0, 1) := by decide +kernel
theorem dX9_mergeStep_9 : decode cX9_mergeStep 9 = .ok (.getfield 143, 3) := by decide +kernel
theorem dX9_mergeStep_12 : decode cX9_mergeStep 12 = .ok (.ifCond .ne 7, 3) := by decide +kernel
theorem dX9_mergeStep_15 : decode cX9_mergeStep 15 = .ok (.iconst 1, 1) := by decide +kernel
theorem dX9_mergeStep_16 : decode cX9_mergeStep 16 = .ok (.goto 13, 3) := by decide +kernel
theorem dX9_mergeStep_19 : decode cX9_mergeStep 19 = .ok (.iload_n 1, 1) := by decide +kernel
theorem dX9_mergeStep_20 : decode cX9_mergeStep 20 = .ok (.iconst 1, 1) := by decide +kernel
theorem dX9_mergeStep_21 : decode cX9_mergeStep 21 = .ok (.if_icmp .ge 7, 3) := by decide +kernel
theorem dX9_mergeStep_24 : decode cX9_mergeStep 24 = .ok (.iconst 2, 1) := by decide +kernel
theorem dX9_mergeStep_25 : decode cX9_mergeStep 25 = .ok (.goto 4, 3) := by decide +kernel
theorem dX9_mergeStep_28 : decode cX9_mergeStep 28 = .ok (.iconst 0, 1) := by decide +kernel
theorem dX9_mergeStep_29 : decode cX9_mergeStep 29 = .ok (.putfield 93, 3) := by decide +kernel
theorem dX9_mergeStep_32 : decode cX9_mergeStep 32 = .ok (.aload_n 0, 1) := by decide +kernel
theorem dX9_mergeStep_33 : decode cX9_mergeStep 33 = .ok (.getfield 93, 3) := by decide +kernel
theorem dX9_mergeStep_36 : decode cX9_mergeStep 36 = .ok (.ifCond .le 5, 3) := by decide +kernel
theorem dX9_mergeStep_39 : decode cX9_mergeStep 39 = .ok (.iconst 0, 1) := by decide +kernel
theorem dX9_mergeStep_40 : decode cX9_mergeStep 40 = .ok (.ireturn, 1) := by decide +kernel
theorem dX9_mergeStep_41 : decode cX9_mergeStep 41 = .ok (.iconst 0, 1) := by decide +kernel
theorem dX9_mergeStep_42 : decode cX9_mergeStep 42 = .ok (.istore_n 2, 1) := by decide +kernel
theorem dX9_mergeStep_43 : decode cX9_mergeStep 43 = .ok (.iload_n 2, 1) := by decide +kernel
theorem dX9_mergeStep_44 : decode cX9_mergeStep 44 = .ok (.iload_n 1, 1) := by decide +kernel
theorem dX9_mergeStep_45 : decode cX9_mergeStep 45 = .ok (.if_icmp .ge 20, 3) := by decide +kernel
theorem dX9_mergeStep_48 : decode cX9_mergeStep 48 = .ok (.aload_n 0, 1) := by decide +kernel
theorem dX9_mergeStep_49 : decode cX9_mergeStep 49 = .ok (.getfield 143, 3) := by decide +kernel
theorem dX9_mergeStep_52 : decode cX9_mergeStep 52 = .ok (.ifCond .le 13, 3) := by decide +kernel
theorem dX9_mergeStep_55 : decode cX9_mergeStep 55 = .ok (.aload_n 0, 1) := by decide +kernel
theorem dX9_mergeStep_56 : decode cX9_mergeStep 56 = .ok (.invokevirtual 337, 3) := by decide +kernel
theorem dX9_mergeStep_59 : decode cX9_mergeStep 59 = .ok (.iinc 2 1, 3) := by decide +kernel
theorem dX9_mergeStep_62 : decode cX9_mergeStep 62 = .ok (.goto (-19), 3) := by decide +kernel
theorem dX9_mergeStep_65 : decode cX9_mergeStep 65 = .ok (.aload_n 0, 1) := by decide +kernel
theorem dX9_mergeStep_66 : decode cX9_mergeStep 66 = .ok (.invokevirtual 319, 3) := by decide +kernel
theorem dX9_mergeStep_69 : decode cX9_mergeStep 69 = .ok (.ireturn, 1) := by decide +kernel
def X9_mergeStep_b65   (a0 : Nat) : M Int32 := bd (ck 12 a0) (fun _ => bd (X9_unitsLeft a0) (fun x1 => pu x1))
def X9_mergeStep_b43b  (k43 : Nat → Int32 → Int32 → M Int32) (a0 : Nat) (i1 : Int32) (i2 : Int32) : M Int32 := it (i1 ≤ i2) (X9_mergeStep_b65   a0) (bd (gI 12 34 a0) (fun x1 => it (x1 ≤ 0) (X9_mergeStep_b65   a0) (bd (ck 12 a0) (fun _ => bd (X9_unit a0) (fun _ => k43 a0 i1 (i2 + 1))))))
def X9_mergeStep_b43  : Nat → Nat → Int32 → Int32 → M Int32
  | 0 => fun _ _ _ => fl
  | n + 1 => fun a0 i1 i2 => X9_mergeStep_b43b  (X9_mergeStep_b43  n) a0 i1 i2
def X9_mergeStep_b29   (a0 : Nat) (i1 : Int32) (s0 : Int32) (s1 : Nat) : M Int32 := bd (pV 12 0 s1 (.int s0)) (fun _ => bd (gI 12 0 a0) (fun x1 => it (x1 ≤ 0) (X9_mergeStep_b43  FU a0 i1 0) (pu 0)))
def X9_mergeStep_b15   (a0 : Nat) (i1 : Int32) (s0 : Nat) : M Int32 := X9_mergeStep_b29   a0 i1 1 s0
def X9_mergeStep (a0 : Nat) (i1 : Int32) : M Int32 := bd (gI 12 23 a0) (fun x1 => it (x1 = 0) (X9_mergeStep_b15   a0 i1 a0) (bd (gI 12 34 a0) (fun x2 => it (¬ x2 = 0) (it (1 ≤ i1) (X9_mergeStep_b29   a0 i1 0 a0) (X9_mergeStep_b29   a0 i1 2 a0)) (X9_mergeStep_b15   a0 i1 a0))))
section
variable {G : Gx} {p : Program} {l : Launch} {e : Env} {R : Room} {s : State} {m : MethodId} {args : Array Value} {below : List Frame} {meth : Method} {c : Code} {h0 : Hp} {r : Int32} {h' : Hp}
set_option maxRecDepth 20000 in
theorem X9_mergeStep_b65_s (C : Cx G p R s m args meth c cX9_mergeStep 3 yX9_mergeStep.cls h0 h') (hF : R.frames = 6) (hO : R.locals = 139) (hr : meth.sig.returnType = (some .int)) (hm : meth.name = yX9_mergeStep.name)   (a0 : Nat) : Sm G (QM G rvI below args s h0 r h') p l e R s m args below meth c 3 h0 r h' 65 [(0, .ref a0)] [] (X9_mergeStep_b65   a0) := by
  refine s_aload_n C 0 dX9_mergeStep_65 rfl rfl ?_
  refine s_invV_i C ci12 cy_X9_unitsLeft (Or.inl wd_7_231) rfl wd_7_233 wp_62 (con_X9_unitsLeft l G a0) rfl rfl (Nat.le_of_ble_eq_true rfl) (by rw [hF]; decide) (by rw [hO]; exact Nat.le_of_ble_eq_true rfl) dX9_mergeStep_66 (fun x1 => ?_)
  exact s_iret C hr rfl dX9_mergeStep_69
set_option maxRecDepth 20000 in
theorem X9_mergeStep_b43b_s (C : Cx G p R s m args meth c cX9_mergeStep 3 yX9_mergeStep.cls h0 h') (hF : R.frames = 6) (hO : R.locals = 139) (hr : meth.sig.returnType = (some .int)) (hm : meth.name = yX9_mergeStep.name)  {k43 : Nat → Int32 → Int32 → M Int32} (hk43 : ∀ (a0 : Nat) (i1 : Int32) (i2 : Int32), Sm G (QM G rvI below args s h0 r h') p l e R s m args below meth c 3 h0 r h' 43 [(0, .ref a0), (1, .int i1), (2, .int i2)] [] (k43 a0 i1 i2)) (a0 : Nat) (i1 : Int32) (i2 : Int32) : Sm G (QM G rvI below args s h0 r h') p l e R s m args below meth c 3 h0 r h' 43 [(0, .ref a0), (1, .int i1), (2, .int i2)] [] (X9_mergeStep_b43b  k43 a0 i1 i2) := by
  refine s_iload_n C 2 dX9_mergeStep_43 rfl rfl ?_
  refine s_iload_n C 1 dX9_mergeStep_44 rfl rfl ?_
  refine s_icmp_ge (tgt := 65) C dX9_mergeStep_45 (by decide) ?_ ?_
  · refine s_sub [0] rfl ?_
    exact X9_mergeStep_b65_s C hF hO hr hm   a0
  refine s_aload_n C 0 dX9_mergeStep_48 rfl rfl ?_
  refine s_gI C ci12 34 (by decide) (Or.inl wd_6_149) dX9_mergeStep_49 (fun x1 => ?_)
  refine s_if_le (tgt := 65) C dX9_mergeStep_52 (by decide) ?_ ?_
  · refine s_sub [0] rfl ?_
    exact X9_mergeStep_b65_s C hF hO hr hm   a0
  refine s_aload_n C 0 dX9_mergeStep_55 rfl rfl ?_
  refine s_invV_u C ci12 cy_X9_unit (Or.inl wd_8_7) rfl wd_8_9 wp_65 (con_X9_unit l G a0) rfl rfl (Nat.le_of_ble_eq_true rfl) (by rw [hF]; decide) (by rw [hO]; exact Nat.le_of_ble_eq_true rfl) dX9_mergeStep_56 ?_
  refine s_iincK (lv' := [(2, .int (i2 + 1)), (0, .ref a0), (1, .int i1)]) (w := 1) C 2 dX9_mergeStep_59 rfl (by decide) (by decide) rfl ?_
  refine s_goto (tgt := 43) C dX9_mergeStep_62 (by decide) ?_
  refine s_sub [1, 2, 0] rfl ?_
  exact hk43 a0 i1 (i2 + 1)
set_option maxRecDepth 20000 in
theorem X9_mergeStep_b43_s (C : Cx G p R s m args meth c cX9_mergeStep 3 yX9_mergeStep.cls h0 h') (hF : R.frames = 6) (hO : R.locals = 139) (hr : meth.sig.returnType = (some .int)) (hm : meth.name = yX9_mergeStep.name)  (n : Nat) : ∀ (a0 : Nat) (i1 : Int32) (i2 : Int32), Sm G (QM G rvI below args s h0 r h') p l e R s m args below meth c 3 h0 r h' 43 [(0, .ref a0), (1, .int i1), (2, .int i2)] [] (X9_mergeStep_b43  n a0 i1 i2) := by
  induction n with
  | zero => intro a0 i1 i2; exact s_fl
  | succ n ih => intro a0 i1 i2; exact X9_mergeStep_b43b_s C hF hO hr hm  ih a0 i1 i2
set_option maxRecDepth 20000 in
theorem X9_mergeStep_b29_s (C : Cx G p R s m args meth c cX9_mergeStep 3 yX9_mergeStep.cls h0 h') (hF : R.frames = 6) (hO : R.locals = 139) (hr : meth.sig.returnType = (some .int)) (hm : meth.name = yX9_mergeStep.name)   (a0 : Nat) (i1 : Int32) (s0 : Int32) (s1 : Nat) : Sm G (QM G rvI below args s h0 r h') p l e R s m args below meth c 3 h0 r h' 29 [(0, .ref a0), (1, .int i1)] [.int s0, .ref s1] (X9_mergeStep_b29   a0 i1 s0 s1) := by
  refine s_pV C ci12 0 (by decide) rfl (Or.inl wd_6_115) dX9_mergeStep_29 rfl rfl ?_
  refine s_aload_n C 0 dX9_mergeStep_32 rfl rfl ?_
  refine s_gI C ci12 0 (by decide) (Or.inl wd_6_115) dX9_mergeStep_33 (fun x1 => ?_)
  refine s_if_le (tgt := 41) C dX9_mergeStep_36 (by decide) ?_ ?_
  · refine s_iconst (v := 0) C dX9_mergeStep_41 (by decide) ?_
    refine s_istore_n (lv' := [(2, .int 0), (0, .ref a0), (1, .int i1)]) C dX9_mergeStep_42 rfl (by decide) rfl ?_
    refine s_sub [1, 2, 0] rfl ?_
    exact X9_mergeStep_b43_s C hF hO hr hm  FU a0 i1 0
  refine s_iconst (v := 0) C dX9_mergeStep_39 (by decide) ?_
  exact s_iret C hr rfl dX9_mergeStep_40
set_option maxRecDepth 20000 in
theorem X9_mergeStep_b15_s (C : Cx G p R s m args meth c cX9_mergeStep 3 yX9_mergeStep.cls h0 h') (hF : R.frames = 6) (hO : R.locals = 139) (hr : meth.sig.returnType = (some .int)) (hm : meth.name = yX9_mergeStep.name)   (a0 : Nat) (i1 : Int32) (s0 : Nat) : Sm G (QM G rvI below args s h0 r h') p l e R s m args below meth c 3 h0 r h' 15 [(0, .ref a0), (1, .int i1)] [.ref s0] (X9_mergeStep_b15   a0 i1 s0) := by
  refine s_iconst (v := 1) C dX9_mergeStep_15 (by decide) ?_
  refine s_goto (tgt := 29) C dX9_mergeStep_16 (by decide) ?_
  exact X9_mergeStep_b29_s C hF hO hr hm   a0 i1 1 s0
end
set_option maxRecDepth 20000 in
theorem con_X9_mergeStep (l : Launch) (G : Gx) (a0 : Nat) (i1 : Int32) : Con G rvI l yX9_mergeStep cX9_mergeStep 3 (some .int) 6 139 [.ref a0, .int i1] (X9_mergeStep a0 i1) := by
  refine con_of (lv := [(0, .ref a0), (1, .int i1)]) (by decide) (Nat.le_of_ble_eq_true rfl) rfl (fun p e R s m args below meth c h0 r h' C hF hO hr hm => ?_)
  refine s_aload_n C 0 dX9_mergeStep_0 rfl rfl ?_
  refine s_aload_n C 0 dX9_mergeStep_1 rfl rfl ?_
  refine s_gI C ci12 23 (by decide) (Or.inl wd_6_138) dX9_mergeStep_2 (fun x1 => ?_)
  refine s_if_eq (tgt := 15) C dX9_mergeStep_5 (by decide) ?_ ?_
  · exact X9_mergeStep_b15_s C hF hO hr hm   a0 i1 a0
  refine s_aload_n C 0 dX9_mergeStep_8 rfl rfl ?_
  refine s_gI C ci12 34 (by decide) (Or.inl wd_6_149) dX9_mergeStep_9 (fun x2 => ?_)
  refine s_if_ne (tgt := 19) C dX9_mergeStep_12 (by decide) ?_ ?_
  · refine s_iload_n C 1 dX9_mergeStep_19 rfl rfl ?_
    refine s_iconst (v := 1) C dX9_mergeStep_20 (by decide) ?_
    refine s_icmp_ge (tgt := 28) C dX9_mergeStep_21 (by decide) ?_ ?_
    · refine s_iconst (v := 0) C dX9_mergeStep_28 (by decide) ?_
      exact X9_mergeStep_b29_s C hF hO hr hm   a0 i1 0 a0
    refine s_iconst (v := 2) C dX9_mergeStep_24 (by decide) ?_
    refine s_goto (tgt := 29) C dX9_mergeStep_25 (by decide) ?_
    exact X9_mergeStep_b29_s C hF hO hr hm   a0 i1 2 a0
  exact X9_mergeStep_b15_s C hF hO hr hm   a0 i1 a0

theorem dX9_patch_0 : decode cX9_patch 0 = .ok (.aload_n 0, 1) := by decide +kernel
theorem dX9_patch_1 : decode cX9_patch 1 = .ok (.aload_n 0, 1) := by decide +kernel
theorem dX9_patch_2 : decode cX9_patch 2 = .ok (.getfield 127, 3) := by decide +kernel
theorem dX9_patch_5 : decode cX9_patch 5 = .ok (.ifCond .eq 7, 3) := by decide +kernel
theorem dX9_patch_8 : decode cX9_patch 8 = .ok (.iconst 1, 1) := by decide +kernel
theorem dX9_patch_9 : decode cX9_patch 9 = .ok (.goto 34, 3) := by decide +kernel
theorem dX9_patch_12 : decode cX9_patch 12 = .ok (.iload_n 1, 1) := by decide +kernel
theorem dX9_patch_13 : decode cX9_patch 13 = .ok (.ifCond .lt 25, 3) := by decide +kernel
theorem dX9_patch_16 : decode cX9_patch 16 = .ok (.iload_n 1, 1) := by decide +kernel
theorem dX9_patch_17 : decode cX9_patch 17 = .ok (.aload_n 0, 1) := by decide +kernel
theorem dX9_patch_18 : decode cX9_patch 18 = .ok (.getfield 106, 3) := by decide +kernel
theorem dX9_patch_21 : decode cX9_patch 21 = .ok (.if_icmp .ge 17, 3) := by decide +kernel
theorem dX9_patch_24 : decode cX9_patch 24 = .ok (.iload_n 2, 1) := by decide +kernel
theorem dX9_patch_25 : decode cX9_patch 25 = .ok (.ifCond .lt 13, 3) := by decide +kernel
theorem dX9_patch_28 : decode cX9_patch 28 = .ok (.iload_n 2, 1) := by decide +kernel
theorem dX9_patch_29 : decode cX9_patch 29 = .ok (.aload_n 0, 1) := by decide +kernel
theorem dX9_patch_30 : decode cX9_patch 30 = .ok (.getfield 20, 3) := by decide +kernel
theorem dX9_patch_33 : decode cX9_patch 33 = .ok (.iload_n 1, 1) := by decide +kernel
theorem dX9_patch_34 : decode cX9_patch 34 = .ok (.iaload, 1) := by decide +kernel
theorem dX9_patch_35 : decode cX9_patch 35 = .ok (.if_icmp .lt 7, 3) := by decide +kernel
theorem dX9_patch_38 : decode cX9_patch 38 = .ok (.iconst 2, 1) := by decide +kernel
theorem dX9_patch_39 : decode cX9_patch 39 = .ok (.goto 4, 3) := by decide +kernel
theorem dX9_patch_42 : decode cX9_patch 42 = .ok (.iconst 0, 1) := by decide +kernel
theorem dX9_patch_43 : decode cX9_patch 43 = .ok (.putfield 93, 3) := by decide +kernel
theorem dX9_patch_46 : decode cX9_patch 46 = .ok (.aload_n 0, 1) := by decide +kernel
theorem dX9_patch_47 : decode cX9_patch 47 = .ok (.getfield 93, 3) := by decide +kernel
theorem dX9_patch_50 : decode cX9_patch 50 = .ok (.ifCond .le 5, 3) := by decide +kernel
theorem dX9_patch_53 : decode cX9_patch 53 = .ok (.iconst 0, 1) := by decide +kernel
theorem dX9_patch_54 : decode cX9_patch 54 = .ok (.ireturn, 1) := by decide +kernel
theorem dX9_patch_55 : decode cX9_patch 55 = .ok (.aload_n 0, 1) := by decide +kernel
theorem dX9_patch_56 : decode cX9_patch 56 = .ok (.iload_n 1, 1) := by decide +kernel
theorem dX9_patch_57 : decode cX9_patch 57 = .ok (.invokevirtual 153, 3) := by decide +kernel
theorem dX9_patch_60 : decode cX9_patch 60 = .ok (.iload_n 2, 1) := by decide +kernel
theorem dX9_patch_61 : decode cX9_patch 61 = .ok (.iadd, 1) := by decide +kernel
theorem dX9_patch_62 : decode cX9_patch 62 = .ok (.istore 4, 2) := by decide +kernel
theorem dX9_patch_64 : decode cX9_patch 64 = .ok (.aload_n 0, 1) := by decide +kernel
theorem dX9_patch_65 : decode cX9_patch 65 = .ok (.getfield 9, 3) := by decide +kernel
theorem dX9_patch_68 : decode cX9_patch 68 = .ok (.iload 4, 2) := by decide +kernel
theorem dX9_patch_70 : decode cX9_patch 70 = .ok (.baload, 1) := by decide +kernel
theorem dX9_patch_71 : decode cX9_patch 71 = .ok (.sipush 255, 3) := by decide +kernel
theorem dX9_patch_74 : decode cX9_patch 74 = .ok (.iand, 1) := by decide +kernel
theorem dX9_patch_75 : decode cX9_patch 75 = .ok (.istore 5, 2) := by decide +kernel
theorem dX9_patch_77 : decode cX9_patch 77 = .ok (.aload_n 0, 1) := by decide +kernel
theorem dX9_patch_78 : decode cX9_patch 78 = .ok (.getfield 9, 3) := by decide +kernel
theorem dX9_patch_81 : decode cX9_patch 81 = .ok (.iload 4, 2) := by decide +kernel
theorem dX9_patch_83 : decode cX9_patch 83 = .ok (.iload_n 3, 1) := by decide +kernel
theorem dX9_patch_84 : decode cX9_patch 84 = .ok (.i2b, 1) := by decide +kernel
theorem dX9_patch_85 : decode cX9_patch 85 = .ok (.bastore, 1) := by decide +kernel
theorem dX9_patch_86 : decode cX9_patch 86 = .ok (.iload 5, 2) := by decide +kernel
theorem dX9_patch_88 : decode cX9_patch 88 = .ok (.ireturn, 1) := by decide +kernel
def X9_patch_b43   (a0 : Nat) (i1 : Int32) (i2 : Int32) (i3 : Int32) (s0 : Int32) (s1 : Nat) : M Int32 := bd (pV 12 0 s1 (.int s0)) (fun _ => bd (gI 12 0 a0) (fun x1 => it (x1 ≤ 0) (bd (ck 12 a0) (fun _ => bd (X9_startOf a0 i1) (fun x2 => bd (pu (x2 + i2)) (fun x3 => bd (gR 12 3 a0) (fun y4 => bd (al 21 y4 x3) (fun x5 => bd (pu (x5 &&& 255)) (fun x6 => bd (gR 12 3 a0) (fun y7 => bd (as 21 y7 x3 ((i3 : Int32).toInt8.toInt32)) (fun _ => pu x6))))))))) (pu 0)))
def X9_patch_b38   (a0 : Nat) (i1 : Int32) (i2 : Int32) (i3 : Int32) (s0 : Nat) : M Int32 := X9_patch_b43   a0 i1 i2 i3 2 s0
def X9_patch (a0 : Nat) (i1 : Int32) (i2 : Int32) (i3 : Int32) : M Int32 := bd (gI 12 23 a0) (fun x1 => it (x1 = 0) (it (i1 < 0) (X9_patch_b38   a0 i1 i2 i3 a0) (bd (gI 12 8 a0) (fun x2 => it (x2 ≤ i1) (X9_patch_b38   a0 i1 i2 i3 a0) (it (i2 < 0) (X9_patch_b38   a0 i1 i2 i3 a0) (bd (gR 12 7 a0) (fun y3 => bd (al 22 y3 i1) (fun x4 => it (i2 < x4) (X9_patch_b43   a0 i1 i2 i3 0 a0) (X9_patch_b38   a0 i1 i2 i3 a0)))))))) (X9_patch_b43   a0 i1 i2 i3 1 a0))
section
variable {G : Gx} {p : Program} {l : Launch} {e : Env} {R : Room} {s : State} {m : MethodId} {args : Array Value} {below : List Frame} {meth : Method} {c : Code} {h0 : Hp} {r : Int32} {h' : Hp}
set_option maxRecDepth 20000 in
theorem X9_patch_b43_s (C : Cx G p R s m args meth c cX9_patch 6 yX9_patch.cls h0 h') (hF : R.frames = 1) (hO : R.locals = 23) (hr : meth.sig.returnType = (some .int)) (hm : meth.name = yX9_patch.name)   (a0 : Nat) (i1 : Int32) (i2 : Int32) (i3 : Int32) (s0 : Int32) (s1 : Nat) : Sm G (QM G rvI below args s h0 r h') p l e R s m args below meth c 6 h0 r h' 43 [(0, .ref a0), (1, .int i1), (2, .int i2), (3, .int i3)] [.int s0, .ref s1] (X9_patch_b43   a0 i1 i2 i3 s0 s1) := by
  refine s_pV C ci12 0 (by decide) rfl (Or.inl wd_6_115) dX9_patch_43 rfl rfl ?_
  refine s_aload_n C 0 dX9_patch_46 rfl rfl ?_
  refine s_gI C ci12 0 (by decide) (Or.inl wd_6_115) dX9_patch_47 (fun x1 => ?_)
  refine s_if_le (tgt := 55) C dX9_patch_50 (by decide) ?_ ?_
  · refine s_aload_n C 0 dX9_patch_55 rfl rfl ?_
    refine s_iload_n C 1 dX9_patch_56 rfl rfl ?_
    refine s_invV_i C ci12 cy_X9_startOf (Or.inl wd_7_96) rfl wd_7_98 wp_39 (con_X9_startOf l G a0 i1) rfl rfl (Nat.le_of_ble_eq_true rfl) (by rw [hF]; decide) (by rw [hO]; exact Nat.le_of_ble_eq_true rfl) dX9_patch_57 (fun x2 => ?_)
    refine s_iload_n C 2 dX9_patch_60 rfl rfl ?_
    refine s_iadd C dX9_patch_61 ?_
    refine s_let (fun x3 => ?_)
    refine s_istore (lv' := [(4, .int x3), (0, .ref a0), (1, .int i1), (2, .int i2), (3, .int i3)]) C dX9_patch_62 (by decide) rfl ?_
    refine s_aload_n C 1 dX9_patch_64 rfl rfl ?_
    refine s_gR C ci12 3 (by decide) (Or.inl wd_6_118) dX9_patch_65 (fun y4 => ?_)
    refine s_iload C 0 dX9_patch_68 rfl ?_
    refine s_al21 C dX9_patch_70 (fun x5 => ?_)
    refine s_sipush (v := 255) C dX9_patch_71 (by decide) ?_
    refine s_iand C dX9_patch_74 ?_
    refine s_let (fun x6 => ?_)
    refine s_istore (lv' := [(5, .int x6), (4, .int x3), (0, .ref a0), (1, .int i1), (2, .int i2), (3, .int i3)]) C dX9_patch_75 (by decide) rfl ?_
    refine s_aload_n C 2 dX9_patch_77 rfl rfl ?_
    refine s_gR C ci12 3 (by decide) (Or.inl wd_6_118) dX9_patch_78 (fun y7 => ?_)
    refine s_iload C 1 dX9_patch_81 rfl ?_
    refine s_iload_n C 5 dX9_patch_83 rfl rfl ?_
    refine s_i2b C dX9_patch_84 ?_
    refine s_as21 C dX9_patch_85 ?_
    refine s_iload C 0 dX9_patch_86 rfl ?_
    exact s_iret C hr rfl dX9_patch_88
  refine s_iconst (v := 0) C dX9_patch_53 (by decide) ?_
  exact s_iret C hr rfl dX9_patch_54
set_option maxRecDepth 20000 in
theorem X9_patch_b38_s (C : Cx G p R s m args meth c cX9_patch 6 yX9_patch.cls h0 h') (hF : R.frames = 1) (hO : R.locals = 23) (hr : meth.sig.returnType = (some .int)) (hm : meth.name = yX9_patch.name)   (a0 : Nat) (i1 : Int32) (i2 : Int32) (i3 : Int32) (s0 : Nat) : Sm G (QM G rvI below args s h0 r h') p l e R s m args below meth c 6 h0 r h' 38 [(0, .ref a0), (1, .int i1), (2, .int i2), (3, .int i3)] [.ref s0] (X9_patch_b38   a0 i1 i2 i3 s0) := by
  refine s_iconst (v := 2) C dX9_patch_38 (by decide) ?_
  refine s_goto (tgt := 43) C dX9_patch_39 (by decide) ?_
  exact X9_patch_b43_s C hF hO hr hm   a0 i1 i2 i3 2 s0
end
set_option maxRecDepth 20000 in
theorem con_X9_patch (l : Launch) (G : Gx) (a0 : Nat) (i1 : Int32) (i2 : Int32) (i3 : Int32) : Con G rvI l yX9_patch cX9_patch 6 (some .int) 1 23 [.ref a0, .int i1, .int i2, .int i3] (X9_patch a0 i1 i2 i3) := by
  refine con_of (lv := [(0, .ref a0), (1, .int i1), (2, .int i2), (3, .int i3)]) (by decide) (Nat.le_of_ble_eq_true rfl) rfl (fun p e R s m args below meth c h0 r h' C hF hO hr hm => ?_)
  refine s_aload_n C 0 dX9_patch_0 rfl rfl ?_
  refine s_aload_n C 0 dX9_patch_1 rfl rfl ?_
  refine s_gI C ci12 23 (by decide) (Or.inl wd_6_138) dX9_patch_2 (fun x1 => ?_)
  refine s_if_eq (tgt := 12) C dX9_patch_5 (by decide) ?_ ?_
  · refine s_iload_n C 1 dX9_patch_12 rfl rfl ?_
    refine s_if_lt (tgt := 38) C dX9_patch_13 (by decide) ?_ ?_
    · exact X9_patch_b38_s C hF hO hr hm   a0 i1 i2 i3 a0
    refine s_iload_n C 1 dX9_patch_16 rfl rfl ?_
    refine s_aload_n C 0 dX9_patch_17 rfl rfl ?_
    refine s_gI C ci12 8 (by decide) (Or.inl wd_6_123) dX9_patch_18 (fun x2 => ?_)
    refine s_icmp_ge (tgt := 38) C dX9_patch_21 (by decide) ?_ ?_
    · exact X9_patch_b38_s C hF hO hr hm   a0 i1 i2 i3 a0
    refine s_iload_n C 2 dX9_patch_24 rfl rfl ?_
    refine s_if_lt (tgt := 38) C dX9_patch_25 (by decide) ?_ ?_
    · exact X9_patch_b38_s C hF hO hr hm   a0 i1 i2 i3 a0
    refine s_iload_n C 2 dX9_patch_28 rfl rfl ?_
    refine s_aload_n C 0 dX9_patch_29 rfl rfl ?_
    refine s_gR C ci12 7 (by decide) (Or.inl wd_6_122) dX9_patch_30 (fun y3 => ?_)
    refine s_iload_n C 1 dX9_patch_33 rfl rfl ?_
    refine s_al22 C dX9_patch_34 (fun x4 => ?_)
    refine s_icmp_lt (tgt := 42) C dX9_patch_35 (by decide) ?_ ?_
    · refine s_iconst (v := 0) C dX9_patch_42 (by decide) ?_
      exact X9_patch_b43_s C hF hO hr hm   a0 i1 i2 i3 0 a0
    exact X9_patch_b38_s C hF hO hr hm   a0 i1 i2 i3 a0
  refine s_iconst (v := 1) C dX9_patch_8 (by decide) ?_
  refine s_goto (tgt := 43) C dX9_patch_9 (by decide) ?_
  exact X9_patch_b43_s C hF hO hr hm   a0 i1 i2 i3 1 a0

theorem dX9_file_0 : decode cX9_file 0 = .ok (.aload_n 0, 1) := by decide +kernel
theorem dX9_file_1 : decode cX9_file 1 = .ok (.iconst 0, 1) := by decide +kernel
theorem dX9_file_2 : decode cX9_file 2 = .ok (.putfield 93, 3) := by decide +kernel
theorem dX9_file_5 : decode cX9_file 5 = .ok (.iload_n 1, 1) := by decide +kernel
theorem dX9_file_6 : decode cX9_file 6 = .ok (.ifCond .lt 11, 3) := by decide +kernel
theorem dX9_file_9 : decode cX9_file 9 = .ok (.iload_n 1, 1) := by decide +kernel
theorem dX9_file_10 : decode cX9_file 10 = .ok (.aload_n 0, 1) := by decide +kernel
theorem dX9_file_11 : decode cX9_file 11 = .ok (.getfield 106, 3) := by decide +kernel
theorem dX9_file_14 : decode cX9_file 14 = .ok (.if_icmp .lt 5, 3) := by decide +kernel
theorem dX9_file_17 : decode cX9_file 17 = .ok (.iconst (-1), 1) := by decide +kernel
theorem dX9_file_18 : decode cX9_file 18 = .ok (.ireturn, 1) := by decide +kernel
theorem dX9_file_19 : decode cX9_file 19 = .ok (.iconst 0, 1) := by decide +kernel
theorem dX9_file_20 : decode cX9_file 20 = .ok (.istore_n 3, 1) := by decide +kernel
theorem dX9_file_21 : decode cX9_file 21 = .ok (.iconst 0, 1) := by decide +kernel
theorem dX9_file_22 : decode cX9_file 22 = .ok (.istore 4, 2) := by decide +kernel
theorem dX9_file_24 : decode cX9_file 24 = .ok (.iload 4, 2) := by decide +kernel
theorem dX9_file_26 : decode cX9_file 26 = .ok (.aload_n 0, 1) := by decide +kernel
theorem dX9_file_27 : decode cX9_file 27 = .ok (.getfield 109, 3) := by decide +kernel
theorem dX9_file_30 : decode cX9_file 30 = .ok (.if_icmp .ge 55, 3) := by decide +kernel
theorem dX9_file_33 : decode cX9_file 33 = .ok (.iload_n 3, 1) := by decide +kernel
theorem dX9_file_34 : decode cX9_file 34 = .ok (.aload_n 0, 1) := by decide +kernel
theorem dX9_file_35 : decode cX9_file 35 = .ok (.getfield 23, 3) := by decide +kernel
theorem dX9_file_38 : decode cX9_file 38 = .ok (.iload 4, 2) := by decide +kernel
theorem dX9_file_40 : decode cX9_file 40 = .ok (.iaload, 1) := by decide +kernel
theorem dX9_file_41 : decode cX9_file 41 = .ok (.aload_n 0, 1) := by decide +kernel
theorem dX9_file_42 : decode cX9_file 42 = .ok (.getfield 13, 3) := by decide +kernel
theorem dX9_file_45 : decode cX9_file 45 = .ok (.iload_n 1, 1) := by decide +kernel
theorem dX9_file_46 : decode cX9_file 46 = .ok (.iaload, 1) := by decide +kernel
theorem dX9_file_47 : decode cX9_file 47 = .ok (.if_icmp .ne 29, 3) := by decide +kernel
theorem dX9_file_50 : decode cX9_file 50 = .ok (.aload_n 0, 1) := by decide +kernel
theorem dX9_file_51 : decode cX9_file 51 = .ok (.getfield 26, 3) := by decide +kernel
theorem dX9_file_54 : decode cX9_file 54 = .ok (.iload 4, 2) := by decide +kernel
theorem dX9_file_56 : decode cX9_file 56 = .ok (.iaload, 1) := by decide +kernel
theorem dX9_file_57 : decode cX9_file 57 = .ok (.aload_n 0, 1) := by decide +kernel
theorem dX9_file_58 : decode cX9_file 58 = .ok (.getfield 17, 3) := by decide +kernel
theorem dX9_file_61 : decode cX9_file 61 = .ok (.iload_n 1, 1) := by decide +kernel
theorem dX9_file_62 : decode cX9_file 62 = .ok (.iaload, 1) := by decide +kernel
theorem dX9_file_63 : decode cX9_file 63 = .ok (.if_icmp .ne 13, 3) := by decide +kernel
theorem dX9_file_66 : decode cX9_file 66 = .ok (.aload_n 0, 1) := by decide +kernel
theorem dX9_file_67 : decode cX9_file 67 = .ok (.getfield 29, 3) := by decide +kernel
theorem dX9_file_70 : decode cX9_file 70 = .ok (.iload 4, 2) := by decide +kernel
theorem dX9_file_72 : decode cX9_file 72 = .ok (.iaload, 1) := by decide +kernel
theorem dX9_file_73 : decode cX9_file 73 = .ok (.goto 4, 3) := by decide +kernel
theorem dX9_file_76 : decode cX9_file 76 = .ok (.iconst 0, 1) := by decide +kernel
theorem dX9_file_77 : decode cX9_file 77 = .ok (.iadd, 1) := by decide +kernel
theorem dX9_file_78 : decode cX9_file 78 = .ok (.istore_n 3, 1) := by decide +kernel
theorem dX9_file_79 : decode cX9_file 79 = .ok (.iinc 4 1, 3) := by decide +kernel
theorem dX9_file_82 : decode cX9_file 82 = .ok (.goto (-58), 3) := by decide +kernel
theorem dX9_file_85 : decode cX9_file 85 = .ok (.iload_n 2, 1) := by decide +kernel
theorem dX9_file_86 : decode cX9_file 86 = .ok (.tableswitch 53 0 3 #[30, 37, 44, 51], 30) := by decide +kernel
theorem dX9_file_116 : decode cX9_file 116 = .ok (.aload_n 0, 1) := by decide +kernel
theorem dX9_file_117 : decode cX9_file 117 = .ok (.getfield 13, 3) := by decide +kernel
theorem dX9_file_120 : decode cX9_file 120 = .ok (.iload_n 1, 1) := by decide +kernel
theorem dX9_file_121 : decode cX9_file 121 = .ok (.iaload, 1) := by decide +kernel
theorem dX9_file_122 : decode cX9_file 122 = .ok (.ireturn, 1) := by decide +kernel
theorem dX9_file_123 : decode cX9_file 123 = .ok (.aload_n 0, 1) := by decide +kernel
theorem dX9_file_124 : decode cX9_file 124 = .ok (.getfield 17, 3) := by decide +kernel
theorem dX9_file_127 : decode cX9_file 127 = .ok (.iload_n 1, 1) := by decide +kernel
theorem dX9_file_128 : decode cX9_file 128 = .ok (.iaload, 1) := by decide +kernel
theorem dX9_file_129 : decode cX9_file 129 = .ok (.ireturn, 1) := by decide +kernel
theorem dX9_file_130 : decode cX9_file 130 = .ok (.aload_n 0, 1) := by decide +kernel
theorem dX9_file_131 : decode cX9_file 131 = .ok (.getfield 20, 3) := by decide +kernel
theorem dX9_file_134 : decode cX9_file 134 = .ok (.iload_n 1, 1) := by decide +kernel
theorem dX9_file_135 : decode cX9_file 135 = .ok (.iaload, 1) := by decide +kernel
theorem dX9_file_136 : decode cX9_file 136 = .ok (.ireturn, 1) := by decide +kernel
theorem dX9_file_137 : decode cX9_file 137 = .ok (.iload_n 3, 1) := by decide +kernel
theorem dX9_file_138 : decode cX9_file 138 = .ok (.ireturn, 1) := by decide +kernel
theorem dX9_file_139 : decode cX9_file 139 = .ok (.iconst (-1), 1) := by decide +kernel
theorem dX9_file_140 : decode cX9_file 140 = .ok (.ireturn, 1) := by decide +kernel
def X9_file_b77 (k24 : Nat → Int32 → Int32 → Int32 → Int32 → M Int32)  (a0 : Nat) (i1 : Int32) (i2 : Int32) (i4 : Int32) (s0 : Int32) (s1 : Int32) : M Int32 := bd (pu (s1 + s0)) (fun x1 => k24 a0 i1 i2 x1 (i4 + 1))
def X9_file_b76 (k24 : Nat → Int32 → Int32 → Int32 → Int32 → M Int32)  (a0 : Nat) (i1 : Int32) (i2 : Int32) (i4 : Int32) (s0 : Int32) : M Int32 := X9_file_b77 k24  a0 i1 i2 i4 0 s0
def X9_file_b24b  (k24 : Nat → Int32 → Int32 → Int32 → Int32 → M Int32) (a0 : Nat) (i1 : Int32) (i2 : Int32) (i3 : Int32) (i4 : Int32) : M Int32 := bd (gI 12 12 a0) (fun x1 => it (x1 ≤ i4) (it (i2 = 0) (bd (gR 12 5 a0) (fun y2 => bd (al 22 y2 i1) (fun x3 => pu x3))) (it (i2 = 1) (bd (gR 12 6 a0) (fun y4 => bd (al 22 y4 i1) (fun x5 => pu x5))) (it (i2 = 2) (bd (gR 12 7 a0) (fun y6 => bd (al 22 y6 i1) (fun x7 => pu x7))) (it (i2 = 3) (pu i3) (pu (-1)))))) (bd (gR 12 9 a0) (fun y8 => bd (al 22 y8 i4) (fun x9 => bd (gR 12 5 a0) (fun y10 => bd (al 22 y10 i1) (fun x11 => it (¬ x9 = x11) (X9_file_b76 k24  a0 i1 i2 i4 i3) (bd (gR 12 10 a0) (fun y12 => bd (al 22 y12 i4) (fun x13 => bd (gR 12 6 a0) (fun y14 => bd (al 22 y14 i1) (fun x15 => it (¬ x13 = x15) (X9_file_b76 k24  a0 i1 i2 i4 i3) (bd (gR 12 11 a0) (fun y16 => bd (al 22 y16 i4) (fun x17 => X9_file_b77 k24  a0 i1 i2 i4 x17 i3))))))))))))))
def X9_file_b24  : Nat → Nat → Int32 → Int32 → Int32 → Int32 → M Int32
  | 0 => fun _ _ _ _ _ => fl
  | n + 1 => fun a0 i1 i2 i3 i4 => X9_file_b24b  (X9_file_b24  n) a0 i1 i2 i3 i4
def X9_file (a0 : Nat) (i1 : Int32) (i2 : Int32) : M Int32 := bd (pV 12 0 a0 (.int 0)) (fun _ => it (i1 < 0) (pu (-1)) (bd (gI 12 8 a0) (fun x1 => it (i1 < x1) (X9_file_b24  FU a0 i1 i2 0 0) (pu (-1)))))
section
variable {G : Gx} {p : Program} {l : Launch} {e : Env} {R : Room} {s : State} {m : MethodId} {args : Array Value} {below : List Frame} {meth : Method} {c : Code} {h0 : Hp} {r : Int32} {h' : Hp}
set_option maxRecDepth 20000 in
theorem X9_file_b77_s (C : Cx G p R s m args meth c cX9_file 5 yX9_file.cls h0 h') (hF : R.frames = 0) (hO : R.locals = 0) (hr : meth.sig.returnType = (some .int)) (hm : meth.name = yX9_file.name) {k24 : Nat → Int32 → Int32 → Int32 → Int32 → M Int32} (hk24 : ∀ (a0 : Nat) (i1 : Int32) (i2 : Int32) (i3 : Int32) (i4 : Int32), Sm G (QM G rvI below args s h0 r h') p l e R s m args below meth c 5 h0 r h' 24 [(0, .ref a0), (1, .int i1), (2, .int i2), (3, .int i3), (4, .int i4)] [] (k24 a0 i1 i2 i3 i4))  (a0 : Nat) (i1 : Int32) (i2 : Int32) (i4 : Int32) (s0 : Int32) (s1 : Int32) : Sm G (QM G rvI below args s h0 r h') p l e R s m args below meth c 5 h0 r h' 77 [(0, .ref a0), (1, .int i1), (2, .int i2), (4, .int i4)] [.int s0, .int s1] (X9_file_b77 k24  a0 i1 i2 i4 s0 s1) := by
  refine s_iadd C dX9_file_77 ?_
  refine s_let (fun x1 => ?_)
  refine s_istore_n (lv' := [(3, .int x1), (0, .ref a0), (1, .int i1), (2, .int i2), (4, .int i4)]) C dX9_file_78 rfl (by decide) rfl ?_
  refine s_iincK (lv' := [(4, .int (i4 + 1)), (3, .int x1), (0, .ref a0), (1, .int i1), (2, .int i2)]) (w := 1) C 4 dX9_file_79 rfl (by decide) (by decide) rfl ?_
  refine s_goto (tgt := 24) C dX9_file_82 (by decide) ?_
  refine s_sub [2, 3, 4, 1, 0] rfl ?_
  exact hk24 a0 i1 i2 x1 (i4 + 1)
set_option maxRecDepth 20000 in
theorem X9_file_b76_s (C : Cx G p R s m args meth c cX9_file 5 yX9_file.cls h0 h') (hF : R.frames = 0) (hO : R.locals = 0) (hr : meth.sig.returnType = (some .int)) (hm : meth.name = yX9_file.name) {k24 : Nat → Int32 → Int32 → Int32 → Int32 → M Int32} (hk24 : ∀ (a0 : Nat) (i1 : Int32) (i2 : Int32) (i3 : Int32) (i4 : Int32), Sm G (QM G rvI below args s h0 r h') p l e R s m args below meth c 5 h0 r h' 24 [(0, .ref a0), (1, .int i1), (2, .int i2), (3, .int i3), (4, .int i4)] [] (k24 a0 i1 i2 i3 i4))  (a0 : Nat) (i1 : Int32) (i2 : Int32) (i4 : Int32) (s0 : Int32) : Sm G (QM G rvI below args s h0 r h') p l e R s m args below meth c 5 h0 r h' 76 [(0, .ref a0), (1, .int i1), (2, .int i2), (4, .int i4)] [.int s0] (X9_file_b76 k24  a0 i1 i2 i4 s0) := by
  refine s_iconst (v := 0) C dX9_file_76 (by decide) ?_
  exact X9_file_b77_s C hF hO hr hm hk24  a0 i1 i2 i4 0 s0
set_option maxRecDepth 20000 in
theorem X9_file_b24b_s (C : Cx G p R s m args meth c cX9_file 5 yX9_file.cls h0 h') (hF : R.frames = 0) (hO : R.locals = 0) (hr : meth.sig.returnType = (some .int)) (hm : meth.name = yX9_file.name)  {k24 : Nat → Int32 → Int32 → Int32 → Int32 → M Int32} (hk24 : ∀ (a0 : Nat) (i1 : Int32) (i2 : Int32) (i3 : Int32) (i4 : Int32), Sm G (QM G rvI below args s h0 r h') p l e R s m args below meth c 5 h0 r h' 24 [(0, .ref a0), (1, .int i1), (2, .int i2), (3, .int i3), (4, .int i4)] [] (k24 a0 i1 i2 i3 i4)) (a0 : Nat) (i1 : Int32) (i2 : Int32) (i3 : Int32) (i4 : Int32) : Sm G (QM G rvI below args s h0 r h') p l e R s m args below meth c 5 h0 r h' 24 [(0, .ref a0), (1, .int i1), (2, .int i2), (3, .int i3), (4, .int i4)] [] (X9_file_b24b  k24 a0 i1 i2 i3 i4) := by
  refine s_iload C 4 dX9_file_24 rfl ?_
  refine s_aload_n C 0 dX9_file_26 rfl rfl ?_
  refine s_gI C ci12 12 (by decide) (Or.inl wd_6_127) dX9_file_27 (fun x1 => ?_)
  refine s_icmp_ge (tgt := 85) C dX9_file_30 (by decide) ?_ ?_
  · refine s_iload_n C 2 dX9_file_85 rfl rfl ?_
    refine s_tableIn (v := 0) (q := 0) (off := 30) (tgt := 116) C dX9_file_86 (by decide) (by decide) (by decide) (by decide) (by decide) ?_ (fun hx0 => ?_)
    · refine s_aload_n C 0 dX9_file_116 rfl rfl ?_
      refine s_gR C ci12 5 (by decide) (Or.inl wd_6_120) dX9_file_117 (fun y2 => ?_)
      refine s_iload_n C 1 dX9_file_120 rfl rfl ?_
      refine s_al22 C dX9_file_121 (fun x3 => ?_)
      exact s_iret C hr rfl dX9_file_122
    refine s_tableIn (v := 1) (q := 1) (off := 37) (tgt := 123) C dX9_file_86 (by decide) (by decide) (by decide) (by decide) (by decide) ?_ (fun hx1 => ?_)
    · refine s_aload_n C 0 dX9_file_123 rfl rfl ?_
      refine s_gR C ci12 6 (by decide) (Or.inl wd_6_121) dX9_file_124 (fun y4 => ?_)
      refine s_iload_n C 1 dX9_file_127 rfl rfl ?_
      refine s_al22 C dX9_file_128 (fun x5 => ?_)
      exact s_iret C hr rfl dX9_file_129
    refine s_tableIn (v := 2) (q := 2) (off := 44) (tgt := 130) C dX9_file_86 (by decide) (by decide) (by decide) (by decide) (by decide) ?_ (fun hx2 => ?_)
    · refine s_aload_n C 0 dX9_file_130 rfl rfl ?_
      refine s_gR C ci12 7 (by decide) (Or.inl wd_6_122) dX9_file_131 (fun y6 => ?_)
      refine s_iload_n C 1 dX9_file_134 rfl rfl ?_
      refine s_al22 C dX9_file_135 (fun x7 => ?_)
      exact s_iret C hr rfl dX9_file_136
    refine s_tableIn (v := 3) (q := 3) (off := 51) (tgt := 137) C dX9_file_86 (by decide) (by decide) (by decide) (by decide) (by decide) ?_ (fun hx3 => ?_)
    · refine s_iload_n C 3 dX9_file_137 rfl rfl ?_
      exact s_iret C hr rfl dX9_file_138
    refine s_tableOut (tgt := 139) C dX9_file_86 (by have q0 : i2.toInt ≠ 0 := fun q => hx0 (Int32.toInt_inj.mp q); have q1 : i2.toInt ≠ 1 := fun q => hx1 (Int32.toInt_inj.mp q); have q2 : i2.toInt ≠ 2 := fun q => hx2 (Int32.toInt_inj.mp q); have q3 : i2.toInt ≠ 3 := fun q => hx3 (Int32.toInt_inj.mp q); omega) (by decide) ?_
    refine s_iconst (v := (-1)) C dX9_file_139 (by decide) ?_
    exact s_iret C hr rfl dX9_file_140
  refine s_iload_n C 3 dX9_file_33 rfl rfl ?_
  refine s_aload_n C 0 dX9_file_34 rfl rfl ?_
  refine s_gR C ci12 9 (by decide) (Or.inl wd_6_124) dX9_file_35 (fun y8 => ?_)
  refine s_iload C 4 dX9_file_38 rfl ?_
  refine s_al22 C dX9_file_40 (fun x9 => ?_)
  refine s_aload_n C 0 dX9_file_41 rfl rfl ?_
  refine s_gR C ci12 5 (by decide) (Or.inl wd_6_120) dX9_file_42 (fun y10 => ?_)
  refine s_iload_n C 1 dX9_file_45 rfl rfl ?_
  refine s_al22 C dX9_file_46 (fun x11 => ?_)
  refine s_icmp_ne (tgt := 76) C dX9_file_47 (by decide) ?_ ?_
  · refine s_sub [0, 1, 2, 4] rfl ?_
    exact X9_file_b76_s C hF hO hr hm hk24  a0 i1 i2 i4 i3
  refine s_aload_n C 0 dX9_file_50 rfl rfl ?_
  refine s_gR C ci12 10 (by decide) (Or.inl wd_6_125) dX9_file_51 (fun y12 => ?_)
  refine s_iload C 4 dX9_file_54 rfl ?_
  refine s_al22 C dX9_file_56 (fun x13 => ?_)
  refine s_aload_n C 0 dX9_file_57 rfl rfl ?_
  refine s_gR C ci12 6 (by decide) (Or.inl wd_6_121) dX9_file_58 (fun y14 => ?_)
  refine s_iload_n C 1 dX9_file_61 rfl rfl ?_
  refine s_al22 C dX9_file_62 (fun x15 => ?_)
  refine s_icmp_ne (tgt := 76) C dX9_file_63 (by decide) ?_ ?_
  · refine s_sub [0, 1, 2, 4] rfl ?_
    exact X9_file_b76_s C hF hO hr hm hk24  a0 i1 i2 i4 i3
  refine s_aload_n C 0 dX9_file_66 rfl rfl ?_
  refine s_gR C ci12 11 (by decide) (Or.inl wd_6_126) dX9_file_67 (fun y16 => ?_)
  refine s_iload C 4 dX9_file_70 rfl ?_
  refine s_al22 C dX9_file_72 (fun x17 => ?_)
  refine s_goto (tgt := 77) C dX9_file_73 (by decide) ?_
  refine s_sub [0, 1, 2, 4] rfl ?_
  exact X9_file_b77_s C hF hO hr hm hk24  a0 i1 i2 i4 x17 i3
set_option maxRecDepth 20000 in
theorem X9_file_b24_s (C : Cx G p R s m args meth c cX9_file 5 yX9_file.cls h0 h') (hF : R.frames = 0) (hO : R.locals = 0) (hr : meth.sig.returnType = (some .int)) (hm : meth.name = yX9_file.name)  (n : Nat) : ∀ (a0 : Nat) (i1 : Int32) (i2 : Int32) (i3 : Int32) (i4 : Int32), Sm G (QM G rvI below args s h0 r h') p l e R s m args below meth c 5 h0 r h' 24 [(0, .ref a0), (1, .int i1), (2, .int i2), (3, .int i3), (4, .int i4)] [] (X9_file_b24  n a0 i1 i2 i3 i4) := by
  induction n with
  | zero => intro a0 i1 i2 i3 i4; exact s_fl
  | succ n ih => intro a0 i1 i2 i3 i4; exact X9_file_b24b_s C hF hO hr hm  ih a0 i1 i2 i3 i4
end
set_option maxRecDepth 20000 in
theorem con_X9_file (l : Launch) (G : Gx) (a0 : Nat) (i1 : Int32) (i2 : Int32) : Con G rvI l yX9_file cX9_file 5 (some .int) 0 0 [.ref a0, .int i1, .int i2] (X9_file a0 i1 i2) := by
  refine con_of (lv := [(0, .ref a0), (1, .int i1), (2, .int i2)]) (by decide) (Nat.le_of_ble_eq_true rfl) rfl (fun p e R s m args below meth c h0 r h' C hF hO hr hm => ?_)
  refine s_aload_n C 0 dX9_file_0 rfl rfl ?_
  refine s_iconst (v := 0) C dX9_file_1 (by decide) ?_
  refine s_pV C ci12 0 (by decide) rfl (Or.inl wd_6_115) dX9_file_2 rfl rfl ?_
  refine s_iload_n C 1 dX9_file_5 rfl rfl ?_
  refine s_if_lt (tgt := 17) C dX9_file_6 (by decide) ?_ ?_
  · refine s_iconst (v := (-1)) C dX9_file_17 (by decide) ?_
    exact s_iret C hr rfl dX9_file_18
  refine s_iload_n C 1 dX9_file_9 rfl rfl ?_
  refine s_aload_n C 0 dX9_file_10 rfl rfl ?_
  refine s_gI C ci12 8 (by decide) (Or.inl wd_6_123) dX9_file_11 (fun x1 => ?_)
  refine s_icmp_lt (tgt := 19) C dX9_file_14 (by decide) ?_ ?_
  · refine s_iconst (v := 0) C dX9_file_19 (by decide) ?_
    refine s_istore_n (lv' := [(3, .int 0), (0, .ref a0), (1, .int i1), (2, .int i2)]) C dX9_file_20 rfl (by decide) rfl ?_
    refine s_iconst (v := 0) C dX9_file_21 (by decide) ?_
    refine s_istore (lv' := [(4, .int 0), (3, .int 0), (0, .ref a0), (1, .int i1), (2, .int i2)]) C dX9_file_22 (by decide) rfl ?_
    refine s_sub [2, 3, 4, 1, 0] rfl ?_
    exact X9_file_b24_s C hF hO hr hm  FU a0 i1 i2 0 0
  refine s_iconst (v := (-1)) C dX9_file_17 (by decide) ?_
  exact s_iret C hr rfl dX9_file_18

theorem dX9_byteOf_0 : decode cX9_byteOf 0 = .ok (.aload_n 0, 1) := by decide +kernel
theorem dX9_byteOf_1 : decode cX9_byteOf 1 = .ok (.iconst 0, 1) := by decide +kernel
theorem dX9_byteOf_2 : decode cX9_byteOf 2 = .ok (.putfield 93, 3) := by decide +kernel
theorem dX9_byteOf_5 : decode cX9_byteOf 5 = .ok (.iload_n 1, 1) := by decide +kernel
theorem dX9_byteOf_6 : decode cX9_byteOf 6 = .ok (.ifCond .lt 25, 3) := by decide +kernel
theorem dX9_byteOf_9 : decode cX9_byteOf 9 = .ok (.iload_n 1, 1) := by decide +kernel
theorem dX9_byteOf_10 : decode cX9_byteOf 10 = .ok (.aload_n 0, 1) := by decide +kernel
theorem dX9_byteOf_11 : decode cX9_byteOf 11 = .ok (.getfield 106, 3) := by decide +kernel
theorem dX9_byteOf_14 : decode cX9_byteOf 14 = .ok (.if_icmp .ge 17, 3) := by decide +kernel
theorem dX9_byteOf_17 : decode cX9_byteOf 17 = .ok (.iload_n 2, 1) := by decide +kernel
theorem dX9_byteOf_18 : decode cX9_byteOf 18 = .ok (.ifCond .lt 13, 3) := by decide +kernel
theorem dX9_byteOf_21 : decode cX9_byteOf 21 = .ok (.iload_n 2, 1) := by decide +kernel
theorem dX9_byteOf_22 : decode cX9_byteOf 22 = .ok (.aload_n 0, 1) := by decide +kernel
theorem dX9_byteOf_23 : decode cX9_byteOf 23 = .ok (.getfield 20, 3) := by decide +kernel
theorem dX9_byteOf_26 : decode cX9_byteOf 26 = .ok (.iload_n 1, 1) := by decide +kernel
theorem dX9_byteOf_27 : decode cX9_byteOf 27 = .ok (.iaload, 1) := by decide +kernel
theorem dX9_byteOf_28 : decode cX9_byteOf 28 = .ok (.if_icmp .lt 7, 3) := by decide +kernel
theorem dX9_byteOf_31 : decode cX9_byteOf 31 = .ok (.iconst (-1), 1) := by decide +kernel
theorem dX9_byteOf_32 : decode cX9_byteOf 32 = .ok (.goto 19, 3) := by decide +kernel
theorem dX9_byteOf_35 : decode cX9_byteOf 35 = .ok (.aload_n 0, 1) := by decide +kernel
theorem dX9_byteOf_36 : decode cX9_byteOf 36 = .ok (.getfield 9, 3) := by decide +kernel
theorem dX9_byteOf_39 : decode cX9_byteOf 39 = .ok (.aload_n 0, 1) := by decide +kernel
theorem dX9_byteOf_40 : decode cX9_byteOf 40 = .ok (.iload_n 1, 1) := by decide +kernel
theorem dX9_byteOf_41 : decode cX9_byteOf 41 = .ok (.invokevirtual 153, 3) := by decide +kernel
theorem dX9_byteOf_44 : decode cX9_byteOf 44 = .ok (.iload_n 2, 1) := by decide +kernel
theorem dX9_byteOf_45 : decode cX9_byteOf 45 = .ok (.iadd, 1) := by decide +kernel
theorem dX9_byteOf_46 : decode cX9_byteOf 46 = .ok (.baload, 1) := by decide +kernel
theorem dX9_byteOf_47 : decode cX9_byteOf 47 = .ok (.sipush 255, 3) := by decide +kernel
theorem dX9_byteOf_50 : decode cX9_byteOf 50 = .ok (.iand, 1) := by decide +kernel
theorem dX9_byteOf_51 : decode cX9_byteOf 51 = .ok (.ireturn, 1) := by decide +kernel
def X9_byteOf_b31    : M Int32 := pu (-1)
def X9_byteOf (a0 : Nat) (i1 : Int32) (i2 : Int32) : M Int32 := bd (pV 12 0 a0 (.int 0)) (fun _ => it (i1 < 0) (X9_byteOf_b31   ) (bd (gI 12 8 a0) (fun x1 => it (x1 ≤ i1) (X9_byteOf_b31   ) (it (i2 < 0) (X9_byteOf_b31   ) (bd (gR 12 7 a0) (fun y2 => bd (al 22 y2 i1) (fun x3 => it (i2 < x3) (bd (gR 12 3 a0) (fun y4 => bd (ck 12 a0) (fun _ => bd (X9_startOf a0 i1) (fun x5 => bd (al 21 y4 (x5 + i2)) (fun x6 => pu (x6 &&& 255)))))) (X9_byteOf_b31   ))))))))
section
variable {G : Gx} {p : Program} {l : Launch} {e : Env} {R : Room} {s : State} {m : MethodId} {args : Array Value} {below : List Frame} {meth : Method} {c : Code} {h0 : Hp} {r : Int32} {h' : Hp}
set_option maxRecDepth 20000 in
theorem X9_byteOf_b31_s (C : Cx G p R s m args meth c cX9_byteOf 3 yX9_byteOf.cls h0 h') (hF : R.frames = 1) (hO : R.locals = 23) (hr : meth.sig.returnType = (some .int)) (hm : meth.name = yX9_byteOf.name)    : Sm G (QM G rvI below args s h0 r h') p l e R s m args below meth c 3 h0 r h' 31 [] [] (X9_byteOf_b31   ) := by
  refine s_iconst (v := (-1)) C dX9_byteOf_31 (by decide) ?_
  refine s_goto (tgt := 51) C dX9_byteOf_32 (by decide) ?_
  exact s_iret C hr rfl dX9_byteOf_51
end
set_option maxRecDepth 20000 in
theorem con_X9_byteOf (l : Launch) (G : Gx) (a0 : Nat) (i1 : Int32) (i2 : Int32) : Con G rvI l yX9_byteOf cX9_byteOf 3 (some .int) 1 23 [.ref a0, .int i1, .int i2] (X9_byteOf a0 i1 i2) := by
  refine con_of (lv := [(0, .ref a0), (1, .int i1), (2, .int i2)]) (by decide) (Nat.le_of_ble_eq_true rfl) rfl (fun p e R s m args below meth c h0 r h' C hF hO hr hm => ?_)
  refine s_aload_n C 0 dX9_byteOf_0 rfl rfl ?_
  refine s_iconst (v := 0) C dX9_byteOf_1 (by decide) ?_
  refine s_pV C ci12 0 (by decide) rfl (Or.inl wd_6_115) dX9_byteOf_2 rfl rfl ?_
  refine s_iload_n C 1 dX9_byteOf_5 rfl rfl ?_
  refine s_if_lt (tgt := 31) C dX9_byteOf_6 (by decide) ?_ ?_
  · refine s_sub [] rfl ?_
    exact X9_byteOf_b31_s C hF hO hr hm   
  refine s_iload_n C 1 dX9_byteOf_9 rfl rfl ?_
  refine s_aload_n C 0 dX9_byteOf_10 rfl rfl ?_
  refine s_gI C ci12 8 (by decide) (Or.inl wd_6_123) dX9_byteOf_11 (fun x1 => ?_)
  refine s_icmp_ge (tgt := 31) C dX9_byteOf_14 (by decide) ?_ ?_
  · refine s_sub [] rfl ?_
    exact X9_byteOf_b31_s C hF hO hr hm   
  refine s_iload_n C 2 dX9_byteOf_17 rfl rfl ?_
  refine s_if_lt (tgt := 31) C dX9_byteOf_18 (by decide) ?_ ?_
  · refine s_sub [] rfl ?_
    exact X9_byteOf_b31_s C hF hO hr hm   
  refine s_iload_n C 2 dX9_byteOf_21 rfl rfl ?_
  refine s_aload_n C 0 dX9_byteOf_22 rfl rfl ?_
  refine s_gR C ci12 7 (by decide) (Or.inl wd_6_122) dX9_byteOf_23 (fun y2 => ?_)
  refine s_iload_n C 1 dX9_byteOf_26 rfl rfl ?_
  refine s_al22 C dX9_byteOf_27 (fun x3 => ?_)
  refine s_icmp_lt (tgt := 35) C dX9_byteOf_28 (by decide) ?_ ?_
  · refine s_aload_n C 0 dX9_byteOf_35 rfl rfl ?_
    refine s_gR C ci12 3 (by decide) (Or.inl wd_6_118) dX9_byteOf_36 (fun y4 => ?_)
    refine s_aload_n C 0 dX9_byteOf_39 rfl rfl ?_
    refine s_iload_n C 1 dX9_byteOf_40 rfl rfl ?_
    refine s_invV_i C ci12 cy_X9_startOf (Or.inl wd_7_96) rfl wd_7_98 wp_39 (con_X9_startOf l G a0 i1) rfl rfl (Nat.le_of_ble_eq_true rfl) (by rw [hF]; decide) (by rw [hO]; exact Nat.le_of_ble_eq_true rfl) dX9_byteOf_41 (fun x5 => ?_)
    refine s_iload_n C 2 dX9_byteOf_44 rfl rfl ?_
    refine s_iadd C dX9_byteOf_45 ?_
    refine s_al21 C dX9_byteOf_46 (fun x6 => ?_)
    refine s_sipush (v := 255) C dX9_byteOf_47 (by decide) ?_
    refine s_iand C dX9_byteOf_50 ?_
    exact s_iret C hr rfl dX9_byteOf_51
  refine s_sub [] rfl ?_
  exact X9_byteOf_b31_s C hF hO hr hm   

theorem dX9_entry_0 : decode cX9_entry 0 = .ok (.aload_n 0, 1) := by decide +kernel
theorem dX9_entry_1 : decode cX9_entry 1 = .ok (.iconst 0, 1) := by decide +kernel
theorem dX9_entry_2 : decode cX9_entry 2 = .ok (.putfield 93, 3) := by decide +kernel
theorem dX9_entry_5 : decode cX9_entry 5 = .ok (.aload_n 0, 1) := by decide +kernel
theorem dX9_entry_6 : decode cX9_entry 6 = .ok (.getfield 127, 3) := by decide +kernel
theorem dX9_entry_9 : decode cX9_entry 9 = .ok (.ifCond .eq 15, 3) := by decide +kernel
theorem dX9_entry_12 : decode cX9_entry 12 = .ok (.iload_n 1, 1) := by decide +kernel
theorem dX9_entry_13 : decode cX9_entry 13 = .ok (.ifCond .lt 11, 3) := by decide +kernel
theorem dX9_entry_16 : decode cX9_entry 16 = .ok (.iload_n 1, 1) := by decide +kernel
theorem dX9_entry_17 : decode cX9_entry 17 = .ok (.aload_n 0, 1) := by decide +kernel
theorem dX9_entry_18 : decode cX9_entry 18 = .ok (.getfield 140, 3) := by decide +kernel
theorem dX9_entry_21 : decode cX9_entry 21 = .ok (.if_icmp .lt 5, 3) := by decide +kernel
theorem dX9_entry_24 : decode cX9_entry 24 = .ok (.iconst (-1), 1) := by decide +kernel
theorem dX9_entry_25 : decode cX9_entry 25 = .ok (.ireturn, 1) := by decide +kernel
theorem dX9_entry_26 : decode cX9_entry 26 = .ok (.iload_n 2, 1) := by decide +kernel
theorem dX9_entry_27 : decode cX9_entry 27 = .ok (.tableswitch 68 0 4 #[33, 40, 47, 54, 61], 33) := by decide +kernel
theorem dX9_entry_60 : decode cX9_entry 60 = .ok (.aload_n 0, 1) := by decide +kernel
theorem dX9_entry_61 : decode cX9_entry 61 = .ok (.getfield 44, 3) := by decide +kernel
theorem dX9_entry_64 : decode cX9_entry 64 = .ok (.iload_n 1, 1) := by decide +kernel
theorem dX9_entry_65 : decode cX9_entry 65 = .ok (.iaload, 1) := by decide +kernel
theorem dX9_entry_66 : decode cX9_entry 66 = .ok (.ireturn, 1) := by decide +kernel
theorem dX9_entry_67 : decode cX9_entry 67 = .ok (.aload_n 0, 1) := by decide +kernel
theorem dX9_entry_68 : decode cX9_entry 68 = .ok (.getfield 53, 3) := by decide +kernel
theorem dX9_entry_71 : decode cX9_entry 71 = .ok (.iload_n 1, 1) := by decide +kernel
theorem dX9_entry_72 : decode cX9_entry 72 = .ok (.iaload, 1) := by decide +kernel
theorem dX9_entry_73 : decode cX9_entry 73 = .ok (.ireturn, 1) := by decide +kernel
theorem dX9_entry_74 : decode cX9_entry 74 = .ok (.aload_n 0, 1) := by decide +kernel
theorem dX9_entry_75 : decode cX9_entry 75 = .ok (.getfield 47, 3) := by decide +kernel
theorem dX9_entry_78 : decode cX9_entry 78 = .ok (.iload_n 1, 1) := by decide +kernel
theorem dX9_entry_79 : decode cX9_entry 79 = .ok (.iaload, 1) := by decide +kernel
theorem dX9_entry_80 : decode cX9_entry 80 = .ok (.ireturn, 1) := by decide +kernel
theorem dX9_entry_81 : decode cX9_entry 81 = .ok (.aload_n 0, 1) := by decide +kernel
theorem dX9_entry_82 : decode cX9_entry 82 = .ok (.getfield 50, 3) := by decide +kernel
theorem dX9_entry_85 : decode cX9_entry 85 = .ok (.iload_n 1, 1) := by decide +kernel
theorem dX9_entry_86 : decode cX9_entry 86 = .ok (.iaload, 1) := by decide +kernel
theorem dX9_entry_87 : decode cX9_entry 87 = .ok (.ireturn, 1) := by decide +kernel
theorem dX9_entry_88 : decode cX9_entry 88 = .ok (.aload_n 0, 1) := by decide +kernel
theorem dX9_entry_89 : decode cX9_entry 89 = .ok (.getfield 56, 3) := by decide +kernel
theorem dX9_entry_92 : decode cX9_entry 92 = .ok (.iload_n 1, 1) := by decide +kernel
theorem dX9_entry_93 : decode cX9_entry 93 = .ok (.iaload, 1) := by decide +kernel
theorem dX9_entry_94 : decode cX9_entry 94 = .ok (.ireturn, 1) := by decide +kernel
theorem dX9_entry_95 : decode cX9_entry 95 = .ok (.iconst (-1), 1) := by decide +kernel
theorem dX9_entry_96 : decode cX9_entry 96 = .ok (.ireturn, 1) := by decide +kernel
def X9_entry (a0 : Nat) (i1 : Int32) (i2 : Int32) : M Int32 := bd (pV 12 0 a0 (.int 0)) (fun _ => bd (gI 12 23 a0) (fun x1 => it (x1 = 0) (pu (-1)) (it (i1 < 0) (pu (-1)) (bd (gI 12 33 a0) (fun x2 => it (i1 < x2) (it (i2 = 0) (bd (gR 12 28 a0) (fun y3 => bd (al 22 y3 i1) (fun x4 => pu x4))) (it (i2 = 1) (bd (gR 12 31 a0) (fun y5 => bd (al 22 y5 i1) (fun x6 => pu x6))) (it (i2 = 2) (bd (gR 12 29 a0) (fun y7 => bd (al 22 y7 i1) (fun x8 => pu x8))) (it (i2 = 3) (bd (gR 12 30 a0) (fun y9 => bd (al 22 y9 i1) (fun x10 => pu x10))) (it (i2 = 4) (bd (gR 12 32 a0) (fun y11 => bd (al 22 y11 i1) (fun x12 => pu x12))) (pu (-1))))))) (pu (-1)))))))
section
variable {G : Gx} {p : Program} {l : Launch} {e : Env} {R : Room} {s : State} {m : MethodId} {args : Array Value} {below : List Frame} {meth : Method} {c : Code} {h0 : Hp} {r : Int32} {h' : Hp}
end
set_option maxRecDepth 20000 in
theorem con_X9_entry (l : Launch) (G : Gx) (a0 : Nat) (i1 : Int32) (i2 : Int32) : Con G rvI l yX9_entry cX9_entry 3 (some .int) 0 0 [.ref a0, .int i1, .int i2] (X9_entry a0 i1 i2) := by
  refine con_of (lv := [(0, .ref a0), (1, .int i1), (2, .int i2)]) (by decide) (Nat.le_of_ble_eq_true rfl) rfl (fun p e R s m args below meth c h0 r h' C hF hO hr hm => ?_)
  refine s_aload_n C 0 dX9_entry_0 rfl rfl ?_
  refine s_iconst (v := 0) C dX9_entry_1 (by decide) ?_
  refine s_pV C ci12 0 (by decide) rfl (Or.inl wd_6_115) dX9_entry_2 rfl rfl ?_
  refine s_aload_n C 0 dX9_entry_5 rfl rfl ?_
  refine s_gI C ci12 23 (by decide) (Or.inl wd_6_138) dX9_entry_6 (fun x1 => ?_)
  refine s_if_eq (tgt := 24) C dX9_entry_9 (by decide) ?_ ?_
  · refine s_iconst (v := (-1)) C dX9_entry_24 (by decide) ?_
    exact s_iret C hr rfl dX9_entry_25
  refine s_iload_n C 1 dX9_entry_12 rfl rfl ?_
  refine s_if_lt (tgt := 24) C dX9_entry_13 (by decide) ?_ ?_
  · refine s_iconst (v := (-1)) C dX9_entry_24 (by decide) ?_
    exact s_iret C hr rfl dX9_entry_25
  refine s_iload_n C 1 dX9_entry_16 rfl rfl ?_
  refine s_aload_n C 0 dX9_entry_17 rfl rfl ?_
  refine s_gI C ci12 33 (by decide) (Or.inl wd_6_148) dX9_entry_18 (fun x2 => ?_)
  refine s_icmp_lt (tgt := 26) C dX9_entry_21 (by decide) ?_ ?_
  · refine s_iload_n C 2 dX9_entry_26 rfl rfl ?_
    refine s_tableIn (v := 0) (q := 0) (off := 33) (tgt := 60) C dX9_entry_27 (by decide) (by decide) (by decide) (by decide) (by decide) ?_ (fun hx0 => ?_)
    · refine s_aload_n C 0 dX9_entry_60 rfl rfl ?_
      refine s_gR C ci12 28 (by decide) (Or.inl wd_6_143) dX9_entry_61 (fun y3 => ?_)
      refine s_iload_n C 1 dX9_entry_64 rfl rfl ?_
      refine s_al22 C dX9_entry_65 (fun x4 => ?_)
      exact s_iret C hr rfl dX9_entry_66
    refine s_tableIn (v := 1) (q := 1) (off := 40) (tgt := 67) C dX9_entry_27 (by decide) (by decide) (by decide) (by decide) (by decide) ?_ (fun hx1 => ?_)
    · refine s_aload_n C 0 dX9_entry_67 rfl rfl ?_
      refine s_gR C ci12 31 (by decide) (Or.inl wd_6_146) dX9_entry_68 (fun y5 => ?_)
      refine s_iload_n C 1 dX9_entry_71 rfl rfl ?_
      refine s_al22 C dX9_entry_72 (fun x6 => ?_)
      exact s_iret C hr rfl dX9_entry_73
    refine s_tableIn (v := 2) (q := 2) (off := 47) (tgt := 74) C dX9_entry_27 (by decide) (by decide) (by decide) (by decide) (by decide) ?_ (fun hx2 => ?_)
    · refine s_aload_n C 0 dX9_entry_74 rfl rfl ?_
      refine s_gR C ci12 29 (by decide) (Or.inl wd_6_144) dX9_entry_75 (fun y7 => ?_)
      refine s_iload_n C 1 dX9_entry_78 rfl rfl ?_
      refine s_al22 C dX9_entry_79 (fun x8 => ?_)
      exact s_iret C hr rfl dX9_entry_80
    refine s_tableIn (v := 3) (q := 3) (off := 54) (tgt := 81) C dX9_entry_27 (by decide) (by decide) (by decide) (by decide) (by decide) ?_ (fun hx3 => ?_)
    · refine s_aload_n C 0 dX9_entry_81 rfl rfl ?_
      refine s_gR C ci12 30 (by decide) (Or.inl wd_6_145) dX9_entry_82 (fun y9 => ?_)
      refine s_iload_n C 1 dX9_entry_85 rfl rfl ?_
      refine s_al22 C dX9_entry_86 (fun x10 => ?_)
      exact s_iret C hr rfl dX9_entry_87
    refine s_tableIn (v := 4) (q := 4) (off := 61) (tgt := 88) C dX9_entry_27 (by decide) (by decide) (by decide) (by decide) (by decide) ?_ (fun hx4 => ?_)
    · refine s_aload_n C 0 dX9_entry_88 rfl rfl ?_
      refine s_gR C ci12 32 (by decide) (Or.inl wd_6_147) dX9_entry_89 (fun y11 => ?_)
      refine s_iload_n C 1 dX9_entry_92 rfl rfl ?_
      refine s_al22 C dX9_entry_93 (fun x12 => ?_)
      exact s_iret C hr rfl dX9_entry_94
    refine s_tableOut (tgt := 95) C dX9_entry_27 (by have q0 : i2.toInt ≠ 0 := fun q => hx0 (Int32.toInt_inj.mp q); have q1 : i2.toInt ≠ 1 := fun q => hx1 (Int32.toInt_inj.mp q); have q2 : i2.toInt ≠ 2 := fun q => hx2 (Int32.toInt_inj.mp q); have q3 : i2.toInt ≠ 3 := fun q => hx3 (Int32.toInt_inj.mp q); have q4 : i2.toInt ≠ 4 := fun q => hx4 (Int32.toInt_inj.mp q); omega) (by decide) ?_
    refine s_iconst (v := (-1)) C dX9_entry_95 (by decide) ?_
    exact s_iret C hr rfl dX9_entry_96
  refine s_iconst (v := (-1)) C dX9_entry_24 (by decide) ?_
  exact s_iret C hr rfl dX9_entry_25

theorem dX9_key_0 : decode cX9_key 0 = .ok (.aload_n 0, 1) := by decide +kernel
theorem dX9_key_1 : decode cX9_key 1 = .ok (.iconst 0, 1) := by decide +kernel
theorem dX9_key_2 : decode cX9_key 2 = .ok (.putfield 93, 3) := by decide +kernel
theorem dX9_key_5 : decode cX9_key 5 = .ok (.aload_n 0, 1) := by decide +kernel
theorem dX9_key_6 : decode cX9_key 6 = .ok (.getfield 127, 3) := by decide +kernel
theorem dX9_key_9 : decode cX9_key 9 = .ok (.ifCond .eq 29, 3) := by decide +kernel
theorem dX9_key_12 : decode cX9_key 12 = .ok (.iload_n 1, 1) := by decide +kernel
theorem dX9_key_13 : decode cX9_key 13 = .ok (.ifCond .lt 25, 3) := by decide +kernel
theorem dX9_key_16 : decode cX9_key 16 = .ok (.iload_n 1, 1) := by decide +kernel
theorem dX9_key_17 : decode cX9_key 17 = .ok (.aload_n 0, 1) := by decide +kernel
theorem dX9_key_18 : decode cX9_key 18 = .ok (.getfield 140, 3) := by decide +kernel
theorem dX9_key_21 : decode cX9_key 21 = .ok (.if_icmp .ge 17, 3) := by decide +kernel
theorem dX9_key_24 : decode cX9_key 24 = .ok (.iload_n 2, 1) := by decide +kernel
theorem dX9_key_25 : decode cX9_key 25 = .ok (.ifCond .lt 13, 3) := by decide +kernel
theorem dX9_key_28 : decode cX9_key 28 = .ok (.iload_n 2, 1) := by decide +kernel
theorem dX9_key_29 : decode cX9_key 29 = .ok (.aload_n 0, 1) := by decide +kernel
theorem dX9_key_30 : decode cX9_key 30 = .ok (.getfield 44, 3) := by decide +kernel
theorem dX9_key_33 : decode cX9_key 33 = .ok (.iload_n 1, 1) := by decide +kernel
theorem dX9_key_34 : decode cX9_key 34 = .ok (.iaload, 1) := by decide +kernel
theorem dX9_key_35 : decode cX9_key 35 = .ok (.if_icmp .lt 7, 3) := by decide +kernel
theorem dX9_key_38 : decode cX9_key 38 = .ok (.iconst (-1), 1) := by decide +kernel
theorem dX9_key_39 : decode cX9_key 39 = .ok (.goto 18, 3) := by decide +kernel
theorem dX9_key_42 : decode cX9_key 42 = .ok (.aload_n 0, 1) := by decide +kernel
theorem dX9_key_43 : decode cX9_key 43 = .ok (.getfield 41, 3) := by decide +kernel
theorem dX9_key_46 : decode cX9_key 46 = .ok (.bipush 16, 2) := by decide +kernel
theorem dX9_key_48 : decode cX9_key 48 = .ok (.iload_n 1, 1) := by decide +kernel
theorem dX9_key_49 : decode cX9_key 49 = .ok (.imul, 1) := by decide +kernel
theorem dX9_key_50 : decode cX9_key 50 = .ok (.iload_n 2, 1) := by decide +kernel
theorem dX9_key_51 : decode cX9_key 51 = .ok (.iadd, 1) := by decide +kernel
theorem dX9_key_52 : decode cX9_key 52 = .ok (.baload, 1) := by decide +kernel
theorem dX9_key_53 : decode cX9_key 53 = .ok (.sipush 255, 3) := by decide +kernel
theorem dX9_key_56 : decode cX9_key 56 = .ok (.iand, 1) := by decide +kernel
theorem dX9_key_57 : decode cX9_key 57 = .ok (.ireturn, 1) := by decide +kernel
def X9_key_b38    : M Int32 := pu (-1)
def X9_key (a0 : Nat) (i1 : Int32) (i2 : Int32) : M Int32 := bd (pV 12 0 a0 (.int 0)) (fun _ => bd (gI 12 23 a0) (fun x1 => it (x1 = 0) (X9_key_b38   ) (it (i1 < 0) (X9_key_b38   ) (bd (gI 12 33 a0) (fun x2 => it (x2 ≤ i1) (X9_key_b38   ) (it (i2 < 0) (X9_key_b38   ) (bd (gR 12 28 a0) (fun y3 => bd (al 22 y3 i1) (fun x4 => it (i2 < x4) (bd (gR 12 27 a0) (fun y5 => bd (al 21 y5 ((16 * i1) + i2)) (fun x6 => pu (x6 &&& 255)))) (X9_key_b38   ))))))))))
section
variable {G : Gx} {p : Program} {l : Launch} {e : Env} {R : Room} {s : State} {m : MethodId} {args : Array Value} {below : List Frame} {meth : Method} {c : Code} {h0 : Hp} {r : Int32} {h' : Hp}
set_option maxRecDepth 20000 in
theorem X9_key_b38_s (C : Cx G p R s m args meth c cX9_key 3 yX9_key.cls h0 h') (hF : R.frames = 0) (hO : R.locals = 0) (hr : meth.sig.returnType = (some .int)) (hm : meth.name = yX9_key.name)    : Sm G (QM G rvI below args s h0 r h') p l e R s m args below meth c 3 h0 r h' 38 [] [] (X9_key_b38   ) := by
  refine s_iconst (v := (-1)) C dX9_key_38 (by decide) ?_
  refine s_goto (tgt := 57) C dX9_key_39 (by decide) ?_
  exact s_iret C hr rfl dX9_key_57
end
set_option maxRecDepth 20000 in
theorem con_X9_key (l : Launch) (G : Gx) (a0 : Nat) (i1 : Int32) (i2 : Int32) : Con G rvI l yX9_key cX9_key 3 (some .int) 0 0 [.ref a0, .int i1, .int i2] (X9_key a0 i1 i2) := by
  refine con_of (lv := [(0, .ref a0), (1, .int i1), (2, .int i2)]) (by decide) (Nat.le_of_ble_eq_true rfl) rfl (fun p e R s m args below meth c h0 r h' C hF hO hr hm => ?_)
  refine s_aload_n C 0 dX9_key_0 rfl rfl ?_
  refine s_iconst (v := 0) C dX9_key_1 (by decide) ?_
  refine s_pV C ci12 0 (by decide) rfl (Or.inl wd_6_115) dX9_key_2 rfl rfl ?_
  refine s_aload_n C 0 dX9_key_5 rfl rfl ?_
  refine s_gI C ci12 23 (by decide) (Or.inl wd_6_138) dX9_key_6 (fun x1 => ?_)
  refine s_if_eq (tgt := 38) C dX9_key_9 (by decide) ?_ ?_
  · refine s_sub [] rfl ?_
    exact X9_key_b38_s C hF hO hr hm   
  refine s_iload_n C 1 dX9_key_12 rfl rfl ?_
  refine s_if_lt (tgt := 38) C dX9_key_13 (by decide) ?_ ?_
  · refine s_sub [] rfl ?_
    exact X9_key_b38_s C hF hO hr hm   
  refine s_iload_n C 1 dX9_key_16 rfl rfl ?_
  refine s_aload_n C 0 dX9_key_17 rfl rfl ?_
  refine s_gI C ci12 33 (by decide) (Or.inl wd_6_148) dX9_key_18 (fun x2 => ?_)
  refine s_icmp_ge (tgt := 38) C dX9_key_21 (by decide) ?_ ?_
  · refine s_sub [] rfl ?_
    exact X9_key_b38_s C hF hO hr hm   
  refine s_iload_n C 2 dX9_key_24 rfl rfl ?_
  refine s_if_lt (tgt := 38) C dX9_key_25 (by decide) ?_ ?_
  · refine s_sub [] rfl ?_
    exact X9_key_b38_s C hF hO hr hm   
  refine s_iload_n C 2 dX9_key_28 rfl rfl ?_
  refine s_aload_n C 0 dX9_key_29 rfl rfl ?_
  refine s_gR C ci12 28 (by decide) (Or.inl wd_6_143) dX9_key_30 (fun y3 => ?_)
  refine s_iload_n C 1 dX9_key_33 rfl rfl ?_
  refine s_al22 C dX9_key_34 (fun x4 => ?_)
  refine s_icmp_lt (tgt := 42) C dX9_key_35 (by decide) ?_ ?_
  · refine s_aload_n C 0 dX9_key_42 rfl rfl ?_
    refine s_gR C ci12 27 (by decide) (Or.inl wd_6_142) dX9_key_43 (fun y5 => ?_)
    refine s_bipush (v := 16) C dX9_key_46 (by decide) ?_
    refine s_iload_n C 1 dX9_key_48 rfl rfl ?_
    refine s_imul C dX9_key_49 ?_
    refine s_iload_n C 2 dX9_key_50 rfl rfl ?_
    refine s_iadd C dX9_key_51 ?_
    refine s_al21 C dX9_key_52 (fun x6 => ?_)
    refine s_sipush (v := 255) C dX9_key_53 (by decide) ?_
    refine s_iand C dX9_key_56 ?_
    exact s_iret C hr rfl dX9_key_57
  refine s_sub [] rfl ?_
  exact X9_key_b38_s C hF hO hr hm   

theorem dX9_bad_0 : decode cX9_bad 0 = .ok (.aload_n 0, 1) := by decide +kernel
theorem dX9_bad_1 : decode cX9_bad 1 = .ok (.aload_n 0, 1) := by decide +kernel
theorem dX9_bad_2 : decode cX9_bad 2 = .ok (.getfield 127, 3) := by decide +kernel
theorem dX9_bad_5 : decode cX9_bad 5 = .ok (.ifCond .eq 7, 3) := by decide +kernel
theorem dX9_bad_8 : decode cX9_bad 8 = .ok (.iconst 0, 1) := by decide +kernel
theorem dX9_bad_9 : decode cX9_bad 9 = .ok (.goto 4, 3) := by decide +kernel
theorem dX9_bad_12 : decode cX9_bad 12 = .ok (.iconst 1, 1) := by decide +kernel
theorem dX9_bad_13 : decode cX9_bad 13 = .ok (.putfield 93, 3) := by decide +kernel
theorem dX9_bad_16 : decode cX9_bad 16 = .ok (.iconst 0, 1) := by decide +kernel
theorem dX9_bad_17 : decode cX9_bad 17 = .ok (.istore_n 1, 1) := by decide +kernel
theorem dX9_bad_18 : decode cX9_bad 18 = .ok (.iconst 0, 1) := by decide +kernel
theorem dX9_bad_19 : decode cX9_bad 19 = .ok (.istore_n 2, 1) := by decide +kernel
theorem dX9_bad_20 : decode cX9_bad 20 = .ok (.iload_n 2, 1) := by decide +kernel
theorem dX9_bad_21 : decode cX9_bad 21 = .ok (.aload_n 0, 1) := by decide +kernel
theorem dX9_bad_22 : decode cX9_bad 22 = .ok (.getfield 140, 3) := by decide +kernel
theorem dX9_bad_25 : decode cX9_bad 25 = .ok (.if_icmp .ge 32, 3) := by decide +kernel
theorem dX9_bad_28 : decode cX9_bad 28 = .ok (.aload_n 0, 1) := by decide +kernel
theorem dX9_bad_29 : decode cX9_bad 29 = .ok (.getfield 127, 3) := by decide +kernel
theorem dX9_bad_32 : decode cX9_bad 32 = .ok (.ifCond .eq 25, 3) := by decide +kernel
theorem dX9_bad_35 : decode cX9_bad 35 = .ok (.iload_n 1, 1) := by decide +kernel
theorem dX9_bad_36 : decode cX9_bad 36 = .ok (.aload_n 0, 1) := by decide +kernel
theorem dX9_bad_37 : decode cX9_bad 37 = .ok (.iload_n 2, 1) := by decide +kernel
theorem dX9_bad_38 : decode cX9_bad 38 = .ok (.invokevirtual 244, 3) := by decide +kernel
theorem dX9_bad_41 : decode cX9_bad 41 = .ok (.ifCond .eq 7, 3) := by decide +kernel
theorem dX9_bad_44 : decode cX9_bad 44 = .ok (.iconst 1, 1) := by decide +kernel
theorem dX9_bad_45 : decode cX9_bad 45 = .ok (.goto 4, 3) := by decide +kernel
theorem dX9_bad_48 : decode cX9_bad 48 = .ok (.iconst 0, 1) := by decide +kernel
theorem dX9_bad_49 : decode cX9_bad 49 = .ok (.iadd, 1) := by decide +kernel
theorem dX9_bad_50 : decode cX9_bad 50 = .ok (.istore_n 1, 1) := by decide +kernel
theorem dX9_bad_51 : decode cX9_bad 51 = .ok (.iinc 2 1, 3) := by decide +kernel
theorem dX9_bad_54 : decode cX9_bad 54 = .ok (.goto (-34), 3) := by decide +kernel
theorem dX9_bad_57 : decode cX9_bad 57 = .ok (.iload_n 1, 1) := by decide +kernel
theorem dX9_bad_58 : decode cX9_bad 58 = .ok (.ireturn, 1) := by decide +kernel
def X9_bad_b49 (k20 : Nat → Int32 → Int32 → M Int32)  (a0 : Nat) (i2 : Int32) (s0 : Int32) (s1 : Int32) : M Int32 := bd (pu (s1 + s0)) (fun x1 => k20 a0 x1 (i2 + 1))
def X9_bad_b20b  (k20 : Nat → Int32 → Int32 → M Int32) (a0 : Nat) (i1 : Int32) (i2 : Int32) : M Int32 := bd (gI 12 33 a0) (fun x1 => it (x1 ≤ i2) (pu i1) (bd (gI 12 23 a0) (fun x2 => it (x2 = 0) (pu i1) (bd (ck 12 a0) (fun _ => bd (X9_isBad a0 i2) (fun x3 => it (x3 = 0) (X9_bad_b49 k20  a0 i2 0 i1) (X9_bad_b49 k20  a0 i2 1 i1)))))))
def X9_bad_b20  : Nat → Nat → Int32 → Int32 → M Int32
  | 0 => fun _ _ _ => fl
  | n + 1 => fun a0 i1 i2 => X9_bad_b20b  (X9_bad_b20  n) a0 i1 i2
def X9_bad_b13   (a0 : Nat) (s0 : Int32) (s1 : Nat) : M Int32 := bd (pV 12 0 s1 (.int s0)) (fun _ => X9_bad_b20  FU a0 0 0)
def X9_bad (a0 : Nat) : M Int32 := bd (gI 12 23 a0) (fun x1 => it (x1 = 0) (X9_bad_b13   a0 1 a0) (X9_bad_b13   a0 0 a0))
section
variable {G : Gx} {p : Program} {l : Launch} {e : Env} {R : Room} {s : State} {m : MethodId} {args : Array Value} {below : List Frame} {meth : Method} {c : Code} {h0 : Hp} {r : Int32} {h' : Hp}
set_option maxRecDepth 20000 in
theorem X9_bad_b49_s (C : Cx G p R s m args meth c cX9_bad 3 yX9_bad.cls h0 h') (hF : R.frames = 4) (hO : R.locals = 95) (hr : meth.sig.returnType = (some .int)) (hm : meth.name = yX9_bad.name) {k20 : Nat → Int32 → Int32 → M Int32} (hk20 : ∀ (a0 : Nat) (i1 : Int32) (i2 : Int32), Sm G (QM G rvI below args s h0 r h') p l e R s m args below meth c 3 h0 r h' 20 [(0, .ref a0), (1, .int i1), (2, .int i2)] [] (k20 a0 i1 i2))  (a0 : Nat) (i2 : Int32) (s0 : Int32) (s1 : Int32) : Sm G (QM G rvI below args s h0 r h') p l e R s m args below meth c 3 h0 r h' 49 [(0, .ref a0), (2, .int i2)] [.int s0, .int s1] (X9_bad_b49 k20  a0 i2 s0 s1) := by
  refine s_iadd C dX9_bad_49 ?_
  refine s_let (fun x1 => ?_)
  refine s_istore_n (lv' := [(1, .int x1), (0, .ref a0), (2, .int i2)]) C dX9_bad_50 rfl (by decide) rfl ?_
  refine s_iincK (lv' := [(2, .int (i2 + 1)), (1, .int x1), (0, .ref a0)]) (w := 1) C 2 dX9_bad_51 rfl (by decide) (by decide) rfl ?_
  refine s_goto (tgt := 20) C dX9_bad_54 (by decide) ?_
  refine s_sub [2, 1, 0] rfl ?_
  exact hk20 a0 x1 (i2 + 1)
set_option maxRecDepth 20000 in
theorem X9_bad_b20b_s (C : Cx G p R s m args meth c cX9_bad 3 yX9_bad.cls h0 h') (hF : R.frames = 4) (hO : R.locals = 95) (hr : meth.sig.returnType = (some .int)) (hm : meth.name = yX9_bad.name)  {k20 : Nat → Int32 → Int32 → M Int32} (hk20 : ∀ (a0 : Nat) (i1 : Int32) (i2 : Int32), Sm G (QM G rvI below args s h0 r h') p l e R s m args below meth c 3 h0 r h' 20 [(0, .ref a0), (1, .int i1), (2, .int i2)] [] (k20 a0 i1 i2)) (a0 : Nat) (i1 : Int32) (i2 : Int32) : Sm G (QM G rvI below args s h0 r h') p l e R s m args below meth c 3 h0 r h' 20 [(0, .ref a0), (1, .int i1), (2, .int i2)] [] (X9_bad_b20b  k20 a0 i1 i2) := by
  refine s_iload_n C 2 dX9_bad_20 rfl rfl ?_
  refine s_aload_n C 0 dX9_bad_21 rfl rfl ?_
  refine s_gI C ci12 33 (by decide) (Or.inl wd_6_148) dX9_bad_22 (fun x1 => ?_)
  refine s_icmp_ge (tgt := 57) C dX9_bad_25 (by decide) ?_ ?_
  · refine s_iload_n C 1 dX9_bad_57 rfl rfl ?_
    exact s_iret C hr rfl dX9_bad_58
  refine s_aload_n C 0 dX9_bad_28 rfl rfl ?_
  refine s_gI C ci12 23 (by decide) (Or.inl wd_6_138) dX9_bad_29 (fun x2 => ?_)
  refine s_if_eq (tgt := 57) C dX9_bad_32 (by decide) ?_ ?_
  · refine s_iload_n C 1 dX9_bad_57 rfl rfl ?_
    exact s_iret C hr rfl dX9_bad_58
  refine s_iload_n C 1 dX9_bad_35 rfl rfl ?_
  refine s_aload_n C 0 dX9_bad_36 rfl rfl ?_
  refine s_iload_n C 2 dX9_bad_37 rfl rfl ?_
  refine s_invV_i C ci12 cy_X9_isBad (Or.inl wd_7_131) rfl wd_7_133 wp_45 (con_X9_isBad l G a0 i2) rfl rfl (Nat.le_of_ble_eq_true rfl) (by rw [hF]; decide) (by rw [hO]; exact Nat.le_of_ble_eq_true rfl) dX9_bad_38 (fun x3 => ?_)
  refine s_if_eq (tgt := 48) C dX9_bad_41 (by decide) ?_ ?_
  · refine s_iconst (v := 0) C dX9_bad_48 (by decide) ?_
    refine s_sub [0, 2] rfl ?_
    exact X9_bad_b49_s C hF hO hr hm hk20  a0 i2 0 i1
  refine s_iconst (v := 1) C dX9_bad_44 (by decide) ?_
  refine s_goto (tgt := 49) C dX9_bad_45 (by decide) ?_
  refine s_sub [0, 2] rfl ?_
  exact X9_bad_b49_s C hF hO hr hm hk20  a0 i2 1 i1
set_option maxRecDepth 20000 in
theorem X9_bad_b20_s (C : Cx G p R s m args meth c cX9_bad 3 yX9_bad.cls h0 h') (hF : R.frames = 4) (hO : R.locals = 95) (hr : meth.sig.returnType = (some .int)) (hm : meth.name = yX9_bad.name)  (n : Nat) : ∀ (a0 : Nat) (i1 : Int32) (i2 : Int32), Sm G (QM G rvI below args s h0 r h') p l e R s m args below meth c 3 h0 r h' 20 [(0, .ref a0), (1, .int i1), (2, .int i2)] [] (X9_bad_b20  n a0 i1 i2) := by
  induction n with
  | zero => intro a0 i1 i2; exact s_fl
  | succ n ih => intro a0 i1 i2; exact X9_bad_b20b_s C hF hO hr hm  ih a0 i1 i2
set_option maxRecDepth 20000 in
theorem X9_bad_b13_s (C : Cx G p R s m args meth c cX9_bad 3 yX9_bad.cls h0 h') (hF : R.frames = 4) (hO : R.locals = 95) (hr : meth.sig.returnType = (some .int)) (hm : meth.name = yX9_bad.name)   (a0 : Nat) (s0 : Int32) (s1 : Nat) : Sm G (QM G rvI below args s h0 r h') p l e R s m args below meth c 3 h0 r h' 13 [(0, .ref a0)] [.int s0, .ref s1] (X9_bad_b13   a0 s0 s1) := by
  refine s_pV C ci12 0 (by decide) rfl (Or.inl wd_6_115) dX9_bad_13 rfl rfl ?_
  refine s_iconst (v := 0) C dX9_bad_16 (by decide) ?_
  refine s_istore_n (lv' := [(1, .int 0), (0, .ref a0)]) C dX9_bad_17 rfl (by decide) rfl ?_
  refine s_iconst (v := 0) C dX9_bad_18 (by decide) ?_
  refine s_istore_n (lv' := [(2, .int 0), (1, .int 0), (0, .ref a0)]) C dX9_bad_19 rfl (by decide) rfl ?_
  refine s_sub [2, 1, 0] rfl ?_
  exact X9_bad_b20_s C hF hO hr hm  FU a0 0 0
end
set_option maxRecDepth 20000 in
theorem con_X9_bad (l : Launch) (G : Gx) (a0 : Nat) : Con G rvI l yX9_bad cX9_bad 3 (some .int) 4 95 [.ref a0] (X9_bad a0) := by
  refine con_of (lv := [(0, .ref a0)]) (by decide) (Nat.le_of_ble_eq_true rfl) rfl (fun p e R s m args below meth c h0 r h' C hF hO hr hm => ?_)
  refine s_aload_n C 0 dX9_bad_0 rfl rfl ?_
  refine s_aload_n C 0 dX9_bad_1 rfl rfl ?_
  refine s_gI C ci12 23 (by decide) (Or.inl wd_6_138) dX9_bad_2 (fun x1 => ?_)
  refine s_if_eq (tgt := 12) C dX9_bad_5 (by decide) ?_ ?_
  · refine s_iconst (v := 1) C dX9_bad_12 (by decide) ?_
    exact X9_bad_b13_s C hF hO hr hm   a0 1 a0
  refine s_iconst (v := 0) C dX9_bad_8 (by decide) ?_
  refine s_goto (tgt := 13) C dX9_bad_9 (by decide) ?_
  exact X9_bad_b13_s C hF hO hr hm   a0 0 a0

theorem dX9_liveBytes_0 : decode cX9_liveBytes 0 = .ok (.iconst 0, 1) := by decide +kernel
theorem dX9_liveBytes_1 : decode cX9_liveBytes 1 = .ok (.istore_n 1, 1) := by decide +kernel
theorem dX9_liveBytes_2 : decode cX9_liveBytes 2 = .ok (.iconst 0, 1) := by decide +kernel
theorem dX9_liveBytes_3 : decode cX9_liveBytes 3 = .ok (.istore_n 2, 1) := by decide +kernel
theorem dX9_liveBytes_4 : decode cX9_liveBytes 4 = .ok (.iload_n 2, 1) := by decide +kernel
theorem dX9_liveBytes_5 : decode cX9_liveBytes 5 = .ok (.aload_n 0, 1) := by decide +kernel
theorem dX9_liveBytes_6 : decode cX9_liveBytes 6 = .ok (.getfield 140, 3) := by decide +kernel
theorem dX9_liveBytes_9 : decode cX9_liveBytes 9 = .ok (.if_icmp .ge 17, 3) := by decide +kernel
theorem dX9_liveBytes_12 : decode cX9_liveBytes 12 = .ok (.iload_n 1, 1) := by decide +kernel
theorem dX9_liveBytes_13 : decode cX9_liveBytes 13 = .ok (.aload_n 0, 1) := by decide +kernel
theorem dX9_liveBytes_14 : decode cX9_liveBytes 14 = .ok (.iload_n 2, 1) := by decide +kernel
theorem dX9_liveBytes_15 : decode cX9_liveBytes 15 = .ok (.invokevirtual 191, 3) := by decide +kernel
theorem dX9_liveBytes_18 : decode cX9_liveBytes 18 = .ok (.iadd, 1) := by decide +kernel
theorem dX9_liveBytes_19 : decode cX9_liveBytes 19 = .ok (.istore_n 1, 1) := by decide +kernel
theorem dX9_liveBytes_20 : decode cX9_liveBytes 20 = .ok (.iinc 2 1, 3) := by decide +kernel
theorem dX9_liveBytes_23 : decode cX9_liveBytes 23 = .ok (.goto (-19), 3) := by decide +kernel
theorem dX9_liveBytes_26 : decode cX9_liveBytes 26 = .ok (.iload_n 1, 1) := by decide +kernel
theorem dX9_liveBytes_27 : decode cX9_liveBytes 27 = .ok (.ireturn, 1) := by decide +kernel
def X9_liveBytes_b4b  (k4 : Nat → Int32 → Int32 → M Int32) (a0 : Nat) (i1 : Int32) (i2 : Int32) : M Int32 := bd (gI 12 33 a0) (fun x1 => it (x1 ≤ i2) (pu i1) (bd (ck 12 a0) (fun _ => bd (X9_recordBytes a0 i2) (fun x2 => bd (pu (i1 + x2)) (fun x3 => k4 a0 x3 (i2 + 1))))))
def X9_liveBytes_b4  : Nat → Nat → Int32 → Int32 → M Int32
  | 0 => fun _ _ _ => fl
  | n + 1 => fun a0 i1 i2 => X9_liveBytes_b4b  (X9_liveBytes_b4  n) a0 i1 i2
def X9_liveBytes (a0 : Nat) : M Int32 := X9_liveBytes_b4  FU a0 0 0
section
variable {G : Gx} {p : Program} {l : Launch} {e : Env} {R : Room} {s : State} {m : MethodId} {args : Array Value} {below : List Frame} {meth : Method} {c : Code} {h0 : Hp} {r : Int32} {h' : Hp}
set_option maxRecDepth 20000 in
theorem X9_liveBytes_b4b_s (C : Cx G p R s m args meth c cX9_liveBytes 3 yX9_liveBytes.cls h0 h') (hF : R.frames = 3) (hO : R.locals = 72) (hr : meth.sig.returnType = (some .int)) (hm : meth.name = yX9_liveBytes.name)  {k4 : Nat → Int32 → Int32 → M Int32} (hk4 : ∀ (a0 : Nat) (i1 : Int32) (i2 : Int32), Sm G (QM G rvI below args s h0 r h') p l e R s m args below meth c 3 h0 r h' 4 [(0, .ref a0), (1, .int i1), (2, .int i2)] [] (k4 a0 i1 i2)) (a0 : Nat) (i1 : Int32) (i2 : Int32) : Sm G (QM G rvI below args s h0 r h') p l e R s m args below meth c 3 h0 r h' 4 [(0, .ref a0), (1, .int i1), (2, .int i2)] [] (X9_liveBytes_b4b  k4 a0 i1 i2) := by
  refine s_iload_n C 2 dX9_liveBytes_4 rfl rfl ?_
  refine s_aload_n C 0 dX9_liveBytes_5 rfl rfl ?_
  refine s_gI C ci12 33 (by decide) (Or.inl wd_6_148) dX9_liveBytes_6 (fun x1 => ?_)
  refine s_icmp_ge (tgt := 26) C dX9_liveBytes_9 (by decide) ?_ ?_
  · refine s_iload_n C 1 dX9_liveBytes_26 rfl rfl ?_
    exact s_iret C hr rfl dX9_liveBytes_27
  refine s_iload_n C 1 dX9_liveBytes_12 rfl rfl ?_
  refine s_aload_n C 0 dX9_liveBytes_13 rfl rfl ?_
  refine s_iload_n C 2 dX9_liveBytes_14 rfl rfl ?_
  refine s_invV_i C ci12 cy_X9_recordBytes (Or.inl wd_7_139) rfl wd_7_141 wp_47 (con_X9_recordBytes l G a0 i2) rfl rfl (Nat.le_of_ble_eq_true rfl) (by rw [hF]; decide) (by rw [hO]; exact Nat.le_of_ble_eq_true rfl) dX9_liveBytes_15 (fun x2 => ?_)
  refine s_iadd C dX9_liveBytes_18 ?_
  refine s_let (fun x3 => ?_)
  refine s_istore_n (lv' := [(1, .int x3), (0, .ref a0), (2, .int i2)]) C dX9_liveBytes_19 rfl (by decide) rfl ?_
  refine s_iincK (lv' := [(2, .int (i2 + 1)), (1, .int x3), (0, .ref a0)]) (w := 1) C 2 dX9_liveBytes_20 rfl (by decide) (by decide) rfl ?_
  refine s_goto (tgt := 4) C dX9_liveBytes_23 (by decide) ?_
  refine s_sub [2, 1, 0] rfl ?_
  exact hk4 a0 x3 (i2 + 1)
set_option maxRecDepth 20000 in
theorem X9_liveBytes_b4_s (C : Cx G p R s m args meth c cX9_liveBytes 3 yX9_liveBytes.cls h0 h') (hF : R.frames = 3) (hO : R.locals = 72) (hr : meth.sig.returnType = (some .int)) (hm : meth.name = yX9_liveBytes.name)  (n : Nat) : ∀ (a0 : Nat) (i1 : Int32) (i2 : Int32), Sm G (QM G rvI below args s h0 r h') p l e R s m args below meth c 3 h0 r h' 4 [(0, .ref a0), (1, .int i1), (2, .int i2)] [] (X9_liveBytes_b4  n a0 i1 i2) := by
  induction n with
  | zero => intro a0 i1 i2; exact s_fl
  | succ n ih => intro a0 i1 i2; exact X9_liveBytes_b4b_s C hF hO hr hm  ih a0 i1 i2
end
set_option maxRecDepth 20000 in
theorem con_X9_liveBytes (l : Launch) (G : Gx) (a0 : Nat) : Con G rvI l yX9_liveBytes cX9_liveBytes 3 (some .int) 3 72 [.ref a0] (X9_liveBytes a0) := by
  refine con_of (lv := [(0, .ref a0)]) (by decide) (Nat.le_of_ble_eq_true rfl) rfl (fun p e R s m args below meth c h0 r h' C hF hO hr hm => ?_)
  refine s_iconst (v := 0) C dX9_liveBytes_0 (by decide) ?_
  refine s_istore_n (lv' := [(1, .int 0), (0, .ref a0)]) C dX9_liveBytes_1 rfl (by decide) rfl ?_
  refine s_iconst (v := 0) C dX9_liveBytes_2 (by decide) ?_
  refine s_istore_n (lv' := [(2, .int 0), (1, .int 0), (0, .ref a0)]) C dX9_liveBytes_3 rfl (by decide) rfl ?_
  refine s_sub [2, 1, 0] rfl ?_
  exact X9_liveBytes_b4_s C hF hO hr hm  FU a0 0 0

theorem dX9_dataBytes_0 : decode cX9_dataBytes 0 = .ok (.iconst 0, 1) := by decide +kernel
theorem dX9_dataBytes_1 : decode cX9_dataBytes 1 = .ok (.istore_n 1, 1) := by decide +kernel
theorem dX9_dataBytes_2 : decode cX9_dataBytes 2 = .ok (.iconst 0, 1) := by decide +kernel
theorem dX9_dataBytes_3 : decode cX9_dataBytes 3 = .ok (.istore_n 2, 1) := by decide +kernel
theorem dX9_dataBytes_4 : decode cX9_dataBytes 4 = .ok (.iload_n 2, 1) := by decide +kernel
theorem dX9_dataBytes_5 : decode cX9_dataBytes 5 = .ok (.aload_n 0, 1) := by decide +kernel
theorem dX9_dataBytes_6 : decode cX9_dataBytes 6 = .ok (.getfield 106, 3) := by decide +kernel
theorem dX9_dataBytes_9 : decode cX9_dataBytes 9 = .ok (.if_icmp .ge 31, 3) := by decide +kernel
theorem dX9_dataBytes_12 : decode cX9_dataBytes 12 = .ok (.iload_n 1, 1) := by decide +kernel
theorem dX9_dataBytes_13 : decode cX9_dataBytes 13 = .ok (.aload_n 0, 1) := by decide +kernel
theorem dX9_dataBytes_14 : decode cX9_dataBytes 14 = .ok (.getfield 17, 3) := by decide +kernel
theorem dX9_dataBytes_17 : decode cX9_dataBytes 17 = .ok (.iload_n 2, 1) := by decide +kernel
theorem dX9_dataBytes_18 : decode cX9_dataBytes 18 = .ok (.iaload, 1) := by decide +kernel
theorem dX9_dataBytes_19 : decode cX9_dataBytes 19 = .ok (.ifCond .ne 12, 3) := by decide +kernel
theorem dX9_dataBytes_22 : decode cX9_dataBytes 22 = .ok (.aload_n 0, 1) := by decide +kernel
theorem dX9_dataBytes_23 : decode cX9_dataBytes 23 = .ok (.getfield 20, 3) := by decide +kernel
theorem dX9_dataBytes_26 : decode cX9_dataBytes 26 = .ok (.iload_n 2, 1) := by decide +kernel
theorem dX9_dataBytes_27 : decode cX9_dataBytes 27 = .ok (.iaload, 1) := by decide +kernel
theorem dX9_dataBytes_28 : decode cX9_dataBytes 28 = .ok (.goto 4, 3) := by decide +kernel
theorem dX9_dataBytes_31 : decode cX9_dataBytes 31 = .ok (.iconst 0, 1) := by decide +kernel
theorem dX9_dataBytes_32 : decode cX9_dataBytes 32 = .ok (.iadd, 1) := by decide +kernel
theorem dX9_dataBytes_33 : decode cX9_dataBytes 33 = .ok (.istore_n 1, 1) := by decide +kernel
theorem dX9_dataBytes_34 : decode cX9_dataBytes 34 = .ok (.iinc 2 1, 3) := by decide +kernel
theorem dX9_dataBytes_37 : decode cX9_dataBytes 37 = .ok (.goto (-33), 3) := by decide +kernel
theorem dX9_dataBytes_40 : decode cX9_dataBytes 40 = .ok (.iload_n 1, 1) := by decide +kernel
theorem dX9_dataBytes_41 : decode cX9_dataBytes 41 = .ok (.ireturn, 1) := by decide +kernel
def X9_dataBytes_b32 (k4 : Nat → Int32 → Int32 → M Int32)  (a0 : Nat) (i2 : Int32) (s0 : Int32) (s1 : Int32) : M Int32 := bd (pu (s1 + s0)) (fun x1 => k4 a0 x1 (i2 + 1))
def X9_dataBytes_b4b  (k4 : Nat → Int32 → Int32 → M Int32) (a0 : Nat) (i1 : Int32) (i2 : Int32) : M Int32 := bd (gI 12 8 a0) (fun x1 => it (x1 ≤ i2) (pu i1) (bd (gR 12 6 a0) (fun y2 => bd (al 22 y2 i2) (fun x3 => it (¬ x3 = 0) (X9_dataBytes_b32 k4  a0 i2 0 i1) (bd (gR 12 7 a0) (fun y4 => bd (al 22 y4 i2) (fun x5 => X9_dataBytes_b32 k4  a0 i2 x5 i1)))))))
def X9_dataBytes_b4  : Nat → Nat → Int32 → Int32 → M Int32
  | 0 => fun _ _ _ => fl
  | n + 1 => fun a0 i1 i2 => X9_dataBytes_b4b  (X9_dataBytes_b4  n) a0 i1 i2
def X9_dataBytes (a0 : Nat) : M Int32 := X9_dataBytes_b4  FU a0 0 0
section
variable {G : Gx} {p : Program} {l : Launch} {e : Env} {R : Room} {s : State} {m : MethodId} {args : Array Value} {below : List Frame} {meth : Method} {c : Code} {h0 : Hp} {r : Int32} {h' : Hp}
set_option maxRecDepth 20000 in
theorem X9_dataBytes_b32_s (C : Cx G p R s m args meth c cX9_dataBytes 3 yX9_dataBytes.cls h0 h') (hF : R.frames = 0) (hO : R.locals = 0) (hr : meth.sig.returnType = (some .int)) (hm : meth.name = yX9_dataBytes.name) {k4 : Nat → Int32 → Int32 → M Int32} (hk4 : ∀ (a0 : Nat) (i1 : Int32) (i2 : Int32), Sm G (QM G rvI below args s h0 r h') p l e R s m args below meth c 3 h0 r h' 4 [(0, .ref a0), (1, .int i1), (2, .int i2)] [] (k4 a0 i1 i2))  (a0 : Nat) (i2 : Int32) (s0 : Int32) (s1 : Int32) : Sm G (QM G rvI below args s h0 r h') p l e R s m args below meth c 3 h0 r h' 32 [(0, .ref a0), (2, .int i2)] [.int s0, .int s1] (X9_dataBytes_b32 k4  a0 i2 s0 s1) := by
  refine s_iadd C dX9_dataBytes_32 ?_
  refine s_let (fun x1 => ?_)
  refine s_istore_n (lv' := [(1, .int x1), (0, .ref a0), (2, .int i2)]) C dX9_dataBytes_33 rfl (by decide) rfl ?_
  refine s_iincK (lv' := [(2, .int (i2 + 1)), (1, .int x1), (0, .ref a0)]) (w := 1) C 2 dX9_dataBytes_34 rfl (by decide) (by decide) rfl ?_
  refine s_goto (tgt := 4) C dX9_dataBytes_37 (by decide) ?_
  refine s_sub [2, 1, 0] rfl ?_
  exact hk4 a0 x1 (i2 + 1)
set_option maxRecDepth 20000 in
theorem X9_dataBytes_b4b_s (C : Cx G p R s m args meth c cX9_dataBytes 3 yX9_dataBytes.cls h0 h') (hF : R.frames = 0) (hO : R.locals = 0) (hr : meth.sig.returnType = (some .int)) (hm : meth.name = yX9_dataBytes.name)  {k4 : Nat → Int32 → Int32 → M Int32} (hk4 : ∀ (a0 : Nat) (i1 : Int32) (i2 : Int32), Sm G (QM G rvI below args s h0 r h') p l e R s m args below meth c 3 h0 r h' 4 [(0, .ref a0), (1, .int i1), (2, .int i2)] [] (k4 a0 i1 i2)) (a0 : Nat) (i1 : Int32) (i2 : Int32) : Sm G (QM G rvI below args s h0 r h') p l e R s m args below meth c 3 h0 r h' 4 [(0, .ref a0), (1, .int i1), (2, .int i2)] [] (X9_dataBytes_b4b  k4 a0 i1 i2) := by
  refine s_iload_n C 2 dX9_dataBytes_4 rfl rfl ?_
  refine s_aload_n C 0 dX9_dataBytes_5 rfl rfl ?_
  refine s_gI C ci12 8 (by decide) (Or.inl wd_6_123) dX9_dataBytes_6 (fun x1 => ?_)
  refine s_icmp_ge (tgt := 40) C dX9_dataBytes_9 (by decide) ?_ ?_
  · refine s_iload_n C 1 dX9_dataBytes_40 rfl rfl ?_
    exact s_iret C hr rfl dX9_dataBytes_41
  refine s_iload_n C 1 dX9_dataBytes_12 rfl rfl ?_
  refine s_aload_n C 0 dX9_dataBytes_13 rfl rfl ?_
  refine s_gR C ci12 6 (by decide) (Or.inl wd_6_121) dX9_dataBytes_14 (fun y2 => ?_)
  refine s_iload_n C 2 dX9_dataBytes_17 rfl rfl ?_
  refine s_al22 C dX9_dataBytes_18 (fun x3 => ?_)
  refine s_if_ne (tgt := 31) C dX9_dataBytes_19 (by decide) ?_ ?_
  · refine s_iconst (v := 0) C dX9_dataBytes_31 (by decide) ?_
    refine s_sub [0, 2] rfl ?_
    exact X9_dataBytes_b32_s C hF hO hr hm hk4  a0 i2 0 i1
  refine s_aload_n C 0 dX9_dataBytes_22 rfl rfl ?_
  refine s_gR C ci12 7 (by decide) (Or.inl wd_6_122) dX9_dataBytes_23 (fun y4 => ?_)
  refine s_iload_n C 2 dX9_dataBytes_26 rfl rfl ?_
  refine s_al22 C dX9_dataBytes_27 (fun x5 => ?_)
  refine s_goto (tgt := 32) C dX9_dataBytes_28 (by decide) ?_
  refine s_sub [0, 2] rfl ?_
  exact X9_dataBytes_b32_s C hF hO hr hm hk4  a0 i2 x5 i1
set_option maxRecDepth 20000 in
theorem X9_dataBytes_b4_s (C : Cx G p R s m args meth c cX9_dataBytes 3 yX9_dataBytes.cls h0 h') (hF : R.frames = 0) (hO : R.locals = 0) (hr : meth.sig.returnType = (some .int)) (hm : meth.name = yX9_dataBytes.name)  (n : Nat) : ∀ (a0 : Nat) (i1 : Int32) (i2 : Int32), Sm G (QM G rvI below args s h0 r h') p l e R s m args below meth c 3 h0 r h' 4 [(0, .ref a0), (1, .int i1), (2, .int i2)] [] (X9_dataBytes_b4  n a0 i1 i2) := by
  induction n with
  | zero => intro a0 i1 i2; exact s_fl
  | succ n ih => intro a0 i1 i2; exact X9_dataBytes_b4b_s C hF hO hr hm  ih a0 i1 i2
end
set_option maxRecDepth 20000 in
theorem con_X9_dataBytes (l : Launch) (G : Gx) (a0 : Nat) : Con G rvI l yX9_dataBytes cX9_dataBytes 3 (some .int) 0 0 [.ref a0] (X9_dataBytes a0) := by
  refine con_of (lv := [(0, .ref a0)]) (by decide) (Nat.le_of_ble_eq_true rfl) rfl (fun p e R s m args below meth c h0 r h' C hF hO hr hm => ?_)
  refine s_iconst (v := 0) C dX9_dataBytes_0 (by decide) ?_
  refine s_istore_n (lv' := [(1, .int 0), (0, .ref a0)]) C dX9_dataBytes_1 rfl (by decide) rfl ?_
  refine s_iconst (v := 0) C dX9_dataBytes_2 (by decide) ?_
  refine s_istore_n (lv' := [(2, .int 0), (1, .int 0), (0, .ref a0)]) C dX9_dataBytes_3 rfl (by decide) rfl ?_
  refine s_sub [2, 1, 0] rfl ?_
  exact X9_dataBytes_b4_s C hF hO hr hm  FU a0 0 0

theorem dX9_look_0 : decode cX9_look 0 = .ok (.aload_n 0, 1) := by decide +kernel
theorem dX9_look_1 : decode cX9_look 1 = .ok (.iconst 0, 1) := by decide +kernel
theorem dX9_look_2 : decode cX9_look 2 = .ok (.putfield 93, 3) := by decide +kernel
theorem dX9_look_5 : decode cX9_look 5 = .ok (.iload_n 1, 1) := by decide +kernel
theorem dX9_look_6 : decode cX9_look 6 = .ok (.bipush 10, 2) := by decide +kernel
theorem dX9_look_8 : decode cX9_look 8 = .ok (.if_icmp .le 12, 3) := by decide +kernel
theorem dX9_look_11 : decode cX9_look 11 = .ok (.aload_n 0, 1) := by decide +kernel
theorem dX9_look_12 : decode cX9_look 12 = .ok (.getfield 127, 3) := by decide +kernel
theorem dX9_look_15 : decode cX9_look 15 = .ok (.ifCond .ne 5, 3) := by decide +kernel
theorem dX9_look_18 : decode cX9_look 18 = .ok (.iconst (-1), 1) := by decide +kernel
theorem dX9_look_19 : decode cX9_look 19 = .ok (.ireturn, 1) := by decide +kernel
theorem dX9_look_20 : decode cX9_look 20 = .ok (.iload_n 1, 1) := by decide +kernel
theorem dX9_look_21 : decode cX9_look 21 = .ok (.tableswitch 220 0 19 #[95, 108, 113, 118, 123, 128, 133, 138, 143, 148, 153, 158, 163, 168, 173, 178, 195, 200, 205, 210], 95) := by decide +kernel
theorem dX9_look_116 : decode cX9_look 116 = .ok (.aload_n 0, 1) := by decide +kernel
theorem dX9_look_117 : decode cX9_look 117 = .ok (.getfield 127, 3) := by decide +kernel
theorem dX9_look_120 : decode cX9_look 120 = .ok (.ifCond .eq 7, 3) := by decide +kernel
theorem dX9_look_123 : decode cX9_look 123 = .ok (.iconst 1, 1) := by decide +kernel
theorem dX9_look_124 : decode cX9_look 124 = .ok (.goto 4, 3) := by decide +kernel
theorem dX9_look_127 : decode cX9_look 127 = .ok (.iconst 0, 1) := by decide +kernel
theorem dX9_look_128 : decode cX9_look 128 = .ok (.ireturn, 1) := by decide +kernel
theorem dX9_look_129 : decode cX9_look 129 = .ok (.aload_n 0, 1) := by decide +kernel
theorem dX9_look_130 : decode cX9_look 130 = .ok (.getfield 97, 3) := by decide +kernel
theorem dX9_look_133 : decode cX9_look 133 = .ok (.ireturn, 1) := by decide +kernel
theorem dX9_look_134 : decode cX9_look 134 = .ok (.aload_n 0, 1) := by decide +kernel
theorem dX9_look_135 : decode cX9_look 135 = .ok (.getfield 100, 3) := by decide +kernel
theorem dX9_look_138 : decode cX9_look 138 = .ok (.ireturn, 1) := by decide +kernel
theorem dX9_look_139 : decode cX9_look 139 = .ok (.aload_n 0, 1) := by decide +kernel
theorem dX9_look_140 : decode cX9_look 140 = .ok (.getfield 106, 3) := by decide +kernel
theorem dX9_look_143 : decode cX9_look 143 = .ok (.ireturn, 1) := by decide +kernel
theorem dX9_look_144 : decode cX9_look 144 = .ok (.aload_n 0, 1) := by decide +kernel
theorem dX9_look_145 : decode cX9_look 145 = .ok (.invokevirtual 213, 3) := by decide +kernel
theorem dX9_look_148 : decode cX9_look 148 = .ok (.ireturn, 1) := by decide +kernel
theorem dX9_look_149 : decode cX9_look 149 = .ok (.aload_n 0, 1) := by decide +kernel
theorem dX9_look_150 : decode cX9_look 150 = .ok (.invokevirtual 247, 3) := by decide +kernel
theorem dX9_look_153 : decode cX9_look 153 = .ok (.ireturn, 1) := by decide +kernel
theorem dX9_look_154 : decode cX9_look 154 = .ok (.aload_n 0, 1) := by decide +kernel
theorem dX9_look_155 : decode cX9_look 155 = .ok (.getfield 204, 3) := by decide +kernel
theorem dX9_look_158 : decode cX9_look 158 = .ok (.ireturn, 1) := by decide +kernel
theorem dX9_look_159 : decode cX9_look 159 = .ok (.aload_n 0, 1) := by decide +kernel
theorem dX9_look_160 : decode cX9_look 160 = .ok (.getfield 115, 3) := by decide +kernel
theorem dX9_look_163 : decode cX9_look 163 = .ok (.ireturn, 1) := by decide +kernel
theorem dX9_look_164 : decode cX9_look 164 = .ok (.aload_n 0, 1) := by decide +kernel
theorem dX9_look_165 : decode cX9_look 165 = .ok (.getfield 118, 3) := by decide +kernel
theorem dX9_look_168 : decode cX9_look 168 = .ok (.ireturn, 1) := by decide +kernel
theorem dX9_look_169 : decode cX9_look 169 = .ok (.aload_n 0, 1) := by decide +kernel
theorem dX9_look_170 : decode cX9_look 170 = .ok (.getfield 121, 3) := by decide +kernel
theorem dX9_look_173 : decode cX9_look 173 = .ok (.ireturn, 1) := by decide +kernel
theorem dX9_look_174 : decode cX9_look 174 = .ok (.aload_n 0, 1) := by decide +kernel
theorem dX9_look_175 : decode cX9_look 175 = .ok (.getfield 124, 3) := by decide +kernel
theorem dX9_look_178 : decode cX9_look 178 = .ok (.ireturn, 1) := by decide +kernel
theorem dX9_look_179 : decode cX9_look 179 = .ok (.aload_n 0, 1) := by decide +kernel
theorem dX9_look_180 : decode cX9_look 180 = .ok (.getfield 140, 3) := by decide +kernel
theorem dX9_look_183 : decode cX9_look 183 = .ok (.ireturn, 1) := by decide +kernel
theorem dX9_look_184 : decode cX9_look 184 = .ok (.aload_n 0, 1) := by decide +kernel
theorem dX9_look_185 : decode cX9_look 185 = .ok (.getfield 134, 3) := by decide +kernel
theorem dX9_look_188 : decode cX9_look 188 = .ok (.ireturn, 1) := by decide +kernel
theorem dX9_look_189 : decode cX9_look 189 = .ok (.aload_n 0, 1) := by decide +kernel
theorem dX9_look_190 : decode cX9_look 190 = .ok (.getfield 131, 3) := by decide +kernel
theorem dX9_look_193 : decode cX9_look 193 = .ok (.ireturn, 1) := by decide +kernel
theorem dX9_look_194 : decode cX9_look 194 = .ok (.aload_n 0, 1) := by decide +kernel
theorem dX9_look_195 : decode cX9_look 195 = .ok (.getfield 137, 3) := by decide +kernel
theorem dX9_look_198 : decode cX9_look 198 = .ok (.ireturn, 1) := by decide +kernel
theorem dX9_look_199 : decode cX9_look 199 = .ok (.aload_n 0, 1) := by decide +kernel
theorem dX9_look_200 : decode cX9_look 200 = .ok (.getfield 143, 3) := by decide +kernel
theorem dX9_look_203 : decode cX9_look 203 = .ok (.iconst 1, 1) := by decide +kernel
theorem dX9_look_204 : decode cX9_look 204 = .ok (.if_icmp .ne 10, 3) := by decide +kernel
theorem dX9_look_207 : decode cX9_look 207 = .ok (.aload_n 0, 1) := by decide +kernel
theorem dX9_look_208 : decode cX9_look 208 = .ok (.getfield 146, 3) := by decide +kernel
theorem dX9_look_211 : decode cX9_look 211 = .ok (.goto 4, 3) := by decide +kernel
theorem dX9_look_214 : decode cX9_look 214 = .ok (.iconst (-1), 1) := by decide +kernel
theorem dX9_look_215 : decode cX9_look 215 = .ok (.ireturn, 1) := by decide +kernel
theorem dX9_look_216 : decode cX9_look 216 = .ok (.aload_n 0, 1) := by decide +kernel
theorem dX9_look_217 : decode cX9_look 217 = .ok (.invokevirtual 319, 3) := by decide +kernel
theorem dX9_look_220 : decode cX9_look 220 = .ok (.ireturn, 1) := by decide +kernel
theorem dX9_look_221 : decode cX9_look 221 = .ok (.aload_n 0, 1) := by decide +kernel
theorem dX9_look_222 : decode cX9_look 222 = .ok (.invokevirtual 217, 3) := by decide +kernel
theorem dX9_look_225 : decode cX9_look 225 = .ok (.ireturn, 1) := by decide +kernel
theorem dX9_look_226 : decode cX9_look 226 = .ok (.aload_n 0, 1) := by decide +kernel
theorem dX9_look_227 : decode cX9_look 227 = .ok (.invokevirtual 340, 3) := by decide +kernel
theorem dX9_look_230 : decode cX9_look 230 = .ok (.ireturn, 1) := by decide +kernel
theorem dX9_look_231 : decode cX9_look 231 = .ok (.aload_n 0, 1) := by decide +kernel
theorem dX9_look_232 : decode cX9_look 232 = .ok (.invokevirtual 343, 3) := by decide +kernel
theorem dX9_look_235 : decode cX9_look 235 = .ok (.aload_n 0, 1) := by decide +kernel
theorem dX9_look_236 : decode cX9_look 236 = .ok (.invokevirtual 340, 3) := by decide +kernel
theorem dX9_look_239 : decode cX9_look 239 = .ok (.isub, 1) := by decide +kernel
theorem dX9_look_240 : decode cX9_look 240 = .ok (.ireturn, 1) := by decide +kernel
theorem dX9_look_241 : decode cX9_look 241 = .ok (.iconst (-1), 1) := by decide +kernel
theorem dX9_look_242 : decode cX9_look 242 = .ok (.ireturn, 1) := by decide +kernel
def X9_look_b20   (a0 : Nat) (i1 : Int32) : M Int32 := it (i1 = 0) (bd (gI 12 23 a0) (fun x1 => it (x1 = 0) (pu 0) (pu 1))) (it (i1 = 1) (bd (gI 12 1 a0) (fun x2 => pu x2)) (it (i1 = 2) (bd (gI 12 2 a0) (fun x3 => pu x3)) (it (i1 = 3) (bd (gI 12 8 a0) (fun x4 => pu x4)) (it (i1 = 4) (bd (ck 12 a0) (fun _ => bd (X9_room a0) (fun x5 => pu x5))) (it (i1 = 5) (bd (ck 12 a0) (fun _ => bd (X9_unsynced a0) (fun x6 => pu x6))) (it (i1 = 6) (bd (gI 12 16 a0) (fun x7 => pu x7)) (it (i1 = 7) (bd (gI 12 19 a0) (fun x8 => pu x8)) (it (i1 = 8) (bd (gI 12 20 a0) (fun x9 => pu x9)) (it (i1 = 9) (bd (gI 12 21 a0) (fun x10 => pu x10)) (it (i1 = 10) (bd (gI 12 22 a0) (fun x11 => pu x11)) (it (i1 = 11) (bd (gI 12 33 a0) (fun x12 => pu x12)) (it (i1 = 12) (bd (gI 12 25 a0) (fun x13 => pu x13)) (it (i1 = 13) (bd (gI 12 24 a0) (fun x14 => pu x14)) (it (i1 = 14) (bd (gI 12 26 a0) (fun x15 => pu x15)) (it (i1 = 15) (bd (gI 12 34 a0) (fun x16 => it (¬ x16 = 1) (pu (-1)) (bd (gI 12 35 a0) (fun x17 => pu x17)))) (it (i1 = 16) (bd (ck 12 a0) (fun _ => bd (X9_unitsLeft a0) (fun x18 => pu x18))) (it (i1 = 17) (bd (ck 12 a0) (fun _ => bd (X9_reserved a0) (fun x19 => pu x19))) (it (i1 = 18) (bd (ck 12 a0) (fun _ => bd (X9_liveBytes a0) (fun x20 => pu x20))) (it (i1 = 19) (bd (ck 12 a0) (fun _ => bd (X9_dataBytes a0) (fun x21 => bd (ck 12 a0) (fun _ => bd (X9_liveBytes a0) (fun x22 => pu (x21 - x22)))))) (pu (-1)))))))))))))))))))))
def X9_look (a0 : Nat) (i1 : Int32) : M Int32 := bd (pV 12 0 a0 (.int 0)) (fun _ => it (i1 ≤ 10) (X9_look_b20   a0 i1) (bd (gI 12 23 a0) (fun x1 => it (¬ x1 = 0) (X9_look_b20   a0 i1) (pu (-1)))))
section
variable {G : Gx} {p : Program} {l : Launch} {e : Env} {R : Room} {s : State} {m : MethodId} {args : Array Value} {below : List Frame} {meth : Method} {c : Code} {h0 : Hp} {r : Int32} {h' : Hp}
set_option maxRecDepth 20000 in
theorem X9_look_b20_s (C : Cx G p R s m args meth c cX9_look 2 yX9_look.cls h0 h') (hF : R.frames = 5) (hO : R.locals = 117) (hr : meth.sig.returnType = (some .int)) (hm : meth.name = yX9_look.name)   (a0 : Nat) (i1 : Int32) : Sm G (QM G rvI below args s h0 r h') p l e R s m args below meth c 2 h0 r h' 20 [(0, .ref a0), (1, .int i1)] [] (X9_look_b20   a0 i1) := by
  refine s_iload_n C 1 dX9_look_20 rfl rfl ?_
  refine s_tableIn (v := 0) (q := 0) (off := 95) (tgt := 116) C dX9_look_21 (by decide) (by decide) (by decide) (by decide) (by decide) ?_ (fun hx0 => ?_)
  · refine s_aload_n C 0 dX9_look_116 rfl rfl ?_
    refine s_gI C ci12 23 (by decide) (Or.inl wd_6_138) dX9_look_117 (fun x1 => ?_)
    refine s_if_eq (tgt := 127) C dX9_look_120 (by decide) ?_ ?_
    · refine s_iconst (v := 0) C dX9_look_127 (by decide) ?_
      exact s_iret C hr rfl dX9_look_128
    refine s_iconst (v := 1) C dX9_look_123 (by decide) ?_
    refine s_goto (tgt := 128) C dX9_look_124 (by decide) ?_
    exact s_iret C hr rfl dX9_look_128
  refine s_tableIn (v := 1) (q := 1) (off := 108) (tgt := 129) C dX9_look_21 (by decide) (by decide) (by decide) (by decide) (by decide) ?_ (fun hx1 => ?_)
  · refine s_aload_n C 0 dX9_look_129 rfl rfl ?_
    refine s_gI C ci12 1 (by decide) (Or.inl wd_6_116) dX9_look_130 (fun x2 => ?_)
    exact s_iret C hr rfl dX9_look_133
  refine s_tableIn (v := 2) (q := 2) (off := 113) (tgt := 134) C dX9_look_21 (by decide) (by decide) (by decide) (by decide) (by decide) ?_ (fun hx2 => ?_)
  · refine s_aload_n C 0 dX9_look_134 rfl rfl ?_
    refine s_gI C ci12 2 (by decide) (Or.inl wd_6_117) dX9_look_135 (fun x3 => ?_)
    exact s_iret C hr rfl dX9_look_138
  refine s_tableIn (v := 3) (q := 3) (off := 118) (tgt := 139) C dX9_look_21 (by decide) (by decide) (by decide) (by decide) (by decide) ?_ (fun hx3 => ?_)
  · refine s_aload_n C 0 dX9_look_139 rfl rfl ?_
    refine s_gI C ci12 8 (by decide) (Or.inl wd_6_123) dX9_look_140 (fun x4 => ?_)
    exact s_iret C hr rfl dX9_look_143
  refine s_tableIn (v := 4) (q := 4) (off := 123) (tgt := 144) C dX9_look_21 (by decide) (by decide) (by decide) (by decide) (by decide) ?_ (fun hx4 => ?_)
  · refine s_aload_n C 0 dX9_look_144 rfl rfl ?_
    refine s_invV_i C ci12 cy_X9_room (Or.inl wd_7_63) rfl wd_7_65 wp_32 (con_X9_room l G a0) rfl rfl (Nat.le_of_ble_eq_true rfl) (by rw [hF]; decide) (by rw [hO]; exact Nat.le_of_ble_eq_true rfl) dX9_look_145 (fun x5 => ?_)
    exact s_iret C hr rfl dX9_look_148
  refine s_tableIn (v := 5) (q := 5) (off := 128) (tgt := 149) C dX9_look_21 (by decide) (by decide) (by decide) (by decide) (by decide) ?_ (fun hx5 => ?_)
  · refine s_aload_n C 0 dX9_look_149 rfl rfl ?_
    refine s_invV_i C ci12 cy_X9_unsynced (Or.inl wd_7_157) rfl wd_7_159 wp_48 (con_X9_unsynced l G a0) rfl rfl (Nat.le_of_ble_eq_true rfl) (by rw [hF]; decide) (by rw [hO]; exact Nat.le_of_ble_eq_true rfl) dX9_look_150 (fun x6 => ?_)
    exact s_iret C hr rfl dX9_look_153
  refine s_tableIn (v := 6) (q := 6) (off := 133) (tgt := 154) C dX9_look_21 (by decide) (by decide) (by decide) (by decide) (by decide) ?_ (fun hx6 => ?_)
  · refine s_aload_n C 0 dX9_look_154 rfl rfl ?_
    refine s_gI C ci12 16 (by decide) (Or.inl wd_6_131) dX9_look_155 (fun x7 => ?_)
    exact s_iret C hr rfl dX9_look_158
  refine s_tableIn (v := 7) (q := 7) (off := 138) (tgt := 159) C dX9_look_21 (by decide) (by decide) (by decide) (by decide) (by decide) ?_ (fun hx7 => ?_)
  · refine s_aload_n C 0 dX9_look_159 rfl rfl ?_
    refine s_gI C ci12 19 (by decide) (Or.inl wd_6_134) dX9_look_160 (fun x8 => ?_)
    exact s_iret C hr rfl dX9_look_163
  refine s_tableIn (v := 8) (q := 8) (off := 143) (tgt := 164) C dX9_look_21 (by decide) (by decide) (by decide) (by decide) (by decide) ?_ (fun hx8 => ?_)
  · refine s_aload_n C 0 dX9_look_164 rfl rfl ?_
    refine s_gI C ci12 20 (by decide) (Or.inl wd_6_135) dX9_look_165 (fun x9 => ?_)
    exact s_iret C hr rfl dX9_look_168
  refine s_tableIn (v := 9) (q := 9) (off := 148) (tgt := 169) C dX9_look_21 (by decide) (by decide) (by decide) (by decide) (by decide) ?_ (fun hx9 => ?_)
  · refine s_aload_n C 0 dX9_look_169 rfl rfl ?_
    refine s_gI C ci12 21 (by decide) (Or.inl wd_6_136) dX9_look_170 (fun x10 => ?_)
    exact s_iret C hr rfl dX9_look_173
  refine s_tableIn (v := 10) (q := 10) (off := 153) (tgt := 174) C dX9_look_21 (by decide) (by decide) (by decide) (by decide) (by decide) ?_ (fun hx10 => ?_)
  · refine s_aload_n C 0 dX9_look_174 rfl rfl ?_
    refine s_gI C ci12 22 (by decide) (Or.inl wd_6_137) dX9_look_175 (fun x11 => ?_)
    exact s_iret C hr rfl dX9_look_178
  refine s_tableIn (v := 11) (q := 11) (off := 158) (tgt := 179) C dX9_look_21 (by decide) (by decide) (by decide) (by decide) (by decide) ?_ (fun hx11 => ?_)
  · refine s_aload_n C 0 dX9_look_179 rfl rfl ?_
    refine s_gI C ci12 33 (by decide) (Or.inl wd_6_148) dX9_look_180 (fun x12 => ?_)
    exact s_iret C hr rfl dX9_look_183
  refine s_tableIn (v := 12) (q := 12) (off := 163) (tgt := 184) C dX9_look_21 (by decide) (by decide) (by decide) (by decide) (by decide) ?_ (fun hx12 => ?_)
  · refine s_aload_n C 0 dX9_look_184 rfl rfl ?_
    refine s_gI C ci12 25 (by decide) (Or.inl wd_6_140) dX9_look_185 (fun x13 => ?_)
    exact s_iret C hr rfl dX9_look_188
  refine s_tableIn (v := 13) (q := 13) (off := 168) (tgt := 189) C dX9_look_21 (by decide) (by decide) (by decide) (by decide) (by decide) ?_ (fun hx13 => ?_)
  · refine s_aload_n C 0 dX9_look_189 rfl rfl ?_
    refine s_gI C ci12 24 (by decide) (Or.inl wd_6_139) dX9_look_190 (fun x14 => ?_)
    exact s_iret C hr rfl dX9_look_193
  refine s_tableIn (v := 14) (q := 14) (off := 173) (tgt := 194) C dX9_look_21 (by decide) (by decide) (by decide) (by decide) (by decide) ?_ (fun hx14 => ?_)
  · refine s_aload_n C 0 dX9_look_194 rfl rfl ?_
    refine s_gI C ci12 26 (by decide) (Or.inl wd_6_141) dX9_look_195 (fun x15 => ?_)
    exact s_iret C hr rfl dX9_look_198
  refine s_tableIn (v := 15) (q := 15) (off := 178) (tgt := 199) C dX9_look_21 (by decide) (by decide) (by decide) (by decide) (by decide) ?_ (fun hx15 => ?_)
  · refine s_aload_n C 0 dX9_look_199 rfl rfl ?_
    refine s_gI C ci12 34 (by decide) (Or.inl wd_6_149) dX9_look_200 (fun x16 => ?_)
    refine s_iconst (v := 1) C dX9_look_203 (by decide) ?_
    refine s_icmp_ne (tgt := 214) C dX9_look_204 (by decide) ?_ ?_
    · refine s_iconst (v := (-1)) C dX9_look_214 (by decide) ?_
      exact s_iret C hr rfl dX9_look_215
    refine s_aload_n C 0 dX9_look_207 rfl rfl ?_
    refine s_gI C ci12 35 (by decide) (Or.inl wd_6_150) dX9_look_208 (fun x17 => ?_)
    refine s_goto (tgt := 215) C dX9_look_211 (by decide) ?_
    exact s_iret C hr rfl dX9_look_215
  refine s_tableIn (v := 16) (q := 16) (off := 195) (tgt := 216) C dX9_look_21 (by decide) (by decide) (by decide) (by decide) (by decide) ?_ (fun hx16 => ?_)
  · refine s_aload_n C 0 dX9_look_216 rfl rfl ?_
    refine s_invV_i C ci12 cy_X9_unitsLeft (Or.inl wd_7_231) rfl wd_7_233 wp_62 (con_X9_unitsLeft l G a0) rfl rfl (Nat.le_of_ble_eq_true rfl) (by rw [hF]; decide) (by rw [hO]; exact Nat.le_of_ble_eq_true rfl) dX9_look_217 (fun x18 => ?_)
    exact s_iret C hr rfl dX9_look_220
  refine s_tableIn (v := 17) (q := 17) (off := 200) (tgt := 221) C dX9_look_21 (by decide) (by decide) (by decide) (by decide) (by decide) ?_ (fun hx17 => ?_)
  · refine s_aload_n C 0 dX9_look_221 rfl rfl ?_
    refine s_invV_i C ci12 cy_X9_reserved (Or.inl wd_7_67) rfl wd_7_69 wp_33 (con_X9_reserved l G a0) rfl rfl (Nat.le_of_ble_eq_true rfl) (by rw [hF]; decide) (by rw [hO]; exact Nat.le_of_ble_eq_true rfl) dX9_look_222 (fun x19 => ?_)
    exact s_iret C hr rfl dX9_look_225
  refine s_tableIn (v := 18) (q := 18) (off := 205) (tgt := 226) C dX9_look_21 (by decide) (by decide) (by decide) (by decide) (by decide) ?_ (fun hx18 => ?_)
  · refine s_aload_n C 0 dX9_look_226 rfl rfl ?_
    refine s_invV_i C ci12 cy_X9_liveBytes (Or.inl wd_8_55) rfl wd_8_57 wp_70 (con_X9_liveBytes l G a0) rfl rfl (Nat.le_of_ble_eq_true rfl) (by rw [hF]; decide) (by rw [hO]; exact Nat.le_of_ble_eq_true rfl) dX9_look_227 (fun x20 => ?_)
    exact s_iret C hr rfl dX9_look_230
  refine s_tableIn (v := 19) (q := 19) (off := 210) (tgt := 231) C dX9_look_21 (by decide) (by decide) (by decide) (by decide) (by decide) ?_ (fun hx19 => ?_)
  · refine s_aload_n C 0 dX9_look_231 rfl rfl ?_
    refine s_invV_i C ci12 cy_X9_dataBytes (Or.inl wd_8_59) rfl wd_8_61 wp_71 (con_X9_dataBytes l G a0) rfl rfl (Nat.le_of_ble_eq_true rfl) (by rw [hF]; decide) (by rw [hO]; exact Nat.le_of_ble_eq_true rfl) dX9_look_232 (fun x21 => ?_)
    refine s_aload_n C 0 dX9_look_235 rfl rfl ?_
    refine s_invV_i C ci12 cy_X9_liveBytes (Or.inl wd_8_55) rfl wd_8_57 wp_70 (con_X9_liveBytes l G a0) rfl rfl (Nat.le_of_ble_eq_true rfl) (by rw [hF]; decide) (by rw [hO]; exact Nat.le_of_ble_eq_true rfl) dX9_look_236 (fun x22 => ?_)
    refine s_isub C dX9_look_239 ?_
    exact s_iret C hr rfl dX9_look_240
  refine s_tableOut (tgt := 241) C dX9_look_21 (by have q0 : i1.toInt ≠ 0 := fun q => hx0 (Int32.toInt_inj.mp q); have q1 : i1.toInt ≠ 1 := fun q => hx1 (Int32.toInt_inj.mp q); have q2 : i1.toInt ≠ 2 := fun q => hx2 (Int32.toInt_inj.mp q); have q3 : i1.toInt ≠ 3 := fun q => hx3 (Int32.toInt_inj.mp q); have q4 : i1.toInt ≠ 4 := fun q => hx4 (Int32.toInt_inj.mp q); have q5 : i1.toInt ≠ 5 := fun q => hx5 (Int32.toInt_inj.mp q); have q6 : i1.toInt ≠ 6 := fun q => hx6 (Int32.toInt_inj.mp q); have q7 : i1.toInt ≠ 7 := fun q => hx7 (Int32.toInt_inj.mp q); have q8 : i1.toInt ≠ 8 := fun q => hx8 (Int32.toInt_inj.mp q); have q9 : i1.toInt ≠ 9 := fun q => hx9 (Int32.toInt_inj.mp q); have q10 : i1.toInt ≠ 10 := fun q => hx10 (Int32.toInt_inj.mp q); have q11 : i1.toInt ≠ 11 := fun q => hx11 (Int32.toInt_inj.mp q); have q12 : i1.toInt ≠ 12 := fun q => hx12 (Int32.toInt_inj.mp q); have q13 : i1.toInt ≠ 13 := fun q => hx13 (Int32.toInt_inj.mp q); have q14 : i1.toInt ≠ 14 := fun q => hx14 (Int32.toInt_inj.mp q); have q15 : i1.toInt ≠ 15 := fun q => hx15 (Int32.toInt_inj.mp q); have q16 : i1.toInt ≠ 16 := fun q => hx16 (Int32.toInt_inj.mp q); have q17 : i1.toInt ≠ 17 := fun q => hx17 (Int32.toInt_inj.mp q); have q18 : i1.toInt ≠ 18 := fun q => hx18 (Int32.toInt_inj.mp q); have q19 : i1.toInt ≠ 19 := fun q => hx19 (Int32.toInt_inj.mp q); omega) (by decide) ?_
  refine s_iconst (v := (-1)) C dX9_look_241 (by decide) ?_
  exact s_iret C hr rfl dX9_look_242
end
set_option maxRecDepth 20000 in
theorem con_X9_look (l : Launch) (G : Gx) (a0 : Nat) (i1 : Int32) : Con G rvI l yX9_look cX9_look 2 (some .int) 5 117 [.ref a0, .int i1] (X9_look a0 i1) := by
  refine con_of (lv := [(0, .ref a0), (1, .int i1)]) (by decide) (Nat.le_of_ble_eq_true rfl) rfl (fun p e R s m args below meth c h0 r h' C hF hO hr hm => ?_)
  refine s_aload_n C 0 dX9_look_0 rfl rfl ?_
  refine s_iconst (v := 0) C dX9_look_1 (by decide) ?_
  refine s_pV C ci12 0 (by decide) rfl (Or.inl wd_6_115) dX9_look_2 rfl rfl ?_
  refine s_iload_n C 1 dX9_look_5 rfl rfl ?_
  refine s_bipush (v := 10) C dX9_look_6 (by decide) ?_
  refine s_icmp_le (tgt := 20) C dX9_look_8 (by decide) ?_ ?_
  · exact X9_look_b20_s C hF hO hr hm   a0 i1
  refine s_aload_n C 0 dX9_look_11 rfl rfl ?_
  refine s_gI C ci12 23 (by decide) (Or.inl wd_6_138) dX9_look_12 (fun x1 => ?_)
  refine s_if_ne (tgt := 20) C dX9_look_15 (by decide) ?_ ?_
  · exact X9_look_b20_s C hF hO hr hm   a0 i1
  refine s_iconst (v := (-1)) C dX9_look_18 (by decide) ?_
  exact s_iret C hr rfl dX9_look_19
