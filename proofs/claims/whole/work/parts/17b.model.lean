theorem dX9_told_0 : decode cX9_told 0 = .ok (.aload_n 0, 1) := by decide +kernel
theorem dX9_told_1 : decode cX9_told 1 = .ok (.aload_n 1, 1) := by decide +kernel
theorem dX9_told_2 : decode cX9_told 2 = .ok (.iload_n 2, 1) := by decide +kernel
theorem dX9_told_3 : decode cX9_told 3 = .ok (.iload_n 3, 1) := by decide +kernel
theorem dX9_told_4 : decode cX9_told 4 = .ok (.invokevirtual 174, 3) := by decide +kernel
theorem dX9_told_7 : decode cX9_told 7 = .ok (.istore 8, 2) := by decide +kernel
theorem dX9_told_9 : decode cX9_told 9 = .ok (.aload_n 0, 1) := by decide +kernel
theorem dX9_told_10 : decode cX9_told 10 = .ok (.iload 8, 2) := by decide +kernel
theorem dX9_told_12 : decode cX9_told 12 = .ok (.aload_n 1, 1) := by decide +kernel
theorem dX9_told_13 : decode cX9_told 13 = .ok (.iload_n 2, 1) := by decide +kernel
theorem dX9_told_14 : decode cX9_told 14 = .ok (.iload_n 3, 1) := by decide +kernel
theorem dX9_told_15 : decode cX9_told 15 = .ok (.invokevirtual 178, 3) := by decide +kernel
theorem dX9_told_18 : decode cX9_told 18 = .ok (.ifCond .ne 42, 3) := by decide +kernel
theorem dX9_told_21 : decode cX9_told 21 = .ok (.aload_n 0, 1) := by decide +kernel
theorem dX9_told_22 : decode cX9_told 22 = .ok (.getfield 140, 3) := by decide +kernel
theorem dX9_told_25 : decode cX9_told 25 = .ok (.istore 9, 2) := by decide +kernel
theorem dX9_told_27 : decode cX9_told 27 = .ok (.iload 9, 2) := by decide +kernel
theorem dX9_told_29 : decode cX9_told 29 = .ok (.iload 8, 2) := by decide +kernel
theorem dX9_told_31 : decode cX9_told 31 = .ok (.if_icmp .le 19, 3) := by decide +kernel
theorem dX9_told_34 : decode cX9_told 34 = .ok (.aload_n 0, 1) := by decide +kernel
theorem dX9_told_35 : decode cX9_told 35 = .ok (.iload 9, 2) := by decide +kernel
theorem dX9_told_37 : decode cX9_told 37 = .ok (.iconst 1, 1) := by decide +kernel
theorem dX9_told_38 : decode cX9_told 38 = .ok (.isub, 1) := by decide +kernel
theorem dX9_told_39 : decode cX9_told 39 = .ok (.iload 9, 2) := by decide +kernel
theorem dX9_told_41 : decode cX9_told 41 = .ok (.invokevirtual 182, 3) := by decide +kernel
theorem dX9_told_44 : decode cX9_told 44 = .ok (.iinc 9 (-1), 3) := by decide +kernel
theorem dX9_told_47 : decode cX9_told 47 = .ok (.goto (-20), 3) := by decide +kernel
theorem dX9_told_50 : decode cX9_told 50 = .ok (.aload_n 0, 1) := by decide +kernel
theorem dX9_told_51 : decode cX9_told 51 = .ok (.dup, 1) := by decide +kernel
theorem dX9_told_52 : decode cX9_told 52 = .ok (.getfield 140, 3) := by decide +kernel
theorem dX9_told_55 : decode cX9_told 55 = .ok (.iconst 1, 1) := by decide +kernel
theorem dX9_told_56 : decode cX9_told 56 = .ok (.iadd, 1) := by decide +kernel
theorem dX9_told_57 : decode cX9_told 57 = .ok (.putfield 140, 3) := by decide +kernel
theorem dX9_told_60 : decode cX9_told 60 = .ok (.iconst 0, 1) := by decide +kernel
theorem dX9_told_61 : decode cX9_told 61 = .ok (.istore 9, 2) := by decide +kernel
theorem dX9_told_63 : decode cX9_told 63 = .ok (.iload 9, 2) := by decide +kernel
theorem dX9_told_65 : decode cX9_told 65 = .ok (.iload_n 3, 1) := by decide +kernel
theorem dX9_told_66 : decode cX9_told 66 = .ok (.if_icmp .ge 28, 3) := by decide +kernel
theorem dX9_told_69 : decode cX9_told 69 = .ok (.aload_n 0, 1) := by decide +kernel
theorem dX9_told_70 : decode cX9_told 70 = .ok (.getfield 41, 3) := by decide +kernel
theorem dX9_told_73 : decode cX9_told 73 = .ok (.bipush 16, 2) := by decide +kernel
theorem dX9_told_75 : decode cX9_told 75 = .ok (.iload 8, 2) := by decide +kernel
theorem dX9_told_77 : decode cX9_told 77 = .ok (.imul, 1) := by decide +kernel
theorem dX9_told_78 : decode cX9_told 78 = .ok (.iload 9, 2) := by decide +kernel
theorem dX9_told_80 : decode cX9_told 80 = .ok (.iadd, 1) := by decide +kernel
theorem dX9_told_81 : decode cX9_told 81 = .ok (.aload_n 1, 1) := by decide +kernel
theorem dX9_told_82 : decode cX9_told 82 = .ok (.iload_n 2, 1) := by decide +kernel
theorem dX9_told_83 : decode cX9_told 83 = .ok (.iload 9, 2) := by decide +kernel
theorem dX9_told_85 : decode cX9_told 85 = .ok (.iadd, 1) := by decide +kernel
theorem dX9_told_86 : decode cX9_told 86 = .ok (.baload, 1) := by decide +kernel
theorem dX9_told_87 : decode cX9_told 87 = .ok (.bastore, 1) := by decide +kernel
theorem dX9_told_88 : decode cX9_told 88 = .ok (.iinc 9 1, 3) := by decide +kernel
theorem dX9_told_91 : decode cX9_told 91 = .ok (.goto (-28), 3) := by decide +kernel
theorem dX9_told_94 : decode cX9_told 94 = .ok (.aload_n 0, 1) := by decide +kernel
theorem dX9_told_95 : decode cX9_told 95 = .ok (.getfield 44, 3) := by decide +kernel
theorem dX9_told_98 : decode cX9_told 98 = .ok (.iload 8, 2) := by decide +kernel
theorem dX9_told_100 : decode cX9_told 100 = .ok (.iload_n 3, 1) := by decide +kernel
theorem dX9_told_101 : decode cX9_told 101 = .ok (.iastore, 1) := by decide +kernel
theorem dX9_told_102 : decode cX9_told 102 = .ok (.aload_n 0, 1) := by decide +kernel
theorem dX9_told_103 : decode cX9_told 103 = .ok (.getfield 47, 3) := by decide +kernel
theorem dX9_told_106 : decode cX9_told 106 = .ok (.iload 8, 2) := by decide +kernel
theorem dX9_told_108 : decode cX9_told 108 = .ok (.iload 4, 2) := by decide +kernel
theorem dX9_told_110 : decode cX9_told 110 = .ok (.iastore, 1) := by decide +kernel
theorem dX9_told_111 : decode cX9_told 111 = .ok (.aload_n 0, 1) := by decide +kernel
theorem dX9_told_112 : decode cX9_told 112 = .ok (.getfield 50, 3) := by decide +kernel
theorem dX9_told_115 : decode cX9_told 115 = .ok (.iload 8, 2) := by decide +kernel
theorem dX9_told_117 : decode cX9_told 117 = .ok (.iload 5, 2) := by decide +kernel
theorem dX9_told_119 : decode cX9_told 119 = .ok (.iastore, 1) := by decide +kernel
theorem dX9_told_120 : decode cX9_told 120 = .ok (.aload_n 0, 1) := by decide +kernel
theorem dX9_told_121 : decode cX9_told 121 = .ok (.getfield 53, 3) := by decide +kernel
theorem dX9_told_124 : decode cX9_told 124 = .ok (.iload 8, 2) := by decide +kernel
theorem dX9_told_126 : decode cX9_told 126 = .ok (.iload 6, 2) := by decide +kernel
theorem dX9_told_128 : decode cX9_told 128 = .ok (.iastore, 1) := by decide +kernel
theorem dX9_told_129 : decode cX9_told 129 = .ok (.aload_n 0, 1) := by decide +kernel
theorem dX9_told_130 : decode cX9_told 130 = .ok (.getfield 56, 3) := by decide +kernel
theorem dX9_told_133 : decode cX9_told 133 = .ok (.iload 8, 2) := by decide +kernel
theorem dX9_told_135 : decode cX9_told 135 = .ok (.iload 7, 2) := by decide +kernel
theorem dX9_told_137 : decode cX9_told 137 = .ok (.iastore, 1) := by decide +kernel
theorem dX9_told_138 : decode cX9_told 138 = .ok (.return_, 1) := by decide +kernel
def X9_told_b63b  (k63 : Nat → Nat → Int32 → Int32 → Int32 → Int32 → Int32 → Int32 → Int32 → Int32 → M Unit) (a0 : Nat) (a1 : Nat) (i2 : Int32) (i3 : Int32) (i4 : Int32) (i5 : Int32) (i6 : Int32) (i7 : Int32) (i8 : Int32) (i9 : Int32) : M Unit := it (i3 ≤ i9) (bd (gR 12 28 a0) (fun y1 => bd (as 22 y1 i8 i3) (fun _ => bd (gR 12 29 a0) (fun y2 => bd (as 22 y2 i8 i4) (fun _ => bd (gR 12 30 a0) (fun y3 => bd (as 22 y3 i8 i5) (fun _ => bd (gR 12 31 a0) (fun y4 => bd (as 22 y4 i8 i6) (fun _ => bd (gR 12 32 a0) (fun y5 => bd (as 22 y5 i8 i7) (fun _ => pu ()))))))))))) (bd (gR 12 27 a0) (fun y6 => bd (al 21 a1 (i2 + i9)) (fun x7 => bd (as 21 y6 ((16 * i8) + i9) x7) (fun _ => k63 a0 a1 i2 i3 i4 i5 i6 i7 i8 (i9 + 1)))))
def X9_told_b63  : Nat → Nat → Nat → Int32 → Int32 → Int32 → Int32 → Int32 → Int32 → Int32 → Int32 → M Unit
  | 0 => fun _ _ _ _ _ _ _ _ _ _ => fl
  | n + 1 => fun a0 a1 i2 i3 i4 i5 i6 i7 i8 i9 => X9_told_b63b  (X9_told_b63  n) a0 a1 i2 i3 i4 i5 i6 i7 i8 i9
def X9_told_b60   (a0 : Nat) (a1 : Nat) (i2 : Int32) (i3 : Int32) (i4 : Int32) (i5 : Int32) (i6 : Int32) (i7 : Int32) (i8 : Int32) : M Unit := X9_told_b63  FU a0 a1 i2 i3 i4 i5 i6 i7 i8 0
def X9_told_b27b  (k27 : Nat → Nat → Int32 → Int32 → Int32 → Int32 → Int32 → Int32 → Int32 → Int32 → M Unit) (a0 : Nat) (a1 : Nat) (i2 : Int32) (i3 : Int32) (i4 : Int32) (i5 : Int32) (i6 : Int32) (i7 : Int32) (i8 : Int32) (i9 : Int32) : M Unit := it (i9 ≤ i8) (bd (gI 12 33 a0) (fun x1 => bd (pV 12 33 a0 (.int (x1 + 1))) (fun _ => X9_told_b60   a0 a1 i2 i3 i4 i5 i6 i7 i8))) (bd (ck 12 a0) (fun _ => bd (X9_moves a0 (i9 - 1) i9) (fun _ => k27 a0 a1 i2 i3 i4 i5 i6 i7 i8 (i9 + (-1)))))
def X9_told_b27  : Nat → Nat → Nat → Int32 → Int32 → Int32 → Int32 → Int32 → Int32 → Int32 → Int32 → M Unit
  | 0 => fun _ _ _ _ _ _ _ _ _ _ => fl
  | n + 1 => fun a0 a1 i2 i3 i4 i5 i6 i7 i8 i9 => X9_told_b27b  (X9_told_b27  n) a0 a1 i2 i3 i4 i5 i6 i7 i8 i9
def X9_told (a0 : Nat) (a1 : Nat) (i2 : Int32) (i3 : Int32) (i4 : Int32) (i5 : Int32) (i6 : Int32) (i7 : Int32) : M Unit := bd (ck 12 a0) (fun _ => bd (X9_placeOf a0 a1 i2 i3) (fun x1 => bd (ck 12 a0) (fun _ => bd (X9_isAt a0 x1 a1 i2 i3) (fun x2 => it (¬ x2 = 0) (X9_told_b60   a0 a1 i2 i3 i4 i5 i6 i7 x1) (bd (gI 12 33 a0) (fun x3 => X9_told_b27  FU a0 a1 i2 i3 i4 i5 i6 i7 x1 x3))))))
section
variable {G : Gx} {p : Program} {l : Launch} {e : Env} {R : Room} {s : State} {m : MethodId} {args : Array Value} {below : List Frame} {meth : Method} {c : Code} {h0 : Hp} {r : Unit} {h' : Hp}
set_option maxRecDepth 20000 in
theorem X9_told_b63b_s (C : Cx G p R s m args meth c cX9_told 10 yX9_told.cls h0 h') (hF : R.frames = 2) (hO : R.locals = 51) (hr : meth.sig.returnType = none) (hm : meth.name = yX9_told.name)  {k63 : Nat → Nat → Int32 → Int32 → Int32 → Int32 → Int32 → Int32 → Int32 → Int32 → M Unit} (hk63 : ∀ (a0 : Nat) (a1 : Nat) (i2 : Int32) (i3 : Int32) (i4 : Int32) (i5 : Int32) (i6 : Int32) (i7 : Int32) (i8 : Int32) (i9 : Int32), Sm G (QM G rvU below args s h0 r h') p l e R s m args below meth c 10 h0 r h' 63 [(0, .ref a0), (1, .ref a1), (2, .int i2), (3, .int i3), (4, .int i4), (5, .int i5), (6, .int i6), (7, .int i7), (8, .int i8), (9, .int i9)] [] (k63 a0 a1 i2 i3 i4 i5 i6 i7 i8 i9)) (a0 : Nat) (a1 : Nat) (i2 : Int32) (i3 : Int32) (i4 : Int32) (i5 : Int32) (i6 : Int32) (i7 : Int32) (i8 : Int32) (i9 : Int32) : Sm G (QM G rvU below args s h0 r h') p l e R s m args below meth c 10 h0 r h' 63 [(0, .ref a0), (1, .ref a1), (2, .int i2), (3, .int i3), (4, .int i4), (5, .int i5), (6, .int i6), (7, .int i7), (8, .int i8), (9, .int i9)] [] (X9_told_b63b  k63 a0 a1 i2 i3 i4 i5 i6 i7 i8 i9) := by
  refine s_iload C 9 dX9_told_63 rfl ?_
  refine s_iload_n C 3 dX9_told_65 rfl rfl ?_
  refine s_icmp_ge (tgt := 94) C dX9_told_66 (by decide) ?_ ?_
  · refine s_aload_n C 0 dX9_told_94 rfl rfl ?_
    refine s_gR C ci12 28 (by decide) (Or.inl wd_6_143) dX9_told_95 (fun y1 => ?_)
    refine s_iload C 8 dX9_told_98 rfl ?_
    refine s_iload_n C 3 dX9_told_100 rfl rfl ?_
    refine s_as22 C dX9_told_101 ?_
    refine s_aload_n C 0 dX9_told_102 rfl rfl ?_
    refine s_gR C ci12 29 (by decide) (Or.inl wd_6_144) dX9_told_103 (fun y2 => ?_)
    refine s_iload C 8 dX9_told_106 rfl ?_
    refine s_iload C 4 dX9_told_108 rfl ?_
    refine s_as22 C dX9_told_110 ?_
    refine s_aload_n C 0 dX9_told_111 rfl rfl ?_
    refine s_gR C ci12 30 (by decide) (Or.inl wd_6_145) dX9_told_112 (fun y3 => ?_)
    refine s_iload C 8 dX9_told_115 rfl ?_
    refine s_iload C 5 dX9_told_117 rfl ?_
    refine s_as22 C dX9_told_119 ?_
    refine s_aload_n C 0 dX9_told_120 rfl rfl ?_
    refine s_gR C ci12 31 (by decide) (Or.inl wd_6_146) dX9_told_121 (fun y4 => ?_)
    refine s_iload C 8 dX9_told_124 rfl ?_
    refine s_iload C 6 dX9_told_126 rfl ?_
    refine s_as22 C dX9_told_128 ?_
    refine s_aload_n C 0 dX9_told_129 rfl rfl ?_
    refine s_gR C ci12 32 (by decide) (Or.inl wd_6_147) dX9_told_130 (fun y5 => ?_)
    refine s_iload C 8 dX9_told_133 rfl ?_
    refine s_iload C 7 dX9_told_135 rfl ?_
    refine s_as22 C dX9_told_137 ?_
    exact s_vret C hr rfl dX9_told_138
  refine s_aload_n C 0 dX9_told_69 rfl rfl ?_
  refine s_gR C ci12 27 (by decide) (Or.inl wd_6_142) dX9_told_70 (fun y6 => ?_)
  refine s_bipush (v := 16) C dX9_told_73 (by decide) ?_
  refine s_iload C 8 dX9_told_75 rfl ?_
  refine s_imul C dX9_told_77 ?_
  refine s_iload C 9 dX9_told_78 rfl ?_
  refine s_iadd C dX9_told_80 ?_
  refine s_aload_n C 1 dX9_told_81 rfl rfl ?_
  refine s_iload_n C 2 dX9_told_82 rfl rfl ?_
  refine s_iload C 9 dX9_told_83 rfl ?_
  refine s_iadd C dX9_told_85 ?_
  refine s_al21 C dX9_told_86 (fun x7 => ?_)
  refine s_as21 C dX9_told_87 ?_
  refine s_iincK (lv' := [(9, .int (i9 + 1)), (0, .ref a0), (1, .ref a1), (2, .int i2), (3, .int i3), (4, .int i4), (5, .int i5), (6, .int i6), (7, .int i7), (8, .int i8)]) (w := 1) C 9 dX9_told_88 rfl (by decide) (by decide) rfl ?_
  refine s_goto (tgt := 63) C dX9_told_91 (by decide) ?_
  refine s_sub [1, 2, 3, 4, 5, 6, 7, 8, 9, 0] rfl ?_
  exact hk63 a0 a1 i2 i3 i4 i5 i6 i7 i8 (i9 + 1)
set_option maxRecDepth 20000 in
theorem X9_told_b63_s (C : Cx G p R s m args meth c cX9_told 10 yX9_told.cls h0 h') (hF : R.frames = 2) (hO : R.locals = 51) (hr : meth.sig.returnType = none) (hm : meth.name = yX9_told.name)  (n : Nat) : ∀ (a0 : Nat) (a1 : Nat) (i2 : Int32) (i3 : Int32) (i4 : Int32) (i5 : Int32) (i6 : Int32) (i7 : Int32) (i8 : Int32) (i9 : Int32), Sm G (QM G rvU below args s h0 r h') p l e R s m args below meth c 10 h0 r h' 63 [(0, .ref a0), (1, .ref a1), (2, .int i2), (3, .int i3), (4, .int i4), (5, .int i5), (6, .int i6), (7, .int i7), (8, .int i8), (9, .int i9)] [] (X9_told_b63  n a0 a1 i2 i3 i4 i5 i6 i7 i8 i9) := by
  induction n with
  | zero => intro a0 a1 i2 i3 i4 i5 i6 i7 i8 i9; exact s_fl
  | succ n ih => intro a0 a1 i2 i3 i4 i5 i6 i7 i8 i9; exact X9_told_b63b_s C hF hO hr hm  ih a0 a1 i2 i3 i4 i5 i6 i7 i8 i9
set_option maxRecDepth 20000 in
theorem X9_told_b60_s (C : Cx G p R s m args meth c cX9_told 10 yX9_told.cls h0 h') (hF : R.frames = 2) (hO : R.locals = 51) (hr : meth.sig.returnType = none) (hm : meth.name = yX9_told.name)   (a0 : Nat) (a1 : Nat) (i2 : Int32) (i3 : Int32) (i4 : Int32) (i5 : Int32) (i6 : Int32) (i7 : Int32) (i8 : Int32) : Sm G (QM G rvU below args s h0 r h') p l e R s m args below meth c 10 h0 r h' 60 [(0, .ref a0), (1, .ref a1), (2, .int i2), (3, .int i3), (4, .int i4), (5, .int i5), (6, .int i6), (7, .int i7), (8, .int i8)] [] (X9_told_b60   a0 a1 i2 i3 i4 i5 i6 i7 i8) := by
  refine s_iconst (v := 0) C dX9_told_60 (by decide) ?_
  refine s_istore (lv' := [(9, .int 0), (0, .ref a0), (1, .ref a1), (2, .int i2), (3, .int i3), (4, .int i4), (5, .int i5), (6, .int i6), (7, .int i7), (8, .int i8)]) C dX9_told_61 (by decide) rfl ?_
  refine s_sub [1, 2, 3, 4, 5, 6, 7, 8, 9, 0] rfl ?_
  exact X9_told_b63_s C hF hO hr hm  FU a0 a1 i2 i3 i4 i5 i6 i7 i8 0
set_option maxRecDepth 20000 in
theorem X9_told_b27b_s (C : Cx G p R s m args meth c cX9_told 10 yX9_told.cls h0 h') (hF : R.frames = 2) (hO : R.locals = 51) (hr : meth.sig.returnType = none) (hm : meth.name = yX9_told.name)  {k27 : Nat → Nat → Int32 → Int32 → Int32 → Int32 → Int32 → Int32 → Int32 → Int32 → M Unit} (hk27 : ∀ (a0 : Nat) (a1 : Nat) (i2 : Int32) (i3 : Int32) (i4 : Int32) (i5 : Int32) (i6 : Int32) (i7 : Int32) (i8 : Int32) (i9 : Int32), Sm G (QM G rvU below args s h0 r h') p l e R s m args below meth c 10 h0 r h' 27 [(0, .ref a0), (1, .ref a1), (2, .int i2), (3, .int i3), (4, .int i4), (5, .int i5), (6, .int i6), (7, .int i7), (8, .int i8), (9, .int i9)] [] (k27 a0 a1 i2 i3 i4 i5 i6 i7 i8 i9)) (a0 : Nat) (a1 : Nat) (i2 : Int32) (i3 : Int32) (i4 : Int32) (i5 : Int32) (i6 : Int32) (i7 : Int32) (i8 : Int32) (i9 : Int32) : Sm G (QM G rvU below args s h0 r h') p l e R s m args below meth c 10 h0 r h' 27 [(0, .ref a0), (1, .ref a1), (2, .int i2), (3, .int i3), (4, .int i4), (5, .int i5), (6, .int i6), (7, .int i7), (8, .int i8), (9, .int i9)] [] (X9_told_b27b  k27 a0 a1 i2 i3 i4 i5 i6 i7 i8 i9) := by
  refine s_iload C 9 dX9_told_27 rfl ?_
  refine s_iload C 8 dX9_told_29 rfl ?_
  refine s_icmp_le (tgt := 50) C dX9_told_31 (by decide) ?_ ?_
  · refine s_aload_n C 0 dX9_told_50 rfl rfl ?_
    refine s_dup C dX9_told_51 rfl ?_
    refine s_gI C ci12 33 (by decide) (Or.inl wd_6_148) dX9_told_52 (fun x1 => ?_)
    refine s_iconst (v := 1) C dX9_told_55 (by decide) ?_
    refine s_iadd C dX9_told_56 ?_
    refine s_pV C ci12 33 (by decide) rfl (Or.inl wd_6_148) dX9_told_57 rfl rfl ?_
    refine s_sub [0, 1, 2, 3, 4, 5, 6, 7, 8] rfl ?_
    exact X9_told_b60_s C hF hO hr hm   a0 a1 i2 i3 i4 i5 i6 i7 i8
  refine s_aload_n C 0 dX9_told_34 rfl rfl ?_
  refine s_iload C 9 dX9_told_35 rfl ?_
  refine s_iconst (v := 1) C dX9_told_37 (by decide) ?_
  refine s_isub C dX9_told_38 ?_
  refine s_iload C 9 dX9_told_39 rfl ?_
  refine s_invV_u C ci12 cy_X9_moves (Or.inl wd_7_115) rfl wd_7_117 wp_43 (con_X9_moves l G a0 (i9 - 1) i9) rfl rfl (Nat.le_of_ble_eq_true rfl) (by rw [hF]; decide) (by rw [hO]; exact Nat.le_of_ble_eq_true rfl) dX9_told_41 ?_
  refine s_iincK (lv' := [(9, .int (i9 + (-1))), (0, .ref a0), (1, .ref a1), (2, .int i2), (3, .int i3), (4, .int i4), (5, .int i5), (6, .int i6), (7, .int i7), (8, .int i8)]) (w := (-1)) C 9 dX9_told_44 rfl (by decide) (by decide) rfl ?_
  refine s_goto (tgt := 27) C dX9_told_47 (by decide) ?_
  refine s_sub [1, 2, 3, 4, 5, 6, 7, 8, 9, 0] rfl ?_
  exact hk27 a0 a1 i2 i3 i4 i5 i6 i7 i8 (i9 + (-1))
set_option maxRecDepth 20000 in
theorem X9_told_b27_s (C : Cx G p R s m args meth c cX9_told 10 yX9_told.cls h0 h') (hF : R.frames = 2) (hO : R.locals = 51) (hr : meth.sig.returnType = none) (hm : meth.name = yX9_told.name)  (n : Nat) : ∀ (a0 : Nat) (a1 : Nat) (i2 : Int32) (i3 : Int32) (i4 : Int32) (i5 : Int32) (i6 : Int32) (i7 : Int32) (i8 : Int32) (i9 : Int32), Sm G (QM G rvU below args s h0 r h') p l e R s m args below meth c 10 h0 r h' 27 [(0, .ref a0), (1, .ref a1), (2, .int i2), (3, .int i3), (4, .int i4), (5, .int i5), (6, .int i6), (7, .int i7), (8, .int i8), (9, .int i9)] [] (X9_told_b27  n a0 a1 i2 i3 i4 i5 i6 i7 i8 i9) := by
  induction n with
  | zero => intro a0 a1 i2 i3 i4 i5 i6 i7 i8 i9; exact s_fl
  | succ n ih => intro a0 a1 i2 i3 i4 i5 i6 i7 i8 i9; exact X9_told_b27b_s C hF hO hr hm  ih a0 a1 i2 i3 i4 i5 i6 i7 i8 i9
end
set_option maxRecDepth 20000 in
theorem con_X9_told (l : Launch) (G : Gx) (a0 : Nat) (a1 : Nat) (i2 : Int32) (i3 : Int32) (i4 : Int32) (i5 : Int32) (i6 : Int32) (i7 : Int32) : Con G rvU l yX9_told cX9_told 10 none 2 51 [.ref a0, .ref a1, .int i2, .int i3, .int i4, .int i5, .int i6, .int i7] (X9_told a0 a1 i2 i3 i4 i5 i6 i7) := by
  refine con_of (lv := [(0, .ref a0), (1, .ref a1), (2, .int i2), (3, .int i3), (4, .int i4), (5, .int i5), (6, .int i6), (7, .int i7)]) (by decide) (Nat.le_of_ble_eq_true rfl) rfl (fun p e R s m args below meth c h0 r h' C hF hO hr hm => ?_)
  refine s_aload_n C 0 dX9_told_0 rfl rfl ?_
  refine s_aload_n C 1 dX9_told_1 rfl rfl ?_
  refine s_iload_n C 2 dX9_told_2 rfl rfl ?_
  refine s_iload_n C 3 dX9_told_3 rfl rfl ?_
  refine s_invV_i C ci12 cy_X9_placeOf (Or.inl wd_7_104) rfl wd_7_106 wp_41 (con_X9_placeOf l G a0 a1 i2 i3) rfl rfl (Nat.le_of_ble_eq_true rfl) (by rw [hF]; decide) (by rw [hO]; exact Nat.le_of_ble_eq_true rfl) dX9_told_4 (fun x1 => ?_)
  refine s_istore (lv' := [(8, .int x1), (0, .ref a0), (1, .ref a1), (2, .int i2), (3, .int i3), (4, .int i4), (5, .int i5), (6, .int i6), (7, .int i7)]) C dX9_told_7 (by decide) rfl ?_
  refine s_aload_n C 1 dX9_told_9 rfl rfl ?_
  refine s_iload C 0 dX9_told_10 rfl ?_
  refine s_aload_n C 2 dX9_told_12 rfl rfl ?_
  refine s_iload_n C 3 dX9_told_13 rfl rfl ?_
  refine s_iload_n C 4 dX9_told_14 rfl rfl ?_
  refine s_invV_i C ci12 cy_X9_isAt (Or.inl wd_7_111) rfl wd_7_113 wp_42 (con_X9_isAt l G a0 x1 a1 i2 i3) rfl rfl (Nat.le_of_ble_eq_true rfl) (by rw [hF]; decide) (by rw [hO]; exact Nat.le_of_ble_eq_true rfl) dX9_told_15 (fun x2 => ?_)
  refine s_if_ne (tgt := 60) C dX9_told_18 (by decide) ?_ ?_
  · refine s_sub [1, 2, 3, 4, 5, 6, 7, 8, 0] rfl ?_
    exact X9_told_b60_s C hF hO hr hm   a0 a1 i2 i3 i4 i5 i6 i7 x1
  refine s_aload_n C 1 dX9_told_21 rfl rfl ?_
  refine s_gI C ci12 33 (by decide) (Or.inl wd_6_148) dX9_told_22 (fun x3 => ?_)
  refine s_istore (lv' := [(9, .int x3), (8, .int x1), (0, .ref a0), (1, .ref a1), (2, .int i2), (3, .int i3), (4, .int i4), (5, .int i5), (6, .int i6), (7, .int i7)]) C dX9_told_25 (by decide) rfl ?_
  refine s_sub [2, 3, 4, 5, 6, 7, 8, 9, 1, 0] rfl ?_
  exact X9_told_b27_s C hF hO hr hm  FU a0 a1 i2 i3 i4 i5 i6 i7 x1 x3

theorem dX9_untold_0 : decode cX9_untold 0 = .ok (.aload_n 0, 1) := by decide +kernel
theorem dX9_untold_1 : decode cX9_untold 1 = .ok (.dup, 1) := by decide +kernel
theorem dX9_untold_2 : decode cX9_untold 2 = .ok (.getfield 140, 3) := by decide +kernel
theorem dX9_untold_5 : decode cX9_untold 5 = .ok (.iconst 1, 1) := by decide +kernel
theorem dX9_untold_6 : decode cX9_untold 6 = .ok (.isub, 1) := by decide +kernel
theorem dX9_untold_7 : decode cX9_untold 7 = .ok (.putfield 140, 3) := by decide +kernel
theorem dX9_untold_10 : decode cX9_untold 10 = .ok (.iload_n 1, 1) := by decide +kernel
theorem dX9_untold_11 : decode cX9_untold 11 = .ok (.istore_n 2, 1) := by decide +kernel
theorem dX9_untold_12 : decode cX9_untold 12 = .ok (.iload_n 2, 1) := by decide +kernel
theorem dX9_untold_13 : decode cX9_untold 13 = .ok (.aload_n 0, 1) := by decide +kernel
theorem dX9_untold_14 : decode cX9_untold 14 = .ok (.getfield 140, 3) := by decide +kernel
theorem dX9_untold_17 : decode cX9_untold 17 = .ok (.if_icmp .ge 17, 3) := by decide +kernel
theorem dX9_untold_20 : decode cX9_untold 20 = .ok (.aload_n 0, 1) := by decide +kernel
theorem dX9_untold_21 : decode cX9_untold 21 = .ok (.iload_n 2, 1) := by decide +kernel
theorem dX9_untold_22 : decode cX9_untold 22 = .ok (.iconst 1, 1) := by decide +kernel
theorem dX9_untold_23 : decode cX9_untold 23 = .ok (.iadd, 1) := by decide +kernel
theorem dX9_untold_24 : decode cX9_untold 24 = .ok (.iload_n 2, 1) := by decide +kernel
theorem dX9_untold_25 : decode cX9_untold 25 = .ok (.invokevirtual 182, 3) := by decide +kernel
theorem dX9_untold_28 : decode cX9_untold 28 = .ok (.iinc 2 1, 3) := by decide +kernel
theorem dX9_untold_31 : decode cX9_untold 31 = .ok (.goto (-19), 3) := by decide +kernel
theorem dX9_untold_34 : decode cX9_untold 34 = .ok (.return_, 1) := by decide +kernel
def X9_untold_b12b  (k12 : Nat → Int32 → M Unit) (a0 : Nat) (i2 : Int32) : M Unit := bd (gI 12 33 a0) (fun x1 => it (x1 ≤ i2) (pu ()) (bd (ck 12 a0) (fun _ => bd (X9_moves a0 (i2 + 1) i2) (fun _ => k12 a0 (i2 + 1)))))
def X9_untold_b12  : Nat → Nat → Int32 → M Unit
  | 0 => fun _ _ => fl
  | n + 1 => fun a0 i2 => X9_untold_b12b  (X9_untold_b12  n) a0 i2
def X9_untold (a0 : Nat) (i1 : Int32) : M Unit := bd (gI 12 33 a0) (fun x1 => bd (pV 12 33 a0 (.int (x1 - 1))) (fun _ => X9_untold_b12  FU a0 i1))
section
variable {G : Gx} {p : Program} {l : Launch} {e : Env} {R : Room} {s : State} {m : MethodId} {args : Array Value} {below : List Frame} {meth : Method} {c : Code} {h0 : Hp} {r : Unit} {h' : Hp}
set_option maxRecDepth 20000 in
theorem X9_untold_b12b_s (C : Cx G p R s m args meth c cX9_untold 3 yX9_untold.cls h0 h') (hF : R.frames = 1) (hO : R.locals = 23) (hr : meth.sig.returnType = none) (hm : meth.name = yX9_untold.name)  {k12 : Nat → Int32 → M Unit} (hk12 : ∀ (a0 : Nat) (i2 : Int32), Sm G (QM G rvU below args s h0 r h') p l e R s m args below meth c 3 h0 r h' 12 [(0, .ref a0), (2, .int i2)] [] (k12 a0 i2)) (a0 : Nat) (i2 : Int32) : Sm G (QM G rvU below args s h0 r h') p l e R s m args below meth c 3 h0 r h' 12 [(0, .ref a0), (2, .int i2)] [] (X9_untold_b12b  k12 a0 i2) := by
  refine s_iload_n C 1 dX9_untold_12 rfl rfl ?_
  refine s_aload_n C 0 dX9_untold_13 rfl rfl ?_
  refine s_gI C ci12 33 (by decide) (Or.inl wd_6_148) dX9_untold_14 (fun x1 => ?_)
  refine s_icmp_ge (tgt := 34) C dX9_untold_17 (by decide) ?_ ?_
  · exact s_vret C hr rfl dX9_untold_34
  refine s_aload_n C 0 dX9_untold_20 rfl rfl ?_
  refine s_iload_n C 1 dX9_untold_21 rfl rfl ?_
  refine s_iconst (v := 1) C dX9_untold_22 (by decide) ?_
  refine s_iadd C dX9_untold_23 ?_
  refine s_iload_n C 1 dX9_untold_24 rfl rfl ?_
  refine s_invV_u C ci12 cy_X9_moves (Or.inl wd_7_115) rfl wd_7_117 wp_43 (con_X9_moves l G a0 (i2 + 1) i2) rfl rfl (Nat.le_of_ble_eq_true rfl) (by rw [hF]; decide) (by rw [hO]; exact Nat.le_of_ble_eq_true rfl) dX9_untold_25 ?_
  refine s_iincK (lv' := [(2, .int (i2 + 1)), (0, .ref a0)]) (w := 1) C 1 dX9_untold_28 rfl (by decide) (by decide) rfl ?_
  refine s_goto (tgt := 12) C dX9_untold_31 (by decide) ?_
  refine s_sub [1, 0] rfl ?_
  exact hk12 a0 (i2 + 1)
set_option maxRecDepth 20000 in
theorem X9_untold_b12_s (C : Cx G p R s m args meth c cX9_untold 3 yX9_untold.cls h0 h') (hF : R.frames = 1) (hO : R.locals = 23) (hr : meth.sig.returnType = none) (hm : meth.name = yX9_untold.name)  (n : Nat) : ∀ (a0 : Nat) (i2 : Int32), Sm G (QM G rvU below args s h0 r h') p l e R s m args below meth c 3 h0 r h' 12 [(0, .ref a0), (2, .int i2)] [] (X9_untold_b12  n a0 i2) := by
  induction n with
  | zero => intro a0 i2; exact s_fl
  | succ n ih => intro a0 i2; exact X9_untold_b12b_s C hF hO hr hm  ih a0 i2
end
set_option maxRecDepth 20000 in
theorem con_X9_untold (l : Launch) (G : Gx) (a0 : Nat) (i1 : Int32) : Con G rvU l yX9_untold cX9_untold 3 none 1 23 [.ref a0, .int i1] (X9_untold a0 i1) := by
  refine con_of (lv := [(0, .ref a0), (1, .int i1)]) (by decide) (Nat.le_of_ble_eq_true rfl) rfl (fun p e R s m args below meth c h0 r h' C hF hO hr hm => ?_)
  refine s_aload_n C 0 dX9_untold_0 rfl rfl ?_
  refine s_dup C dX9_untold_1 rfl ?_
  refine s_gI C ci12 33 (by decide) (Or.inl wd_6_148) dX9_untold_2 (fun x1 => ?_)
  refine s_iconst (v := 1) C dX9_untold_5 (by decide) ?_
  refine s_isub C dX9_untold_6 ?_
  refine s_pV C ci12 33 (by decide) rfl (Or.inl wd_6_148) dX9_untold_7 rfl rfl ?_
  refine s_iload_n C 1 dX9_untold_10 rfl rfl ?_
  refine s_istore_n (lv' := [(2, .int i1), (0, .ref a0), (1, .int i1)]) C dX9_untold_11 rfl (by decide) rfl ?_
  refine s_sub [1, 0] rfl ?_
  exact X9_untold_b12_s C hF hO hr hm  FU a0 i1

theorem dX9_recordBytes_0 : decode cX9_recordBytes 0 = .ok (.aload_n 0, 1) := by decide +kernel
theorem dX9_recordBytes_1 : decode cX9_recordBytes 1 = .ok (.getfield 44, 3) := by decide +kernel
theorem dX9_recordBytes_4 : decode cX9_recordBytes 4 = .ok (.iload_n 1, 1) := by decide +kernel
theorem dX9_recordBytes_5 : decode cX9_recordBytes 5 = .ok (.iaload, 1) := by decide +kernel
theorem dX9_recordBytes_6 : decode cX9_recordBytes 6 = .ok (.aload_n 0, 1) := by decide +kernel
theorem dX9_recordBytes_7 : decode cX9_recordBytes 7 = .ok (.getfield 53, 3) := by decide +kernel
theorem dX9_recordBytes_10 : decode cX9_recordBytes 10 = .ok (.iload_n 1, 1) := by decide +kernel
theorem dX9_recordBytes_11 : decode cX9_recordBytes 11 = .ok (.iaload, 1) := by decide +kernel
theorem dX9_recordBytes_12 : decode cX9_recordBytes 12 = .ok (.invokestatic 185, 3) := by decide +kernel
theorem dX9_recordBytes_15 : decode cX9_recordBytes 15 = .ok (.ireturn, 1) := by decide +kernel
def X9_recordBytes (a0 : Nat) (i1 : Int32) : M Int32 := bd (gR 12 28 a0) (fun y1 => bd (al 22 y1 i1) (fun x2 => bd (gR 12 31 a0) (fun y3 => bd (al 22 y3 i1) (fun x4 => bd (X9_bytesOf x2 x4) (fun x5 => pu x5)))))
section
variable {G : Gx} {p : Program} {l : Launch} {e : Env} {R : Room} {s : State} {m : MethodId} {args : Array Value} {below : List Frame} {meth : Method} {c : Code} {h0 : Hp} {r : Int32} {h' : Hp}
end
set_option maxRecDepth 20000 in
theorem con_X9_recordBytes (l : Launch) (G : Gx) (a0 : Nat) (i1 : Int32) : Con G rvI l yX9_recordBytes cX9_recordBytes 2 (some .int) 2 51 [.ref a0, .int i1] (X9_recordBytes a0 i1) := by
  refine con_of (lv := [(0, .ref a0), (1, .int i1)]) (by decide) (Nat.le_of_ble_eq_true rfl) rfl (fun p e R s m args below meth c h0 r h' C hF hO hr hm => ?_)
  refine s_aload_n C 0 dX9_recordBytes_0 rfl rfl ?_
  refine s_gR C ci12 28 (by decide) (Or.inl wd_6_143) dX9_recordBytes_1 (fun y1 => ?_)
  refine s_iload_n C 1 dX9_recordBytes_4 rfl rfl ?_
  refine s_al22 C dX9_recordBytes_5 (fun x2 => ?_)
  refine s_aload_n C 0 dX9_recordBytes_6 rfl rfl ?_
  refine s_gR C ci12 31 (by decide) (Or.inl wd_6_146) dX9_recordBytes_7 (fun y3 => ?_)
  refine s_iload_n C 1 dX9_recordBytes_10 rfl rfl ?_
  refine s_al22 C dX9_recordBytes_11 (fun x4 => ?_)
  refine s_invS_i C cy_X9_bytesOf (Or.inl wd_7_55) wd_7_56 (con_X9_bytesOf l G x2 x4) rfl rfl (Nat.le_of_ble_eq_true rfl) (by rw [hF]; decide) (by rw [hO]; exact Nat.le_of_ble_eq_true rfl) dX9_recordBytes_12 (fun x5 => ?_)
  exact s_iret C hr rfl dX9_recordBytes_15

theorem dX9_recordAt_0 : decode cX9_recordAt 0 = .ok (.aload_n 0, 1) := by decide +kernel
theorem dX9_recordAt_1 : decode cX9_recordAt 1 = .ok (.aload_n 0, 1) := by decide +kernel
theorem dX9_recordAt_2 : decode cX9_recordAt 2 = .ok (.aload_n 0, 1) := by decide +kernel
theorem dX9_recordAt_3 : decode cX9_recordAt 3 = .ok (.getfield 47, 3) := by decide +kernel
theorem dX9_recordAt_6 : decode cX9_recordAt 6 = .ok (.iload_n 1, 1) := by decide +kernel
theorem dX9_recordAt_7 : decode cX9_recordAt 7 = .ok (.iaload, 1) := by decide +kernel
theorem dX9_recordAt_8 : decode cX9_recordAt 8 = .ok (.iconst 0, 1) := by decide +kernel
theorem dX9_recordAt_9 : decode cX9_recordAt 9 = .ok (.invokevirtual 149, 3) := by decide +kernel
theorem dX9_recordAt_12 : decode cX9_recordAt 12 = .ok (.invokevirtual 153, 3) := by decide +kernel
theorem dX9_recordAt_15 : decode cX9_recordAt 15 = .ok (.aload_n 0, 1) := by decide +kernel
theorem dX9_recordAt_16 : decode cX9_recordAt 16 = .ok (.getfield 50, 3) := by decide +kernel
theorem dX9_recordAt_19 : decode cX9_recordAt 19 = .ok (.iload_n 1, 1) := by decide +kernel
theorem dX9_recordAt_20 : decode cX9_recordAt 20 = .ok (.iaload, 1) := by decide +kernel
theorem dX9_recordAt_21 : decode cX9_recordAt 21 = .ok (.iadd, 1) := by decide +kernel
theorem dX9_recordAt_22 : decode cX9_recordAt 22 = .ok (.ireturn, 1) := by decide +kernel
def X9_recordAt (a0 : Nat) (i1 : Int32) : M Int32 := bd (gR 12 29 a0) (fun y1 => bd (al 22 y1 i1) (fun x2 => bd (ck 12 a0) (fun _ => bd (X9_fileAt a0 x2 0) (fun x3 => bd (ck 12 a0) (fun _ => bd (X9_startOf a0 x3) (fun x4 => bd (gR 12 30 a0) (fun y5 => bd (al 22 y5 i1) (fun x6 => pu (x4 + x6)))))))))
section
variable {G : Gx} {p : Program} {l : Launch} {e : Env} {R : Room} {s : State} {m : MethodId} {args : Array Value} {below : List Frame} {meth : Method} {c : Code} {h0 : Hp} {r : Int32} {h' : Hp}
end
set_option maxRecDepth 20000 in
theorem con_X9_recordAt (l : Launch) (G : Gx) (a0 : Nat) (i1 : Int32) : Con G rvI l yX9_recordAt cX9_recordAt 2 (some .int) 1 23 [.ref a0, .int i1] (X9_recordAt a0 i1) := by
  refine con_of (lv := [(0, .ref a0), (1, .int i1)]) (by decide) (Nat.le_of_ble_eq_true rfl) rfl (fun p e R s m args below meth c h0 r h' C hF hO hr hm => ?_)
  refine s_aload_n C 0 dX9_recordAt_0 rfl rfl ?_
  refine s_aload_n C 0 dX9_recordAt_1 rfl rfl ?_
  refine s_aload_n C 0 dX9_recordAt_2 rfl rfl ?_
  refine s_gR C ci12 29 (by decide) (Or.inl wd_6_144) dX9_recordAt_3 (fun y1 => ?_)
  refine s_iload_n C 1 dX9_recordAt_6 rfl rfl ?_
  refine s_al22 C dX9_recordAt_7 (fun x2 => ?_)
  refine s_iconst (v := 0) C dX9_recordAt_8 (by decide) ?_
  refine s_invV_i C ci12 cy_X9_fileAt (Or.inl wd_7_80) rfl wd_7_82 wp_36 (con_X9_fileAt l G a0 x2 0) rfl rfl (Nat.le_of_ble_eq_true rfl) (by rw [hF]; decide) (by rw [hO]; exact Nat.le_of_ble_eq_true rfl) dX9_recordAt_9 (fun x3 => ?_)
  refine s_invV_i C ci12 cy_X9_startOf (Or.inl wd_7_96) rfl wd_7_98 wp_39 (con_X9_startOf l G a0 x3) rfl rfl (Nat.le_of_ble_eq_true rfl) (by rw [hF]; decide) (by rw [hO]; exact Nat.le_of_ble_eq_true rfl) dX9_recordAt_12 (fun x4 => ?_)
  refine s_aload_n C 0 dX9_recordAt_15 rfl rfl ?_
  refine s_gR C ci12 30 (by decide) (Or.inl wd_6_145) dX9_recordAt_16 (fun y5 => ?_)
  refine s_iload_n C 1 dX9_recordAt_19 rfl rfl ?_
  refine s_al22 C dX9_recordAt_20 (fun x6 => ?_)
  refine s_iadd C dX9_recordAt_21 ?_
  exact s_iret C hr rfl dX9_recordAt_22

theorem dX9_isBad_0 : decode cX9_isBad 0 = .ok (.aload_n 0, 1) := by decide +kernel
theorem dX9_isBad_1 : decode cX9_isBad 1 = .ok (.iload_n 1, 1) := by decide +kernel
theorem dX9_isBad_2 : decode cX9_isBad 2 = .ok (.invokevirtual 188, 3) := by decide +kernel
theorem dX9_isBad_5 : decode cX9_isBad 5 = .ok (.istore_n 2, 1) := by decide +kernel
theorem dX9_isBad_6 : decode cX9_isBad 6 = .ok (.aload_n 0, 1) := by decide +kernel
theorem dX9_isBad_7 : decode cX9_isBad 7 = .ok (.iload_n 1, 1) := by decide +kernel
theorem dX9_isBad_8 : decode cX9_isBad 8 = .ok (.invokevirtual 191, 3) := by decide +kernel
theorem dX9_isBad_11 : decode cX9_isBad 11 = .ok (.istore_n 3, 1) := by decide +kernel
theorem dX9_isBad_12 : decode cX9_isBad 12 = .ok (.aload_n 0, 1) := by decide +kernel
theorem dX9_isBad_13 : decode cX9_isBad 13 = .ok (.getfield 9, 3) := by decide +kernel
theorem dX9_isBad_16 : decode cX9_isBad 16 = .ok (.iload_n 2, 1) := by decide +kernel
theorem dX9_isBad_17 : decode cX9_isBad 17 = .ok (.iconst 4, 1) := by decide +kernel
theorem dX9_isBad_18 : decode cX9_isBad 18 = .ok (.iadd, 1) := by decide +kernel
theorem dX9_isBad_19 : decode cX9_isBad 19 = .ok (.iload_n 2, 1) := by decide +kernel
theorem dX9_isBad_20 : decode cX9_isBad 20 = .ok (.iload_n 3, 1) := by decide +kernel
theorem dX9_isBad_21 : decode cX9_isBad 21 = .ok (.iadd, 1) := by decide +kernel
theorem dX9_isBad_22 : decode cX9_isBad 22 = .ok (.invokestatic 194, 3) := by decide +kernel
theorem dX9_isBad_25 : decode cX9_isBad 25 = .ok (.aload_n 0, 1) := by decide +kernel
theorem dX9_isBad_26 : decode cX9_isBad 26 = .ok (.getfield 9, 3) := by decide +kernel
theorem dX9_isBad_29 : decode cX9_isBad 29 = .ok (.iload_n 2, 1) := by decide +kernel
theorem dX9_isBad_30 : decode cX9_isBad 30 = .ok (.invokestatic 197, 3) := by decide +kernel
theorem dX9_isBad_33 : decode cX9_isBad 33 = .ok (.if_icmp .ne 22, 3) := by decide +kernel
theorem dX9_isBad_36 : decode cX9_isBad 36 = .ok (.aload_n 0, 1) := by decide +kernel
theorem dX9_isBad_37 : decode cX9_isBad 37 = .ok (.getfield 9, 3) := by decide +kernel
theorem dX9_isBad_40 : decode cX9_isBad 40 = .ok (.iload_n 2, 1) := by decide +kernel
theorem dX9_isBad_41 : decode cX9_isBad 41 = .ok (.iconst 4, 1) := by decide +kernel
theorem dX9_isBad_42 : decode cX9_isBad 42 = .ok (.iadd, 1) := by decide +kernel
theorem dX9_isBad_43 : decode cX9_isBad 43 = .ok (.invokestatic 197, 3) := by decide +kernel
theorem dX9_isBad_46 : decode cX9_isBad 46 = .ok (.aload_n 0, 1) := by decide +kernel
theorem dX9_isBad_47 : decode cX9_isBad 47 = .ok (.getfield 56, 3) := by decide +kernel
theorem dX9_isBad_50 : decode cX9_isBad 50 = .ok (.iload_n 1, 1) := by decide +kernel
theorem dX9_isBad_51 : decode cX9_isBad 51 = .ok (.iaload, 1) := by decide +kernel
theorem dX9_isBad_52 : decode cX9_isBad 52 = .ok (.if_icmp .eq 5, 3) := by decide +kernel
theorem dX9_isBad_55 : decode cX9_isBad 55 = .ok (.iconst 1, 1) := by decide +kernel
theorem dX9_isBad_56 : decode cX9_isBad 56 = .ok (.ireturn, 1) := by decide +kernel
theorem dX9_isBad_57 : decode cX9_isBad 57 = .ok (.aload_n 0, 1) := by decide +kernel
theorem dX9_isBad_58 : decode cX9_isBad 58 = .ok (.getfield 9, 3) := by decide +kernel
theorem dX9_isBad_61 : decode cX9_isBad 61 = .ok (.iload_n 2, 1) := by decide +kernel
theorem dX9_isBad_62 : decode cX9_isBad 62 = .ok (.bipush 8, 2) := by decide +kernel
theorem dX9_isBad_64 : decode cX9_isBad 64 = .ok (.iadd, 1) := by decide +kernel
theorem dX9_isBad_65 : decode cX9_isBad 65 = .ok (.invokestatic 201, 3) := by decide +kernel
theorem dX9_isBad_68 : decode cX9_isBad 68 = .ok (.aload_n 0, 1) := by decide +kernel
theorem dX9_isBad_69 : decode cX9_isBad 69 = .ok (.getfield 44, 3) := by decide +kernel
theorem dX9_isBad_72 : decode cX9_isBad 72 = .ok (.iload_n 1, 1) := by decide +kernel
theorem dX9_isBad_73 : decode cX9_isBad 73 = .ok (.iaload, 1) := by decide +kernel
theorem dX9_isBad_74 : decode cX9_isBad 74 = .ok (.if_icmp .ne 23, 3) := by decide +kernel
theorem dX9_isBad_77 : decode cX9_isBad 77 = .ok (.aload_n 0, 1) := by decide +kernel
theorem dX9_isBad_78 : decode cX9_isBad 78 = .ok (.getfield 9, 3) := by decide +kernel
theorem dX9_isBad_81 : decode cX9_isBad 81 = .ok (.iload_n 2, 1) := by decide +kernel
theorem dX9_isBad_82 : decode cX9_isBad 82 = .ok (.bipush 10, 2) := by decide +kernel
theorem dX9_isBad_84 : decode cX9_isBad 84 = .ok (.iadd, 1) := by decide +kernel
theorem dX9_isBad_85 : decode cX9_isBad 85 = .ok (.invokestatic 197, 3) := by decide +kernel
theorem dX9_isBad_88 : decode cX9_isBad 88 = .ok (.aload_n 0, 1) := by decide +kernel
theorem dX9_isBad_89 : decode cX9_isBad 89 = .ok (.getfield 53, 3) := by decide +kernel
theorem dX9_isBad_92 : decode cX9_isBad 92 = .ok (.iload_n 1, 1) := by decide +kernel
theorem dX9_isBad_93 : decode cX9_isBad 93 = .ok (.iaload, 1) := by decide +kernel
theorem dX9_isBad_94 : decode cX9_isBad 94 = .ok (.if_icmp .eq 5, 3) := by decide +kernel
theorem dX9_isBad_97 : decode cX9_isBad 97 = .ok (.iconst 1, 1) := by decide +kernel
theorem dX9_isBad_98 : decode cX9_isBad 98 = .ok (.ireturn, 1) := by decide +kernel
theorem dX9_isBad_99 : decode cX9_isBad 99 = .ok (.aload_n 0, 1) := by decide +kernel
theorem dX9_isBad_100 : decode cX9_isBad 100 = .ok (.getfield 9, 3) := by decide +kernel
theorem dX9_isBad_103 : decode cX9_isBad 103 = .ok (.iload_n 2, 1) := by decide +kernel
theorem dX9_isBad_104 : decode cX9_isBad 104 = .ok (.bipush 14, 2) := by decide +kernel
theorem dX9_isBad_106 : decode cX9_isBad 106 = .ok (.iadd, 1) := by decide +kernel
theorem dX9_isBad_107 : decode cX9_isBad 107 = .ok (.aload_n 0, 1) := by decide +kernel
theorem dX9_isBad_108 : decode cX9_isBad 108 = .ok (.getfield 44, 3) := by decide +kernel
theorem dX9_isBad_111 : decode cX9_isBad 111 = .ok (.iload_n 1, 1) := by decide +kernel
theorem dX9_isBad_112 : decode cX9_isBad 112 = .ok (.iaload, 1) := by decide +kernel
theorem dX9_isBad_113 : decode cX9_isBad 113 = .ok (.aload_n 0, 1) := by decide +kernel
theorem dX9_isBad_114 : decode cX9_isBad 114 = .ok (.getfield 41, 3) := by decide +kernel
theorem dX9_isBad_117 : decode cX9_isBad 117 = .ok (.bipush 16, 2) := by decide +kernel
theorem dX9_isBad_119 : decode cX9_isBad 119 = .ok (.iload_n 1, 1) := by decide +kernel
theorem dX9_isBad_120 : decode cX9_isBad 120 = .ok (.imul, 1) := by decide +kernel
theorem dX9_isBad_121 : decode cX9_isBad 121 = .ok (.aload_n 0, 1) := by decide +kernel
theorem dX9_isBad_122 : decode cX9_isBad 122 = .ok (.getfield 44, 3) := by decide +kernel
theorem dX9_isBad_125 : decode cX9_isBad 125 = .ok (.iload_n 1, 1) := by decide +kernel
theorem dX9_isBad_126 : decode cX9_isBad 126 = .ok (.iaload, 1) := by decide +kernel
theorem dX9_isBad_127 : decode cX9_isBad 127 = .ok (.invokestatic 170, 3) := by decide +kernel
theorem dX9_isBad_130 : decode cX9_isBad 130 = .ok (.ifCond .eq 7, 3) := by decide +kernel
theorem dX9_isBad_133 : decode cX9_isBad 133 = .ok (.iconst 1, 1) := by decide +kernel
theorem dX9_isBad_134 : decode cX9_isBad 134 = .ok (.goto 4, 3) := by decide +kernel
theorem dX9_isBad_137 : decode cX9_isBad 137 = .ok (.iconst 0, 1) := by decide +kernel
theorem dX9_isBad_138 : decode cX9_isBad 138 = .ok (.ireturn, 1) := by decide +kernel
def X9_isBad (a0 : Nat) (i1 : Int32) : M Int32 := bd (ck 12 a0) (fun _ => bd (X9_recordAt a0 i1) (fun x1 => bd (ck 12 a0) (fun _ => bd (X9_recordBytes a0 i1) (fun x2 => bd (gR 12 3 a0) (fun y3 => bd (X9_sum y3 (x1 + 4) (x1 + x2)) (fun x4 => bd (gR 12 3 a0) (fun y5 => bd (X9_number4 y5 x1) (fun x6 => it (¬ x4 = x6) (pu 1) (bd (gR 12 3 a0) (fun y7 => bd (X9_number4 y7 (x1 + 4)) (fun x8 => bd (gR 12 32 a0) (fun y9 => bd (al 22 y9 i1) (fun x10 => it (x8 = x10) (bd (gR 12 3 a0) (fun y11 => bd (X9_number2 y11 (x1 + 8)) (fun x12 => bd (gR 12 28 a0) (fun y13 => bd (al 22 y13 i1) (fun x14 => it (¬ x12 = x14) (pu 1) (bd (gR 12 3 a0) (fun y15 => bd (X9_number4 y15 (x1 + 10)) (fun x16 => bd (gR 12 31 a0) (fun y17 => bd (al 22 y17 i1) (fun x18 => it (x16 = x18) (bd (gR 12 3 a0) (fun y19 => bd (gR 12 28 a0) (fun y20 => bd (al 22 y20 i1) (fun x21 => bd (gR 12 27 a0) (fun y22 => bd (gR 12 28 a0) (fun y23 => bd (al 22 y23 i1) (fun x24 => bd (X9_order y19 (x1 + 14) x21 y22 (16 * i1) x24) (fun x25 => it (x25 = 0) (pu 0) (pu 1))))))))) (pu 1))))))))))) (pu 1))))))))))))))
section
variable {G : Gx} {p : Program} {l : Launch} {e : Env} {R : Room} {s : State} {m : MethodId} {args : Array Value} {below : List Frame} {meth : Method} {c : Code} {h0 : Hp} {r : Int32} {h' : Hp}
end
set_option maxRecDepth 20000 in
theorem con_X9_isBad (l : Launch) (G : Gx) (a0 : Nat) (i1 : Int32) : Con G rvI l yX9_isBad cX9_isBad 4 (some .boolean) 3 72 [.ref a0, .int i1] (X9_isBad a0 i1) := by
  refine con_of (lv := [(0, .ref a0), (1, .int i1)]) (by decide) (Nat.le_of_ble_eq_true rfl) rfl (fun p e R s m args below meth c h0 r h' C hF hO hr hm => ?_)
  refine s_aload_n C 0 dX9_isBad_0 rfl rfl ?_
  refine s_iload_n C 1 dX9_isBad_1 rfl rfl ?_
  refine s_invV_i C ci12 cy_X9_recordAt (Or.inl wd_7_135) rfl wd_7_137 wp_46 (con_X9_recordAt l G a0 i1) rfl rfl (Nat.le_of_ble_eq_true rfl) (by rw [hF]; decide) (by rw [hO]; exact Nat.le_of_ble_eq_true rfl) dX9_isBad_2 (fun x1 => ?_)
  refine s_istore_n (lv' := [(2, .int x1), (0, .ref a0), (1, .int i1)]) C dX9_isBad_5 rfl (by decide) rfl ?_
  refine s_aload_n C 1 dX9_isBad_6 rfl rfl ?_
  refine s_iload_n C 2 dX9_isBad_7 rfl rfl ?_
  refine s_invV_i C ci12 cy_X9_recordBytes (Or.inl wd_7_139) rfl wd_7_141 wp_47 (con_X9_recordBytes l G a0 i1) rfl rfl (Nat.le_of_ble_eq_true rfl) (by rw [hF]; decide) (by rw [hO]; exact Nat.le_of_ble_eq_true rfl) dX9_isBad_8 (fun x2 => ?_)
  refine s_istore_n (lv' := [(3, .int x2), (2, .int x1), (0, .ref a0), (1, .int i1)]) C dX9_isBad_11 rfl (by decide) rfl ?_
  refine s_aload_n C 2 dX9_isBad_12 rfl rfl ?_
  refine s_gR C ci12 3 (by decide) (Or.inl wd_6_118) dX9_isBad_13 (fun y3 => ?_)
  refine s_iload_n C 1 dX9_isBad_16 rfl rfl ?_
  refine s_iconst (v := 4) C dX9_isBad_17 (by decide) ?_
  refine s_iadd C dX9_isBad_18 ?_
  refine s_iload_n C 1 dX9_isBad_19 rfl rfl ?_
  refine s_iload_n C 0 dX9_isBad_20 rfl rfl ?_
  refine s_iadd C dX9_isBad_21 ?_
  refine s_invS_i C cy_X9_sum (Or.inl wd_7_88) wd_7_89 (con_X9_sum l G y3 (x1 + 4) (x1 + x2)) rfl rfl (Nat.le_of_ble_eq_true rfl) (by rw [hF]; decide) (by rw [hO]; exact Nat.le_of_ble_eq_true rfl) dX9_isBad_22 (fun x4 => ?_)
  refine s_aload_n C 2 dX9_isBad_25 rfl rfl ?_
  refine s_gR C ci12 3 (by decide) (Or.inl wd_6_118) dX9_isBad_26 (fun y5 => ?_)
  refine s_iload_n C 1 dX9_isBad_29 rfl rfl ?_
  refine s_invS_i C cy_X9_number4 (Or.inl wd_7_143) wd_7_144 (con_X9_number4 l G y5 x1) rfl rfl (Nat.le_of_ble_eq_true rfl) (by rw [hF]; decide) (by rw [hO]; exact Nat.le_of_ble_eq_true rfl) dX9_isBad_30 (fun x6 => ?_)
  refine s_icmp_ne (tgt := 55) C dX9_isBad_33 (by decide) ?_ ?_
  · refine s_iconst (v := 1) C dX9_isBad_55 (by decide) ?_
    exact s_zret C hr rfl (Or.inr rfl) dX9_isBad_56
  refine s_aload_n C 2 dX9_isBad_36 rfl rfl ?_
  refine s_gR C ci12 3 (by decide) (Or.inl wd_6_118) dX9_isBad_37 (fun y7 => ?_)
  refine s_iload_n C 1 dX9_isBad_40 rfl rfl ?_
  refine s_iconst (v := 4) C dX9_isBad_41 (by decide) ?_
  refine s_iadd C dX9_isBad_42 ?_
  refine s_invS_i C cy_X9_number4 (Or.inl wd_7_143) wd_7_144 (con_X9_number4 l G y7 (x1 + 4)) rfl rfl (Nat.le_of_ble_eq_true rfl) (by rw [hF]; decide) (by rw [hO]; exact Nat.le_of_ble_eq_true rfl) dX9_isBad_43 (fun x8 => ?_)
  refine s_aload_n C 2 dX9_isBad_46 rfl rfl ?_
  refine s_gR C ci12 32 (by decide) (Or.inl wd_6_147) dX9_isBad_47 (fun y9 => ?_)
  refine s_iload_n C 3 dX9_isBad_50 rfl rfl ?_
  refine s_al22 C dX9_isBad_51 (fun x10 => ?_)
  refine s_icmp_eq (tgt := 57) C dX9_isBad_52 (by decide) ?_ ?_
  · refine s_aload_n C 2 dX9_isBad_57 rfl rfl ?_
    refine s_gR C ci12 3 (by decide) (Or.inl wd_6_118) dX9_isBad_58 (fun y11 => ?_)
    refine s_iload_n C 1 dX9_isBad_61 rfl rfl ?_
    refine s_bipush (v := 8) C dX9_isBad_62 (by decide) ?_
    refine s_iadd C dX9_isBad_64 ?_
    refine s_invS_i C cy_X9_number2 (Or.inl wd_7_146) wd_7_147 (con_X9_number2 l G y11 (x1 + 8)) rfl rfl (Nat.le_of_ble_eq_true rfl) (by rw [hF]; decide) (by rw [hO]; exact Nat.le_of_ble_eq_true rfl) dX9_isBad_65 (fun x12 => ?_)
    refine s_aload_n C 2 dX9_isBad_68 rfl rfl ?_
    refine s_gR C ci12 28 (by decide) (Or.inl wd_6_143) dX9_isBad_69 (fun y13 => ?_)
    refine s_iload_n C 3 dX9_isBad_72 rfl rfl ?_
    refine s_al22 C dX9_isBad_73 (fun x14 => ?_)
    refine s_icmp_ne (tgt := 97) C dX9_isBad_74 (by decide) ?_ ?_
    · refine s_iconst (v := 1) C dX9_isBad_97 (by decide) ?_
      exact s_zret C hr rfl (Or.inr rfl) dX9_isBad_98
    refine s_aload_n C 2 dX9_isBad_77 rfl rfl ?_
    refine s_gR C ci12 3 (by decide) (Or.inl wd_6_118) dX9_isBad_78 (fun y15 => ?_)
    refine s_iload_n C 1 dX9_isBad_81 rfl rfl ?_
    refine s_bipush (v := 10) C dX9_isBad_82 (by decide) ?_
    refine s_iadd C dX9_isBad_84 ?_
    refine s_invS_i C cy_X9_number4 (Or.inl wd_7_143) wd_7_144 (con_X9_number4 l G y15 (x1 + 10)) rfl rfl (Nat.le_of_ble_eq_true rfl) (by rw [hF]; decide) (by rw [hO]; exact Nat.le_of_ble_eq_true rfl) dX9_isBad_85 (fun x16 => ?_)
    refine s_aload_n C 2 dX9_isBad_88 rfl rfl ?_
    refine s_gR C ci12 31 (by decide) (Or.inl wd_6_146) dX9_isBad_89 (fun y17 => ?_)
    refine s_iload_n C 3 dX9_isBad_92 rfl rfl ?_
    refine s_al22 C dX9_isBad_93 (fun x18 => ?_)
    refine s_icmp_eq (tgt := 99) C dX9_isBad_94 (by decide) ?_ ?_
    · refine s_aload_n C 2 dX9_isBad_99 rfl rfl ?_
      refine s_gR C ci12 3 (by decide) (Or.inl wd_6_118) dX9_isBad_100 (fun y19 => ?_)
      refine s_iload_n C 1 dX9_isBad_103 rfl rfl ?_
      refine s_bipush (v := 14) C dX9_isBad_104 (by decide) ?_
      refine s_iadd C dX9_isBad_106 ?_
      refine s_aload_n C 2 dX9_isBad_107 rfl rfl ?_
      refine s_gR C ci12 28 (by decide) (Or.inl wd_6_143) dX9_isBad_108 (fun y20 => ?_)
      refine s_iload_n C 3 dX9_isBad_111 rfl rfl ?_
      refine s_al22 C dX9_isBad_112 (fun x21 => ?_)
      refine s_aload_n C 2 dX9_isBad_113 rfl rfl ?_
      refine s_gR C ci12 27 (by decide) (Or.inl wd_6_142) dX9_isBad_114 (fun y22 => ?_)
      refine s_bipush (v := 16) C dX9_isBad_117 (by decide) ?_
      refine s_iload_n C 3 dX9_isBad_119 rfl rfl ?_
      refine s_imul C dX9_isBad_120 ?_
      refine s_aload_n C 2 dX9_isBad_121 rfl rfl ?_
      refine s_gR C ci12 28 (by decide) (Or.inl wd_6_143) dX9_isBad_122 (fun y23 => ?_)
      refine s_iload_n C 3 dX9_isBad_125 rfl rfl ?_
      refine s_al22 C dX9_isBad_126 (fun x24 => ?_)
      refine s_invS_i C cy_X9_order (Or.inl wd_7_108) wd_7_109 (con_X9_order l G y19 (x1 + 14) x21 y22 (16 * i1) x24) rfl rfl (Nat.le_of_ble_eq_true rfl) (by rw [hF]; decide) (by rw [hO]; exact Nat.le_of_ble_eq_true rfl) dX9_isBad_127 (fun x25 => ?_)
      refine s_if_eq (tgt := 137) C dX9_isBad_130 (by decide) ?_ ?_
      · refine s_iconst (v := 0) C dX9_isBad_137 (by decide) ?_
        exact s_zret C hr rfl (Or.inl rfl) dX9_isBad_138
      refine s_iconst (v := 1) C dX9_isBad_133 (by decide) ?_
      refine s_goto (tgt := 138) C dX9_isBad_134 (by decide) ?_
      exact s_zret C hr rfl (Or.inr rfl) dX9_isBad_138
    refine s_iconst (v := 1) C dX9_isBad_97 (by decide) ?_
    exact s_zret C hr rfl (Or.inr rfl) dX9_isBad_98
  refine s_iconst (v := 1) C dX9_isBad_55 (by decide) ?_
  exact s_zret C hr rfl (Or.inr rfl) dX9_isBad_56

theorem dX9_feed_0 : decode cX9_feed 0 = .ok (.aload_n 0, 1) := by decide +kernel
theorem dX9_feed_1 : decode cX9_feed 1 = .ok (.iload_n 1, 1) := by decide +kernel
theorem dX9_feed_2 : decode cX9_feed 2 = .ok (.iconst 1, 1) := by decide +kernel
theorem dX9_feed_3 : decode cX9_feed 3 = .ok (.if_icmp .lt 9, 3) := by decide +kernel
theorem dX9_feed_6 : decode cX9_feed 6 = .ok (.iload_n 1, 1) := by decide +kernel
theorem dX9_feed_7 : decode cX9_feed 7 = .ok (.bipush 16, 2) := by decide +kernel
theorem dX9_feed_9 : decode cX9_feed 9 = .ok (.if_icmp .le 7, 3) := by decide +kernel
theorem dX9_feed_12 : decode cX9_feed 12 = .ok (.iconst 1, 1) := by decide +kernel
theorem dX9_feed_13 : decode cX9_feed 13 = .ok (.goto 19, 3) := by decide +kernel
theorem dX9_feed_16 : decode cX9_feed 16 = .ok (.aload_n 0, 1) := by decide +kernel
theorem dX9_feed_17 : decode cX9_feed 17 = .ok (.getfield 204, 3) := by decide +kernel
theorem dX9_feed_20 : decode cX9_feed 20 = .ok (.iload_n 1, 1) := by decide +kernel
theorem dX9_feed_21 : decode cX9_feed 21 = .ok (.iadd, 1) := by decide +kernel
theorem dX9_feed_22 : decode cX9_feed 22 = .ok (.bipush 80, 2) := by decide +kernel
theorem dX9_feed_24 : decode cX9_feed 24 = .ok (.if_icmp .le 7, 3) := by decide +kernel
theorem dX9_feed_27 : decode cX9_feed 27 = .ok (.iconst 2, 1) := by decide +kernel
theorem dX9_feed_28 : decode cX9_feed 28 = .ok (.goto 4, 3) := by decide +kernel
theorem dX9_feed_31 : decode cX9_feed 31 = .ok (.iconst 0, 1) := by decide +kernel
theorem dX9_feed_32 : decode cX9_feed 32 = .ok (.putfield 93, 3) := by decide +kernel
theorem dX9_feed_35 : decode cX9_feed 35 = .ok (.aload_n 0, 1) := by decide +kernel
theorem dX9_feed_36 : decode cX9_feed 36 = .ok (.getfield 93, 3) := by decide +kernel
theorem dX9_feed_39 : decode cX9_feed 39 = .ok (.ifCond .le 5, 3) := by decide +kernel
theorem dX9_feed_42 : decode cX9_feed 42 = .ok (.iconst 0, 1) := by decide +kernel
theorem dX9_feed_43 : decode cX9_feed 43 = .ok (.ireturn, 1) := by decide +kernel
theorem dX9_feed_44 : decode cX9_feed 44 = .ok (.iconst 0, 1) := by decide +kernel
theorem dX9_feed_45 : decode cX9_feed 45 = .ok (.istore 6, 2) := by decide +kernel
theorem dX9_feed_47 : decode cX9_feed 47 = .ok (.iload 6, 2) := by decide +kernel
theorem dX9_feed_49 : decode cX9_feed 49 = .ok (.iload_n 1, 1) := by decide +kernel
theorem dX9_feed_50 : decode cX9_feed 50 = .ok (.if_icmp .ge 58, 3) := by decide +kernel
theorem dX9_feed_53 : decode cX9_feed 53 = .ok (.aload_n 0, 1) := by decide +kernel
theorem dX9_feed_54 : decode cX9_feed 54 = .ok (.getfield 35, 3) := by decide +kernel
theorem dX9_feed_57 : decode cX9_feed 57 = .ok (.aload_n 0, 1) := by decide +kernel
theorem dX9_feed_58 : decode cX9_feed 58 = .ok (.getfield 204, 3) := by decide +kernel
theorem dX9_feed_61 : decode cX9_feed 61 = .ok (.iload 6, 2) := by decide +kernel
theorem dX9_feed_63 : decode cX9_feed 63 = .ok (.bipush 8, 2) := by decide +kernel
theorem dX9_feed_65 : decode cX9_feed 65 = .ok (.if_icmp .ge 13, 3) := by decide +kernel
theorem dX9_feed_68 : decode cX9_feed 68 = .ok (.lload_n 2, 1) := by decide +kernel
theorem dX9_feed_69 : decode cX9_feed 69 = .ok (.bipush 8, 2) := by decide +kernel
theorem dX9_feed_71 : decode cX9_feed 71 = .ok (.iload 6, 2) := by decide +kernel
theorem dX9_feed_73 : decode cX9_feed 73 = .ok (.imul, 1) := by decide +kernel
theorem dX9_feed_74 : decode cX9_feed 74 = .ok (.lshr, 1) := by decide +kernel
theorem dX9_feed_75 : decode cX9_feed 75 = .ok (.goto 14, 3) := by decide +kernel
theorem dX9_feed_78 : decode cX9_feed 78 = .ok (.lload 4, 2) := by decide +kernel
theorem dX9_feed_80 : decode cX9_feed 80 = .ok (.bipush 8, 2) := by decide +kernel
theorem dX9_feed_82 : decode cX9_feed 82 = .ok (.iload 6, 2) := by decide +kernel
theorem dX9_feed_84 : decode cX9_feed 84 = .ok (.bipush 8, 2) := by decide +kernel
theorem dX9_feed_86 : decode cX9_feed 86 = .ok (.isub, 1) := by decide +kernel
theorem dX9_feed_87 : decode cX9_feed 87 = .ok (.imul, 1) := by decide +kernel
theorem dX9_feed_88 : decode cX9_feed 88 = .ok (.lshr, 1) := by decide +kernel
theorem dX9_feed_89 : decode cX9_feed 89 = .ok (.l2i, 1) := by decide +kernel
theorem dX9_feed_90 : decode cX9_feed 90 = .ok (.i2b, 1) := by decide +kernel
theorem dX9_feed_91 : decode cX9_feed 91 = .ok (.bastore, 1) := by decide +kernel
theorem dX9_feed_92 : decode cX9_feed 92 = .ok (.aload_n 0, 1) := by decide +kernel
theorem dX9_feed_93 : decode cX9_feed 93 = .ok (.dup, 1) := by decide +kernel
theorem dX9_feed_94 : decode cX9_feed 94 = .ok (.getfield 204, 3) := by decide +kernel
theorem dX9_feed_97 : decode cX9_feed 97 = .ok (.iconst 1, 1) := by decide +kernel
theorem dX9_feed_98 : decode cX9_feed 98 = .ok (.iadd, 1) := by decide +kernel
theorem dX9_feed_99 : decode cX9_feed 99 = .ok (.putfield 204, 3) := by decide +kernel
theorem dX9_feed_102 : decode cX9_feed 102 = .ok (.iinc 6 1, 3) := by decide +kernel
theorem dX9_feed_105 : decode cX9_feed 105 = .ok (.goto (-58), 3) := by decide +kernel
theorem dX9_feed_108 : decode cX9_feed 108 = .ok (.aload_n 0, 1) := by decide +kernel
theorem dX9_feed_109 : decode cX9_feed 109 = .ok (.getfield 204, 3) := by decide +kernel
theorem dX9_feed_112 : decode cX9_feed 112 = .ok (.ireturn, 1) := by decide +kernel
def X9_feed_b89 (k47 : Nat → Int32 → Int64 → Int64 → Int32 → M Int32)  (a0 : Nat) (i1 : Int32) (l2 : Int64) (l4 : Int64) (i6 : Int32) (s0 : Int64) (s1 : Int32) (s2 : Nat) : M Int32 := bd (as 21 s2 s1 ((((s0 : Int64).toInt32) : Int32).toInt8.toInt32)) (fun _ => bd (gI 12 16 a0) (fun x1 => bd (pV 12 16 a0 (.int (x1 + 1))) (fun _ => k47 a0 i1 l2 l4 (i6 + 1))))
def X9_feed_b47b  (k47 : Nat → Int32 → Int64 → Int64 → Int32 → M Int32) (a0 : Nat) (i1 : Int32) (l2 : Int64) (l4 : Int64) (i6 : Int32) : M Int32 := it (i1 ≤ i6) (bd (gI 12 16 a0) (fun x1 => pu x1)) (bd (gR 12 15 a0) (fun y2 => bd (gI 12 16 a0) (fun x3 => it (8 ≤ i6) (X9_feed_b89 k47  a0 i1 l2 l4 i6 (l4 >>> (((8 * (i6 - 8)) : Int32).toInt64 &&& 63)) x3 y2) (X9_feed_b89 k47  a0 i1 l2 l4 i6 (l2 >>> (((8 * i6) : Int32).toInt64 &&& 63)) x3 y2))))
def X9_feed_b47  : Nat → Nat → Int32 → Int64 → Int64 → Int32 → M Int32
  | 0 => fun _ _ _ _ _ => fl
  | n + 1 => fun a0 i1 l2 l4 i6 => X9_feed_b47b  (X9_feed_b47  n) a0 i1 l2 l4 i6
def X9_feed_b32   (a0 : Nat) (i1 : Int32) (l2 : Int64) (l4 : Int64) (s0 : Int32) (s1 : Nat) : M Int32 := bd (pV 12 0 s1 (.int s0)) (fun _ => bd (gI 12 0 a0) (fun x1 => it (x1 ≤ 0) (X9_feed_b47  FU a0 i1 l2 l4 0) (pu 0)))
def X9_feed_b12   (a0 : Nat) (i1 : Int32) (l2 : Int64) (l4 : Int64) (s0 : Nat) : M Int32 := X9_feed_b32   a0 i1 l2 l4 1 s0
def X9_feed (a0 : Nat) (i1 : Int32) (l2 : Int64) (l4 : Int64) : M Int32 := it (i1 < 1) (X9_feed_b12   a0 i1 l2 l4 a0) (it (i1 ≤ 16) (bd (gI 12 16 a0) (fun x1 => it ((x1 + i1) ≤ 80) (X9_feed_b32   a0 i1 l2 l4 0 a0) (X9_feed_b32   a0 i1 l2 l4 2 a0))) (X9_feed_b12   a0 i1 l2 l4 a0))
section
variable {G : Gx} {p : Program} {l : Launch} {e : Env} {R : Room} {s : State} {m : MethodId} {args : Array Value} {below : List Frame} {meth : Method} {c : Code} {h0 : Hp} {r : Int32} {h' : Hp}
set_option maxRecDepth 20000 in
theorem X9_feed_b89_s (C : Cx G p R s m args meth c cX9_feed 7 yX9_feed.cls h0 h') (hF : R.frames = 0) (hO : R.locals = 0) (hr : meth.sig.returnType = (some .int)) (hm : meth.name = yX9_feed.name) {k47 : Nat → Int32 → Int64 → Int64 → Int32 → M Int32} (hk47 : ∀ (a0 : Nat) (i1 : Int32) (l2 : Int64) (l4 : Int64) (i6 : Int32), Sm G (QM G rvI below args s h0 r h') p l e R s m args below meth c 7 h0 r h' 47 [(0, .ref a0), (1, .int i1), (2, .long l2), (4, .long l4), (6, .int i6)] [] (k47 a0 i1 l2 l4 i6))  (a0 : Nat) (i1 : Int32) (l2 : Int64) (l4 : Int64) (i6 : Int32) (s0 : Int64) (s1 : Int32) (s2 : Nat) : Sm G (QM G rvI below args s h0 r h') p l e R s m args below meth c 7 h0 r h' 89 [(0, .ref a0), (1, .int i1), (2, .long l2), (4, .long l4), (6, .int i6)] [.long s0, .int s1, .ref s2] (X9_feed_b89 k47  a0 i1 l2 l4 i6 s0 s1 s2) := by
  refine s_l2i C dX9_feed_89 ?_
  refine s_i2b C dX9_feed_90 ?_
  refine s_as21 C dX9_feed_91 ?_
  refine s_aload_n C 0 dX9_feed_92 rfl rfl ?_
  refine s_dup C dX9_feed_93 rfl ?_
  refine s_gI C ci12 16 (by decide) (Or.inl wd_6_131) dX9_feed_94 (fun x1 => ?_)
  refine s_iconst (v := 1) C dX9_feed_97 (by decide) ?_
  refine s_iadd C dX9_feed_98 ?_
  refine s_pV C ci12 16 (by decide) rfl (Or.inl wd_6_131) dX9_feed_99 rfl rfl ?_
  refine s_iincK (lv' := [(6, .int (i6 + 1)), (0, .ref a0), (1, .int i1), (2, .long l2), (4, .long l4)]) (w := 1) C 4 dX9_feed_102 rfl (by decide) (by decide) rfl ?_
  refine s_goto (tgt := 47) C dX9_feed_105 (by decide) ?_
  refine s_sub [1, 2, 3, 4, 0] rfl ?_
  exact hk47 a0 i1 l2 l4 (i6 + 1)
set_option maxRecDepth 20000 in
theorem X9_feed_b47b_s (C : Cx G p R s m args meth c cX9_feed 7 yX9_feed.cls h0 h') (hF : R.frames = 0) (hO : R.locals = 0) (hr : meth.sig.returnType = (some .int)) (hm : meth.name = yX9_feed.name)  {k47 : Nat → Int32 → Int64 → Int64 → Int32 → M Int32} (hk47 : ∀ (a0 : Nat) (i1 : Int32) (l2 : Int64) (l4 : Int64) (i6 : Int32), Sm G (QM G rvI below args s h0 r h') p l e R s m args below meth c 7 h0 r h' 47 [(0, .ref a0), (1, .int i1), (2, .long l2), (4, .long l4), (6, .int i6)] [] (k47 a0 i1 l2 l4 i6)) (a0 : Nat) (i1 : Int32) (l2 : Int64) (l4 : Int64) (i6 : Int32) : Sm G (QM G rvI below args s h0 r h') p l e R s m args below meth c 7 h0 r h' 47 [(0, .ref a0), (1, .int i1), (2, .long l2), (4, .long l4), (6, .int i6)] [] (X9_feed_b47b  k47 a0 i1 l2 l4 i6) := by
  refine s_iload C 4 dX9_feed_47 rfl ?_
  refine s_iload_n C 1 dX9_feed_49 rfl rfl ?_
  refine s_icmp_ge (tgt := 108) C dX9_feed_50 (by decide) ?_ ?_
  · refine s_aload_n C 0 dX9_feed_108 rfl rfl ?_
    refine s_gI C ci12 16 (by decide) (Or.inl wd_6_131) dX9_feed_109 (fun x1 => ?_)
    exact s_iret C hr rfl dX9_feed_112
  refine s_aload_n C 0 dX9_feed_53 rfl rfl ?_
  refine s_gR C ci12 15 (by decide) (Or.inl wd_6_130) dX9_feed_54 (fun y2 => ?_)
  refine s_aload_n C 0 dX9_feed_57 rfl rfl ?_
  refine s_gI C ci12 16 (by decide) (Or.inl wd_6_131) dX9_feed_58 (fun x3 => ?_)
  refine s_iload C 4 dX9_feed_61 rfl ?_
  refine s_bipush (v := 8) C dX9_feed_63 (by decide) ?_
  refine s_icmp_ge (tgt := 78) C dX9_feed_65 (by decide) ?_ ?_
  · refine s_lload C 3 dX9_feed_78 rfl ?_
    refine s_bipush (v := 8) C dX9_feed_80 (by decide) ?_
    refine s_iload C 4 dX9_feed_82 rfl ?_
    refine s_bipush (v := 8) C dX9_feed_84 (by decide) ?_
    refine s_isub C dX9_feed_86 ?_
    refine s_imul C dX9_feed_87 ?_
    refine s_lshr C dX9_feed_88 ?_
    exact X9_feed_b89_s C hF hO hr hm hk47  a0 i1 l2 l4 i6 (l4 >>> (((8 * (i6 - 8)) : Int32).toInt64 &&& 63)) x3 y2
  refine s_lload_n C 2 dX9_feed_68 rfl rfl ?_
  refine s_bipush (v := 8) C dX9_feed_69 (by decide) ?_
  refine s_iload C 4 dX9_feed_71 rfl ?_
  refine s_imul C dX9_feed_73 ?_
  refine s_lshr C dX9_feed_74 ?_
  refine s_goto (tgt := 89) C dX9_feed_75 (by decide) ?_
  exact X9_feed_b89_s C hF hO hr hm hk47  a0 i1 l2 l4 i6 (l2 >>> (((8 * i6) : Int32).toInt64 &&& 63)) x3 y2
set_option maxRecDepth 20000 in
theorem X9_feed_b47_s (C : Cx G p R s m args meth c cX9_feed 7 yX9_feed.cls h0 h') (hF : R.frames = 0) (hO : R.locals = 0) (hr : meth.sig.returnType = (some .int)) (hm : meth.name = yX9_feed.name)  (n : Nat) : ∀ (a0 : Nat) (i1 : Int32) (l2 : Int64) (l4 : Int64) (i6 : Int32), Sm G (QM G rvI below args s h0 r h') p l e R s m args below meth c 7 h0 r h' 47 [(0, .ref a0), (1, .int i1), (2, .long l2), (4, .long l4), (6, .int i6)] [] (X9_feed_b47  n a0 i1 l2 l4 i6) := by
  induction n with
  | zero => intro a0 i1 l2 l4 i6; exact s_fl
  | succ n ih => intro a0 i1 l2 l4 i6; exact X9_feed_b47b_s C hF hO hr hm  ih a0 i1 l2 l4 i6
set_option maxRecDepth 20000 in
theorem X9_feed_b32_s (C : Cx G p R s m args meth c cX9_feed 7 yX9_feed.cls h0 h') (hF : R.frames = 0) (hO : R.locals = 0) (hr : meth.sig.returnType = (some .int)) (hm : meth.name = yX9_feed.name)   (a0 : Nat) (i1 : Int32) (l2 : Int64) (l4 : Int64) (s0 : Int32) (s1 : Nat) : Sm G (QM G rvI below args s h0 r h') p l e R s m args below meth c 7 h0 r h' 32 [(0, .ref a0), (1, .int i1), (2, .long l2), (4, .long l4)] [.int s0, .ref s1] (X9_feed_b32   a0 i1 l2 l4 s0 s1) := by
  refine s_pV C ci12 0 (by decide) rfl (Or.inl wd_6_115) dX9_feed_32 rfl rfl ?_
  refine s_aload_n C 0 dX9_feed_35 rfl rfl ?_
  refine s_gI C ci12 0 (by decide) (Or.inl wd_6_115) dX9_feed_36 (fun x1 => ?_)
  refine s_if_le (tgt := 44) C dX9_feed_39 (by decide) ?_ ?_
  · refine s_iconst (v := 0) C dX9_feed_44 (by decide) ?_
    refine s_istore (lv' := [(6, .int 0), (0, .ref a0), (1, .int i1), (2, .long l2), (4, .long l4)]) C dX9_feed_45 (by decide) rfl ?_
    refine s_sub [1, 2, 3, 4, 0] rfl ?_
    exact X9_feed_b47_s C hF hO hr hm  FU a0 i1 l2 l4 0
  refine s_iconst (v := 0) C dX9_feed_42 (by decide) ?_
  exact s_iret C hr rfl dX9_feed_43
set_option maxRecDepth 20000 in
theorem X9_feed_b12_s (C : Cx G p R s m args meth c cX9_feed 7 yX9_feed.cls h0 h') (hF : R.frames = 0) (hO : R.locals = 0) (hr : meth.sig.returnType = (some .int)) (hm : meth.name = yX9_feed.name)   (a0 : Nat) (i1 : Int32) (l2 : Int64) (l4 : Int64) (s0 : Nat) : Sm G (QM G rvI below args s h0 r h') p l e R s m args below meth c 7 h0 r h' 12 [(0, .ref a0), (1, .int i1), (2, .long l2), (4, .long l4)] [.ref s0] (X9_feed_b12   a0 i1 l2 l4 s0) := by
  refine s_iconst (v := 1) C dX9_feed_12 (by decide) ?_
  refine s_goto (tgt := 32) C dX9_feed_13 (by decide) ?_
  exact X9_feed_b32_s C hF hO hr hm   a0 i1 l2 l4 1 s0
end
set_option maxRecDepth 20000 in
theorem con_X9_feed (l : Launch) (G : Gx) (a0 : Nat) (i1 : Int32) (l2 : Int64) (l4 : Int64) : Con G rvI l yX9_feed cX9_feed 7 (some .int) 0 0 [.ref a0, .int i1, .long l2, .long l4] (X9_feed a0 i1 l2 l4) := by
  refine con_of (lv := [(0, .ref a0), (1, .int i1), (2, .long l2), (4, .long l4)]) (by decide) (Nat.le_of_ble_eq_true rfl) rfl (fun p e R s m args below meth c h0 r h' C hF hO hr hm => ?_)
  refine s_aload_n C 0 dX9_feed_0 rfl rfl ?_
  refine s_iload_n C 1 dX9_feed_1 rfl rfl ?_
  refine s_iconst (v := 1) C dX9_feed_2 (by decide) ?_
  refine s_icmp_lt (tgt := 12) C dX9_feed_3 (by decide) ?_ ?_
  · exact X9_feed_b12_s C hF hO hr hm   a0 i1 l2 l4 a0
  refine s_iload_n C 1 dX9_feed_6 rfl rfl ?_
  refine s_bipush (v := 16) C dX9_feed_7 (by decide) ?_
  refine s_icmp_le (tgt := 16) C dX9_feed_9 (by decide) ?_ ?_
  · refine s_aload_n C 0 dX9_feed_16 rfl rfl ?_
    refine s_gI C ci12 16 (by decide) (Or.inl wd_6_131) dX9_feed_17 (fun x1 => ?_)
    refine s_iload_n C 1 dX9_feed_20 rfl rfl ?_
    refine s_iadd C dX9_feed_21 ?_
    refine s_bipush (v := 80) C dX9_feed_22 (by decide) ?_
    refine s_icmp_le (tgt := 31) C dX9_feed_24 (by decide) ?_ ?_
    · refine s_iconst (v := 0) C dX9_feed_31 (by decide) ?_
      exact X9_feed_b32_s C hF hO hr hm   a0 i1 l2 l4 0 a0
    refine s_iconst (v := 2) C dX9_feed_27 (by decide) ?_
    refine s_goto (tgt := 32) C dX9_feed_28 (by decide) ?_
    exact X9_feed_b32_s C hF hO hr hm   a0 i1 l2 l4 2 a0
  exact X9_feed_b12_s C hF hO hr hm   a0 i1 l2 l4 a0

theorem dX9_reserved_0 : decode cX9_reserved 0 = .ok (.aload_n 0, 1) := by decide +kernel
theorem dX9_reserved_1 : decode cX9_reserved 1 = .ok (.getfield 143, 3) := by decide +kernel
theorem dX9_reserved_4 : decode cX9_reserved 4 = .ok (.iconst 1, 1) := by decide +kernel
theorem dX9_reserved_5 : decode cX9_reserved 5 = .ok (.if_icmp .ne 15, 3) := by decide +kernel
theorem dX9_reserved_8 : decode cX9_reserved 8 = .ok (.aload_n 0, 1) := by decide +kernel
theorem dX9_reserved_9 : decode cX9_reserved 9 = .ok (.getfield 207, 3) := by decide +kernel
theorem dX9_reserved_12 : decode cX9_reserved 12 = .ok (.aload_n 0, 1) := by decide +kernel
theorem dX9_reserved_13 : decode cX9_reserved 13 = .ok (.getfield 210, 3) := by decide +kernel
theorem dX9_reserved_16 : decode cX9_reserved 16 = .ok (.isub, 1) := by decide +kernel
theorem dX9_reserved_17 : decode cX9_reserved 17 = .ok (.goto 4, 3) := by decide +kernel
theorem dX9_reserved_20 : decode cX9_reserved 20 = .ok (.iconst 0, 1) := by decide +kernel
theorem dX9_reserved_21 : decode cX9_reserved 21 = .ok (.ireturn, 1) := by decide +kernel
def X9_reserved (a0 : Nat) : M Int32 := bd (gI 12 34 a0) (fun x1 => it (¬ x1 = 1) (pu 0) (bd (gI 12 36 a0) (fun x2 => bd (gI 12 37 a0) (fun x3 => pu (x2 - x3)))))
section
variable {G : Gx} {p : Program} {l : Launch} {e : Env} {R : Room} {s : State} {m : MethodId} {args : Array Value} {below : List Frame} {meth : Method} {c : Code} {h0 : Hp} {r : Int32} {h' : Hp}
end
set_option maxRecDepth 20000 in
theorem con_X9_reserved (l : Launch) (G : Gx) (a0 : Nat) : Con G rvI l yX9_reserved cX9_reserved 1 (some .int) 0 0 [.ref a0] (X9_reserved a0) := by
  refine con_of (lv := [(0, .ref a0)]) (by decide) (Nat.le_of_ble_eq_true rfl) rfl (fun p e R s m args below meth c h0 r h' C hF hO hr hm => ?_)
  refine s_aload_n C 0 dX9_reserved_0 rfl rfl ?_
  refine s_gI C ci12 34 (by decide) (Or.inl wd_6_149) dX9_reserved_1 (fun x1 => ?_)
  refine s_iconst (v := 1) C dX9_reserved_4 (by decide) ?_
  refine s_icmp_ne (tgt := 20) C dX9_reserved_5 (by decide) ?_ ?_
  · refine s_iconst (v := 0) C dX9_reserved_20 (by decide) ?_
    exact s_iret C hr rfl dX9_reserved_21
  refine s_aload_n C 0 dX9_reserved_8 rfl rfl ?_
  refine s_gI C ci12 36 (by decide) (Or.inl wd_6_151) dX9_reserved_9 (fun x2 => ?_)
  refine s_aload_n C 0 dX9_reserved_12 rfl rfl ?_
  refine s_gI C ci12 37 (by decide) (Or.inl wd_6_152) dX9_reserved_13 (fun x3 => ?_)
  refine s_isub C dX9_reserved_16 ?_
  refine s_goto (tgt := 21) C dX9_reserved_17 (by decide) ?_
  exact s_iret C hr rfl dX9_reserved_21

theorem dX9_isFull_0 : decode cX9_isFull 0 = .ok (.iload_n 1, 1) := by decide +kernel
theorem dX9_isFull_1 : decode cX9_isFull 1 = .ok (.aload_n 0, 1) := by decide +kernel
theorem dX9_isFull_2 : decode cX9_isFull 2 = .ok (.invokevirtual 213, 3) := by decide +kernel
theorem dX9_isFull_5 : decode cX9_isFull 5 = .ok (.aload_n 0, 1) := by decide +kernel
theorem dX9_isFull_6 : decode cX9_isFull 6 = .ok (.invokevirtual 217, 3) := by decide +kernel
theorem dX9_isFull_9 : decode cX9_isFull 9 = .ok (.isub, 1) := by decide +kernel
theorem dX9_isFull_10 : decode cX9_isFull 10 = .ok (.if_icmp .gt 12, 3) := by decide +kernel
theorem dX9_isFull_13 : decode cX9_isFull 13 = .ok (.aload_n 0, 1) := by decide +kernel
theorem dX9_isFull_14 : decode cX9_isFull 14 = .ok (.getfield 134, 3) := by decide +kernel
theorem dX9_isFull_17 : decode cX9_isFull 17 = .ok (.ldc 169, 2) := by decide +kernel
theorem dX9_isFull_19 : decode cX9_isFull 19 = .ok (.if_icmp .le 7, 3) := by decide +kernel
theorem dX9_isFull_22 : decode cX9_isFull 22 = .ok (.iconst 1, 1) := by decide +kernel
theorem dX9_isFull_23 : decode cX9_isFull 23 = .ok (.goto 4, 3) := by decide +kernel
theorem dX9_isFull_26 : decode cX9_isFull 26 = .ok (.iconst 0, 1) := by decide +kernel
theorem dX9_isFull_27 : decode cX9_isFull 27 = .ok (.ireturn, 1) := by decide +kernel
def X9_isFull_b22    : M Int32 := pu 1
def X9_isFull (a0 : Nat) (i1 : Int32) : M Int32 := bd (ck 12 a0) (fun _ => bd (X9_room a0) (fun x1 => bd (ck 12 a0) (fun _ => bd (X9_reserved a0) (fun x2 => it ((x1 - x2) < i1) (X9_isFull_b22   ) (bd (gI 12 25 a0) (fun x3 => it (x3 ≤ 1000000000) (pu 0) (X9_isFull_b22   )))))))
section
variable {G : Gx} {p : Program} {l : Launch} {e : Env} {R : Room} {s : State} {m : MethodId} {args : Array Value} {below : List Frame} {meth : Method} {c : Code} {h0 : Hp} {r : Int32} {h' : Hp}
set_option maxRecDepth 20000 in
theorem X9_isFull_b22_s (C : Cx G p R s m args meth c cX9_isFull 2 yX9_isFull.cls h0 h') (hF : R.frames = 1) (hO : R.locals = 20) (hr : meth.sig.returnType = (some .boolean)) (hm : meth.name = yX9_isFull.name)    : Sm G (QM G rvI below args s h0 r h') p l e R s m args below meth c 2 h0 r h' 22 [] [] (X9_isFull_b22   ) := by
  refine s_iconst (v := 1) C dX9_isFull_22 (by decide) ?_
  refine s_goto (tgt := 27) C dX9_isFull_23 (by decide) ?_
  exact s_zret C hr rfl (Or.inr rfl) dX9_isFull_27
end
set_option maxRecDepth 20000 in
theorem con_X9_isFull (l : Launch) (G : Gx) (a0 : Nat) (i1 : Int32) : Con G rvI l yX9_isFull cX9_isFull 2 (some .boolean) 1 20 [.ref a0, .int i1] (X9_isFull a0 i1) := by
  refine con_of (lv := [(0, .ref a0), (1, .int i1)]) (by decide) (Nat.le_of_ble_eq_true rfl) rfl (fun p e R s m args below meth c h0 r h' C hF hO hr hm => ?_)
  refine s_iload_n C 1 dX9_isFull_0 rfl rfl ?_
  refine s_aload_n C 0 dX9_isFull_1 rfl rfl ?_
  refine s_invV_i C ci12 cy_X9_room (Or.inl wd_7_63) rfl wd_7_65 wp_32 (con_X9_room l G a0) rfl rfl (Nat.le_of_ble_eq_true rfl) (by rw [hF]; decide) (by rw [hO]; exact Nat.le_of_ble_eq_true rfl) dX9_isFull_2 (fun x1 => ?_)
  refine s_aload_n C 0 dX9_isFull_5 rfl rfl ?_
  refine s_invV_i C ci12 cy_X9_reserved (Or.inl wd_7_67) rfl wd_7_69 wp_33 (con_X9_reserved l G a0) rfl rfl (Nat.le_of_ble_eq_true rfl) (by rw [hF]; decide) (by rw [hO]; exact Nat.le_of_ble_eq_true rfl) dX9_isFull_6 (fun x2 => ?_)
  refine s_isub C dX9_isFull_9 ?_
  refine s_icmp_gt (tgt := 22) C dX9_isFull_10 (by decide) ?_ ?_
  · refine s_sub [] rfl ?_
    exact X9_isFull_b22_s C hF hO hr hm   
  refine s_aload_n C 0 dX9_isFull_13 rfl rfl ?_
  refine s_gI C ci12 25 (by decide) (Or.inl wd_6_140) dX9_isFull_14 (fun x3 => ?_)
  refine s_ldc C dX9_isFull_17 wd_7_71 ?_
  refine s_icmp_le (tgt := 26) C dX9_isFull_19 (by decide) ?_ ?_
  · refine s_iconst (v := 0) C dX9_isFull_26 (by decide) ?_
    exact s_zret C hr rfl (Or.inl rfl) dX9_isFull_27
  refine s_sub [] rfl ?_
  exact X9_isFull_b22_s C hF hO hr hm   

theorem dX9_writes_0 : decode cX9_writes 0 = .ok (.iload_n 1, 1) := by decide +kernel
theorem dX9_writes_1 : decode cX9_writes 1 = .ok (.iload_n 2, 1) := by decide +kernel
theorem dX9_writes_2 : decode cX9_writes 2 = .ok (.invokestatic 185, 3) := by decide +kernel
theorem dX9_writes_5 : decode cX9_writes 5 = .ok (.istore_n 3, 1) := by decide +kernel
theorem dX9_writes_6 : decode cX9_writes 6 = .ok (.aload_n 0, 1) := by decide +kernel
theorem dX9_writes_7 : decode cX9_writes 7 = .ok (.getfield 137, 3) := by decide +kernel
theorem dX9_writes_10 : decode cX9_writes 10 = .ok (.iconst (-1), 1) := by decide +kernel
theorem dX9_writes_11 : decode cX9_writes 11 = .ok (.if_icmp .eq 21, 3) := by decide +kernel
theorem dX9_writes_14 : decode cX9_writes 14 = .ok (.aload_n 0, 1) := by decide +kernel
theorem dX9_writes_15 : decode cX9_writes 15 = .ok (.aload_n 0, 1) := by decide +kernel
theorem dX9_writes_16 : decode cX9_writes 16 = .ok (.getfield 137, 3) := by decide +kernel
theorem dX9_writes_19 : decode cX9_writes 19 = .ok (.iconst 0, 1) := by decide +kernel
theorem dX9_writes_20 : decode cX9_writes 20 = .ok (.invokevirtual 220, 3) := by decide +kernel
theorem dX9_writes_23 : decode cX9_writes 23 = .ok (.iload_n 3, 1) := by decide +kernel
theorem dX9_writes_24 : decode cX9_writes 24 = .ok (.iadd, 1) := by decide +kernel
theorem dX9_writes_25 : decode cX9_writes 25 = .ok (.aload_n 0, 1) := by decide +kernel
theorem dX9_writes_26 : decode cX9_writes 26 = .ok (.getfield 100, 3) := by decide +kernel
theorem dX9_writes_29 : decode cX9_writes 29 = .ok (.if_icmp .le 21, 3) := by decide +kernel
theorem dX9_writes_32 : decode cX9_writes 32 = .ok (.aload_n 0, 1) := by decide +kernel
theorem dX9_writes_33 : decode cX9_writes 33 = .ok (.aload_n 0, 1) := by decide +kernel
theorem dX9_writes_34 : decode cX9_writes 34 = .ok (.getfield 131, 3) := by decide +kernel
theorem dX9_writes_37 : decode cX9_writes 37 = .ok (.putfield 137, 3) := by decide +kernel
theorem dX9_writes_40 : decode cX9_writes 40 = .ok (.aload_n 0, 1) := by decide +kernel
theorem dX9_writes_41 : decode cX9_writes 41 = .ok (.dup, 1) := by decide +kernel
theorem dX9_writes_42 : decode cX9_writes 42 = .ok (.getfield 131, 3) := by decide +kernel
theorem dX9_writes_45 : decode cX9_writes 45 = .ok (.iconst 1, 1) := by decide +kernel
theorem dX9_writes_46 : decode cX9_writes 46 = .ok (.iadd, 1) := by decide +kernel
theorem dX9_writes_47 : decode cX9_writes 47 = .ok (.putfield 131, 3) := by decide +kernel
theorem dX9_writes_50 : decode cX9_writes 50 = .ok (.aload_n 0, 1) := by decide +kernel
theorem dX9_writes_51 : decode cX9_writes 51 = .ok (.aload_n 0, 1) := by decide +kernel
theorem dX9_writes_52 : decode cX9_writes 52 = .ok (.getfield 137, 3) := by decide +kernel
theorem dX9_writes_55 : decode cX9_writes 55 = .ok (.iconst 0, 1) := by decide +kernel
theorem dX9_writes_56 : decode cX9_writes 56 = .ok (.invokevirtual 220, 3) := by decide +kernel
theorem dX9_writes_59 : decode cX9_writes 59 = .ok (.istore 4, 2) := by decide +kernel
theorem dX9_writes_61 : decode cX9_writes 61 = .ok (.aload_n 0, 1) := by decide +kernel
theorem dX9_writes_62 : decode cX9_writes 62 = .ok (.iconst 4, 1) := by decide +kernel
theorem dX9_writes_63 : decode cX9_writes 63 = .ok (.putfield 157, 3) := by decide +kernel
theorem dX9_writes_66 : decode cX9_writes 66 = .ok (.aload_n 0, 1) := by decide +kernel
theorem dX9_writes_67 : decode cX9_writes 67 = .ok (.aload_n 0, 1) := by decide +kernel
theorem dX9_writes_68 : decode cX9_writes 68 = .ok (.getfield 134, 3) := by decide +kernel
theorem dX9_writes_71 : decode cX9_writes 71 = .ok (.iconst 4, 1) := by decide +kernel
theorem dX9_writes_72 : decode cX9_writes 72 = .ok (.invokevirtual 223, 3) := by decide +kernel
theorem dX9_writes_75 : decode cX9_writes 75 = .ok (.aload_n 0, 1) := by decide +kernel
theorem dX9_writes_76 : decode cX9_writes 76 = .ok (.iload_n 1, 1) := by decide +kernel
theorem dX9_writes_77 : decode cX9_writes 77 = .ok (.iconst 2, 1) := by decide +kernel
theorem dX9_writes_78 : decode cX9_writes 78 = .ok (.invokevirtual 223, 3) := by decide +kernel
theorem dX9_writes_81 : decode cX9_writes 81 = .ok (.aload_n 0, 1) := by decide +kernel
theorem dX9_writes_82 : decode cX9_writes 82 = .ok (.iload_n 2, 1) := by decide +kernel
theorem dX9_writes_83 : decode cX9_writes 83 = .ok (.iconst 4, 1) := by decide +kernel
theorem dX9_writes_84 : decode cX9_writes 84 = .ok (.invokevirtual 223, 3) := by decide +kernel
theorem dX9_writes_87 : decode cX9_writes 87 = .ok (.iconst 0, 1) := by decide +kernel
theorem dX9_writes_88 : decode cX9_writes 88 = .ok (.istore 5, 2) := by decide +kernel
theorem dX9_writes_90 : decode cX9_writes 90 = .ok (.iload 5, 2) := by decide +kernel
theorem dX9_writes_92 : decode cX9_writes 92 = .ok (.iload_n 3, 1) := by decide +kernel
theorem dX9_writes_93 : decode cX9_writes 93 = .ok (.bipush 14, 2) := by decide +kernel
theorem dX9_writes_95 : decode cX9_writes 95 = .ok (.isub, 1) := by decide +kernel
theorem dX9_writes_96 : decode cX9_writes 96 = .ok (.if_icmp .ge 26, 3) := by decide +kernel
theorem dX9_writes_99 : decode cX9_writes 99 = .ok (.aload_n 0, 1) := by decide +kernel
theorem dX9_writes_100 : decode cX9_writes 100 = .ok (.getfield 32, 3) := by decide +kernel
theorem dX9_writes_103 : decode cX9_writes 103 = .ok (.bipush 14, 2) := by decide +kernel
theorem dX9_writes_105 : decode cX9_writes 105 = .ok (.iload 5, 2) := by decide +kernel
theorem dX9_writes_107 : decode cX9_writes 107 = .ok (.iadd, 1) := by decide +kernel
theorem dX9_writes_108 : decode cX9_writes 108 = .ok (.aload_n 0, 1) := by decide +kernel
theorem dX9_writes_109 : decode cX9_writes 109 = .ok (.getfield 35, 3) := by decide +kernel
theorem dX9_writes_112 : decode cX9_writes 112 = .ok (.iload 5, 2) := by decide +kernel
theorem dX9_writes_114 : decode cX9_writes 114 = .ok (.baload, 1) := by decide +kernel
theorem dX9_writes_115 : decode cX9_writes 115 = .ok (.bastore, 1) := by decide +kernel
theorem dX9_writes_116 : decode cX9_writes 116 = .ok (.iinc 5 1, 3) := by decide +kernel
theorem dX9_writes_119 : decode cX9_writes 119 = .ok (.goto (-29), 3) := by decide +kernel
theorem dX9_writes_122 : decode cX9_writes 122 = .ok (.aload_n 0, 1) := by decide +kernel
theorem dX9_writes_123 : decode cX9_writes 123 = .ok (.getfield 32, 3) := by decide +kernel
theorem dX9_writes_126 : decode cX9_writes 126 = .ok (.iconst 4, 1) := by decide +kernel
theorem dX9_writes_127 : decode cX9_writes 127 = .ok (.iload_n 3, 1) := by decide +kernel
theorem dX9_writes_128 : decode cX9_writes 128 = .ok (.invokestatic 194, 3) := by decide +kernel
theorem dX9_writes_131 : decode cX9_writes 131 = .ok (.istore 5, 2) := by decide +kernel
theorem dX9_writes_133 : decode cX9_writes 133 = .ok (.aload_n 0, 1) := by decide +kernel
theorem dX9_writes_134 : decode cX9_writes 134 = .ok (.iconst 0, 1) := by decide +kernel
theorem dX9_writes_135 : decode cX9_writes 135 = .ok (.putfield 157, 3) := by decide +kernel
theorem dX9_writes_138 : decode cX9_writes 138 = .ok (.aload_n 0, 1) := by decide +kernel
theorem dX9_writes_139 : decode cX9_writes 139 = .ok (.iload 5, 2) := by decide +kernel
theorem dX9_writes_141 : decode cX9_writes 141 = .ok (.iconst 4, 1) := by decide +kernel
theorem dX9_writes_142 : decode cX9_writes 142 = .ok (.invokevirtual 223, 3) := by decide +kernel
theorem dX9_writes_145 : decode cX9_writes 145 = .ok (.aload_n 0, 1) := by decide +kernel
theorem dX9_writes_146 : decode cX9_writes 146 = .ok (.iload_n 3, 1) := by decide +kernel
theorem dX9_writes_147 : decode cX9_writes 147 = .ok (.putfield 157, 3) := by decide +kernel
theorem dX9_writes_150 : decode cX9_writes 150 = .ok (.aload_n 0, 1) := by decide +kernel
theorem dX9_writes_151 : decode cX9_writes 151 = .ok (.aload_n 0, 1) := by decide +kernel
theorem dX9_writes_152 : decode cX9_writes 152 = .ok (.getfield 137, 3) := by decide +kernel
theorem dX9_writes_155 : decode cX9_writes 155 = .ok (.iconst 0, 1) := by decide +kernel
theorem dX9_writes_156 : decode cX9_writes 156 = .ok (.invokevirtual 226, 3) := by decide +kernel
theorem dX9_writes_159 : decode cX9_writes 159 = .ok (.iload_n 2, 1) := by decide +kernel
theorem dX9_writes_160 : decode cX9_writes 160 = .ok (.ifCond .lt 27, 3) := by decide +kernel
theorem dX9_writes_163 : decode cX9_writes 163 = .ok (.aload_n 0, 1) := by decide +kernel
theorem dX9_writes_164 : decode cX9_writes 164 = .ok (.aload_n 0, 1) := by decide +kernel
theorem dX9_writes_165 : decode cX9_writes 165 = .ok (.getfield 35, 3) := by decide +kernel
theorem dX9_writes_168 : decode cX9_writes 168 = .ok (.iconst 0, 1) := by decide +kernel
theorem dX9_writes_169 : decode cX9_writes 169 = .ok (.iload_n 1, 1) := by decide +kernel
theorem dX9_writes_170 : decode cX9_writes 170 = .ok (.aload_n 0, 1) := by decide +kernel
theorem dX9_writes_171 : decode cX9_writes 171 = .ok (.getfield 137, 3) := by decide +kernel
theorem dX9_writes_174 : decode cX9_writes 174 = .ok (.iload 4, 2) := by decide +kernel
theorem dX9_writes_176 : decode cX9_writes 176 = .ok (.iload_n 2, 1) := by decide +kernel
theorem dX9_writes_177 : decode cX9_writes 177 = .ok (.aload_n 0, 1) := by decide +kernel
theorem dX9_writes_178 : decode cX9_writes 178 = .ok (.getfield 134, 3) := by decide +kernel
theorem dX9_writes_181 : decode cX9_writes 181 = .ok (.invokevirtual 229, 3) := by decide +kernel
theorem dX9_writes_184 : decode cX9_writes 184 = .ok (.goto 17, 3) := by decide +kernel
theorem dX9_writes_187 : decode cX9_writes 187 = .ok (.aload_n 0, 1) := by decide +kernel
theorem dX9_writes_188 : decode cX9_writes 188 = .ok (.aload_n 0, 1) := by decide +kernel
theorem dX9_writes_189 : decode cX9_writes 189 = .ok (.aload_n 0, 1) := by decide +kernel
theorem dX9_writes_190 : decode cX9_writes 190 = .ok (.getfield 35, 3) := by decide +kernel
theorem dX9_writes_193 : decode cX9_writes 193 = .ok (.iconst 0, 1) := by decide +kernel
theorem dX9_writes_194 : decode cX9_writes 194 = .ok (.iload_n 1, 1) := by decide +kernel
theorem dX9_writes_195 : decode cX9_writes 195 = .ok (.invokevirtual 174, 3) := by decide +kernel
theorem dX9_writes_198 : decode cX9_writes 198 = .ok (.invokevirtual 233, 3) := by decide +kernel
theorem dX9_writes_201 : decode cX9_writes 201 = .ok (.aload_n 0, 1) := by decide +kernel
theorem dX9_writes_202 : decode cX9_writes 202 = .ok (.dup, 1) := by decide +kernel
theorem dX9_writes_203 : decode cX9_writes 203 = .ok (.getfield 134, 3) := by decide +kernel
theorem dX9_writes_206 : decode cX9_writes 206 = .ok (.iconst 1, 1) := by decide +kernel
theorem dX9_writes_207 : decode cX9_writes 207 = .ok (.iadd, 1) := by decide +kernel
theorem dX9_writes_208 : decode cX9_writes 208 = .ok (.putfield 134, 3) := by decide +kernel
theorem dX9_writes_211 : decode cX9_writes 211 = .ok (.return_, 1) := by decide +kernel
def X9_writes_b201   (a0 : Nat) : M Unit := bd (gI 12 25 a0) (fun x1 => bd (pV 12 25 a0 (.int (x1 + 1))) (fun _ => pu ()))
def X9_writes_b90b  (k90 : Nat → Int32 → Int32 → Int32 → Int32 → Int32 → M Unit) (a0 : Nat) (i1 : Int32) (i2 : Int32) (i3 : Int32) (i4 : Int32) (i5 : Int32) : M Unit := it ((i3 - 14) ≤ i5) (bd (gR 12 13 a0) (fun y1 => bd (X9_sum y1 4 i3) (fun x2 => bd (pV 12 14 a0 (.int 0)) (fun _ => bd (ck 12 a0) (fun _ => bd (X9_drafts a0 x2 4) (fun _ => bd (pV 12 14 a0 (.int i3)) (fun _ => bd (gI 12 26 a0) (fun x3 => bd (ck 12 a0) (fun _ => bd (X9_comes a0 x3 0) (fun _ => it (i2 < 0) (bd (gR 12 15 a0) (fun y4 => bd (ck 12 a0) (fun _ => bd (X9_placeOf a0 y4 0 i1) (fun x5 => bd (ck 12 a0) (fun _ => bd (X9_untold a0 x5) (fun _ => X9_writes_b201   a0)))))) (bd (gR 12 15 a0) (fun y6 => bd (gI 12 26 a0) (fun x7 => bd (gI 12 25 a0) (fun x8 => bd (ck 12 a0) (fun _ => bd (X9_told a0 y6 0 i1 x7 i4 i2 x8) (fun _ => X9_writes_b201   a0)))))))))))))))) (bd (gR 12 13 a0) (fun y9 => bd (gR 12 15 a0) (fun y10 => bd (al 21 y10 i5) (fun x11 => bd (as 21 y9 (14 + i5) x11) (fun _ => k90 a0 i1 i2 i3 i4 (i5 + 1))))))
def X9_writes_b90  : Nat → Nat → Int32 → Int32 → Int32 → Int32 → Int32 → M Unit
  | 0 => fun _ _ _ _ _ _ => fl
  | n + 1 => fun a0 i1 i2 i3 i4 i5 => X9_writes_b90b  (X9_writes_b90  n) a0 i1 i2 i3 i4 i5
def X9_writes_b50   (a0 : Nat) (i1 : Int32) (i2 : Int32) (i3 : Int32) : M Unit := bd (gI 12 26 a0) (fun x1 => bd (ck 12 a0) (fun _ => bd (X9_sizeOf a0 x1 0) (fun x2 => bd (pV 12 14 a0 (.int 4)) (fun _ => bd (gI 12 25 a0) (fun x3 => bd (ck 12 a0) (fun _ => bd (X9_drafts a0 x3 4) (fun _ => bd (ck 12 a0) (fun _ => bd (X9_drafts a0 i1 2) (fun _ => bd (ck 12 a0) (fun _ => bd (X9_drafts a0 i2 4) (fun _ => X9_writes_b90  FU a0 i1 i2 i3 x2 0)))))))))))
def X9_writes_b32   (a0 : Nat) (i1 : Int32) (i2 : Int32) (i3 : Int32) : M Unit := bd (gI 12 24 a0) (fun x1 => bd (pV 12 26 a0 (.int x1)) (fun _ => bd (gI 12 24 a0) (fun x2 => bd (pV 12 24 a0 (.int (x2 + 1))) (fun _ => X9_writes_b50   a0 i1 i2 i3))))
def X9_writes (a0 : Nat) (i1 : Int32) (i2 : Int32) : M Unit := bd (X9_bytesOf i1 i2) (fun x1 => bd (gI 12 26 a0) (fun x2 => it (x2 = (-1)) (X9_writes_b32   a0 i1 i2 x1) (bd (gI 12 26 a0) (fun x3 => bd (ck 12 a0) (fun _ => bd (X9_sizeOf a0 x3 0) (fun x4 => bd (gI 12 2 a0) (fun x5 => it ((x4 + x1) ≤ x5) (X9_writes_b50   a0 i1 i2 x1) (X9_writes_b32   a0 i1 i2 x1))))))))
section
variable {G : Gx} {p : Program} {l : Launch} {e : Env} {R : Room} {s : State} {m : MethodId} {args : Array Value} {below : List Frame} {meth : Method} {c : Code} {h0 : Hp} {r : Unit} {h' : Hp}
set_option maxRecDepth 20000 in
theorem X9_writes_b201_s (C : Cx G p R s m args meth c cX9_writes 6 yX9_writes.cls h0 h') (hF : R.frames = 3) (hO : R.locals = 80) (hr : meth.sig.returnType = none) (hm : meth.name = yX9_writes.name)   (a0 : Nat) : Sm G (QM G rvU below args s h0 r h') p l e R s m args below meth c 6 h0 r h' 201 [(0, .ref a0)] [] (X9_writes_b201   a0) := by
  refine s_aload_n C 0 dX9_writes_201 rfl rfl ?_
  refine s_dup C dX9_writes_202 rfl ?_
  refine s_gI C ci12 25 (by decide) (Or.inl wd_6_140) dX9_writes_203 (fun x1 => ?_)
  refine s_iconst (v := 1) C dX9_writes_206 (by decide) ?_
  refine s_iadd C dX9_writes_207 ?_
  refine s_pV C ci12 25 (by decide) rfl (Or.inl wd_6_140) dX9_writes_208 rfl rfl ?_
  exact s_vret C hr rfl dX9_writes_211
set_option maxRecDepth 20000 in
theorem X9_writes_b90b_s (C : Cx G p R s m args meth c cX9_writes 6 yX9_writes.cls h0 h') (hF : R.frames = 3) (hO : R.locals = 80) (hr : meth.sig.returnType = none) (hm : meth.name = yX9_writes.name)  {k90 : Nat → Int32 → Int32 → Int32 → Int32 → Int32 → M Unit} (hk90 : ∀ (a0 : Nat) (i1 : Int32) (i2 : Int32) (i3 : Int32) (i4 : Int32) (i5 : Int32), Sm G (QM G rvU below args s h0 r h') p l e R s m args below meth c 6 h0 r h' 90 [(0, .ref a0), (1, .int i1), (2, .int i2), (3, .int i3), (4, .int i4), (5, .int i5)] [] (k90 a0 i1 i2 i3 i4 i5)) (a0 : Nat) (i1 : Int32) (i2 : Int32) (i3 : Int32) (i4 : Int32) (i5 : Int32) : Sm G (QM G rvU below args s h0 r h') p l e R s m args below meth c 6 h0 r h' 90 [(0, .ref a0), (1, .int i1), (2, .int i2), (3, .int i3), (4, .int i4), (5, .int i5)] [] (X9_writes_b90b  k90 a0 i1 i2 i3 i4 i5) := by
  refine s_iload C 5 dX9_writes_90 rfl ?_
  refine s_iload_n C 3 dX9_writes_92 rfl rfl ?_
  refine s_bipush (v := 14) C dX9_writes_93 (by decide) ?_
  refine s_isub C dX9_writes_95 ?_
  refine s_icmp_ge (tgt := 122) C dX9_writes_96 (by decide) ?_ ?_
  · refine s_aload_n C 0 dX9_writes_122 rfl rfl ?_
    refine s_gR C ci12 13 (by decide) (Or.inl wd_6_128) dX9_writes_123 (fun y1 => ?_)
    refine s_iconst (v := 4) C dX9_writes_126 (by decide) ?_
    refine s_iload_n C 3 dX9_writes_127 rfl rfl ?_
    refine s_invS_i C cy_X9_sum (Or.inl wd_7_88) wd_7_89 (con_X9_sum l G y1 4 i3) rfl rfl (Nat.le_of_ble_eq_true rfl) (by rw [hF]; decide) (by rw [hO]; exact Nat.le_of_ble_eq_true rfl) dX9_writes_128 (fun x2 => ?_)
    refine s_istore (lv' := [(5, .int x2), (0, .ref a0), (1, .int i1), (2, .int i2), (3, .int i3), (4, .int i4)]) C dX9_writes_131 (by decide) rfl ?_
    refine s_aload_n C 1 dX9_writes_133 rfl rfl ?_
    refine s_iconst (v := 0) C dX9_writes_134 (by decide) ?_
    refine s_pV C ci12 14 (by decide) rfl (Or.inl wd_6_129) dX9_writes_135 rfl rfl ?_
    refine s_aload_n C 1 dX9_writes_138 rfl rfl ?_
    refine s_iload C 0 dX9_writes_139 rfl ?_
    refine s_iconst (v := 4) C dX9_writes_141 (by decide) ?_
    refine s_invV_u C ci12 cy_X9_drafts (Or.inl wd_7_84) rfl wd_7_86 wp_37 (con_X9_drafts l G a0 x2 4) rfl rfl (Nat.le_of_ble_eq_true rfl) (by rw [hF]; decide) (by rw [hO]; exact Nat.le_of_ble_eq_true rfl) dX9_writes_142 ?_
    refine s_aload_n C 1 dX9_writes_145 rfl rfl ?_
    refine s_iload_n C 4 dX9_writes_146 rfl rfl ?_
    refine s_pV C ci12 14 (by decide) rfl (Or.inl wd_6_129) dX9_writes_147 rfl rfl ?_
    refine s_aload_n C 1 dX9_writes_150 rfl rfl ?_
    refine s_aload_n C 1 dX9_writes_151 rfl rfl ?_
    refine s_gI C ci12 26 (by decide) (Or.inl wd_6_141) dX9_writes_152 (fun x3 => ?_)
    refine s_iconst (v := 0) C dX9_writes_155 (by decide) ?_
    refine s_invV_u C ci12 cy_X9_comes (Or.inl wd_7_92) rfl wd_7_94 wp_38 (con_X9_comes l G a0 x3 0) rfl rfl (Nat.le_of_ble_eq_true rfl) (by rw [hF]; decide) (by rw [hO]; exact Nat.le_of_ble_eq_true rfl) dX9_writes_156 ?_
    refine s_iload_n C 3 dX9_writes_159 rfl rfl ?_
    refine s_if_lt (tgt := 187) C dX9_writes_160 (by decide) ?_ ?_
    · refine s_aload_n C 1 dX9_writes_187 rfl rfl ?_
      refine s_aload_n C 1 dX9_writes_188 rfl rfl ?_
      refine s_aload_n C 1 dX9_writes_189 rfl rfl ?_
      refine s_gR C ci12 15 (by decide) (Or.inl wd_6_130) dX9_writes_190 (fun y4 => ?_)
      refine s_iconst (v := 0) C dX9_writes_193 (by decide) ?_
      refine s_iload_n C 2 dX9_writes_194 rfl rfl ?_
      refine s_invV_i C ci12 cy_X9_placeOf (Or.inl wd_7_104) rfl wd_7_106 wp_41 (con_X9_placeOf l G a0 y4 0 i1) rfl rfl (Nat.le_of_ble_eq_true rfl) (by rw [hF]; decide) (by rw [hO]; exact Nat.le_of_ble_eq_true rfl) dX9_writes_195 (fun x5 => ?_)
      refine s_invV_u C ci12 cy_X9_untold (Or.inl wd_7_119) rfl wd_7_121 wp_44 (con_X9_untold l G a0 x5) rfl rfl (Nat.le_of_ble_eq_true rfl) (by rw [hF]; decide) (by rw [hO]; exact Nat.le_of_ble_eq_true rfl) dX9_writes_198 ?_
      refine s_sub [1] rfl ?_
      exact X9_writes_b201_s C hF hO hr hm   a0
    refine s_aload_n C 1 dX9_writes_163 rfl rfl ?_
    refine s_aload_n C 1 dX9_writes_164 rfl rfl ?_
    refine s_gR C ci12 15 (by decide) (Or.inl wd_6_130) dX9_writes_165 (fun y6 => ?_)
    refine s_iconst (v := 0) C dX9_writes_168 (by decide) ?_
    refine s_iload_n C 2 dX9_writes_169 rfl rfl ?_
    refine s_aload_n C 1 dX9_writes_170 rfl rfl ?_
    refine s_gI C ci12 26 (by decide) (Or.inl wd_6_141) dX9_writes_171 (fun x7 => ?_)
    refine s_iload C 5 dX9_writes_174 rfl ?_
    refine s_iload_n C 3 dX9_writes_176 rfl rfl ?_
    refine s_aload_n C 1 dX9_writes_177 rfl rfl ?_
    refine s_gI C ci12 25 (by decide) (Or.inl wd_6_140) dX9_writes_178 (fun x8 => ?_)
    refine s_invV_u C ci12 cy_X9_told (Or.inl wd_7_100) rfl wd_7_102 wp_40 (con_X9_told l G a0 y6 0 i1 x7 i4 i2 x8) rfl rfl (Nat.le_of_ble_eq_true rfl) (by rw [hF]; decide) (by rw [hO]; exact Nat.le_of_ble_eq_true rfl) dX9_writes_181 ?_
    refine s_goto (tgt := 201) C dX9_writes_184 (by decide) ?_
    refine s_sub [1] rfl ?_
    exact X9_writes_b201_s C hF hO hr hm   a0
  refine s_aload_n C 0 dX9_writes_99 rfl rfl ?_
  refine s_gR C ci12 13 (by decide) (Or.inl wd_6_128) dX9_writes_100 (fun y9 => ?_)
  refine s_bipush (v := 14) C dX9_writes_103 (by decide) ?_
  refine s_iload C 5 dX9_writes_105 rfl ?_
  refine s_iadd C dX9_writes_107 ?_
  refine s_aload_n C 0 dX9_writes_108 rfl rfl ?_
  refine s_gR C ci12 15 (by decide) (Or.inl wd_6_130) dX9_writes_109 (fun y10 => ?_)
  refine s_iload C 5 dX9_writes_112 rfl ?_
  refine s_al21 C dX9_writes_114 (fun x11 => ?_)
  refine s_as21 C dX9_writes_115 ?_
  refine s_iincK (lv' := [(5, .int (i5 + 1)), (0, .ref a0), (1, .int i1), (2, .int i2), (3, .int i3), (4, .int i4)]) (w := 1) C 5 dX9_writes_116 rfl (by decide) (by decide) rfl ?_
  refine s_goto (tgt := 90) C dX9_writes_119 (by decide) ?_
  refine s_sub [1, 2, 3, 4, 5, 0] rfl ?_
  exact hk90 a0 i1 i2 i3 i4 (i5 + 1)
set_option maxRecDepth 20000 in
theorem X9_writes_b90_s (C : Cx G p R s m args meth c cX9_writes 6 yX9_writes.cls h0 h') (hF : R.frames = 3) (hO : R.locals = 80) (hr : meth.sig.returnType = none) (hm : meth.name = yX9_writes.name)  (n : Nat) : ∀ (a0 : Nat) (i1 : Int32) (i2 : Int32) (i3 : Int32) (i4 : Int32) (i5 : Int32), Sm G (QM G rvU below args s h0 r h') p l e R s m args below meth c 6 h0 r h' 90 [(0, .ref a0), (1, .int i1), (2, .int i2), (3, .int i3), (4, .int i4), (5, .int i5)] [] (X9_writes_b90  n a0 i1 i2 i3 i4 i5) := by
  induction n with
  | zero => intro a0 i1 i2 i3 i4 i5; exact s_fl
  | succ n ih => intro a0 i1 i2 i3 i4 i5; exact X9_writes_b90b_s C hF hO hr hm  ih a0 i1 i2 i3 i4 i5
set_option maxRecDepth 20000 in
theorem X9_writes_b50_s (C : Cx G p R s m args meth c cX9_writes 6 yX9_writes.cls h0 h') (hF : R.frames = 3) (hO : R.locals = 80) (hr : meth.sig.returnType = none) (hm : meth.name = yX9_writes.name)   (a0 : Nat) (i1 : Int32) (i2 : Int32) (i3 : Int32) : Sm G (QM G rvU below args s h0 r h') p l e R s m args below meth c 6 h0 r h' 50 [(0, .ref a0), (1, .int i1), (2, .int i2), (3, .int i3)] [] (X9_writes_b50   a0 i1 i2 i3) := by
  refine s_aload_n C 0 dX9_writes_50 rfl rfl ?_
  refine s_aload_n C 0 dX9_writes_51 rfl rfl ?_
  refine s_gI C ci12 26 (by decide) (Or.inl wd_6_141) dX9_writes_52 (fun x1 => ?_)
  refine s_iconst (v := 0) C dX9_writes_55 (by decide) ?_
  refine s_invV_i C ci12 cy_X9_sizeOf (Or.inl wd_7_76) rfl wd_7_78 wp_35 (con_X9_sizeOf l G a0 x1 0) rfl rfl (Nat.le_of_ble_eq_true rfl) (by rw [hF]; decide) (by rw [hO]; exact Nat.le_of_ble_eq_true rfl) dX9_writes_56 (fun x2 => ?_)
  refine s_istore (lv' := [(4, .int x2), (0, .ref a0), (1, .int i1), (2, .int i2), (3, .int i3)]) C dX9_writes_59 (by decide) rfl ?_
  refine s_aload_n C 1 dX9_writes_61 rfl rfl ?_
  refine s_iconst (v := 4) C dX9_writes_62 (by decide) ?_
  refine s_pV C ci12 14 (by decide) rfl (Or.inl wd_6_129) dX9_writes_63 rfl rfl ?_
  refine s_aload_n C 1 dX9_writes_66 rfl rfl ?_
  refine s_aload_n C 1 dX9_writes_67 rfl rfl ?_
  refine s_gI C ci12 25 (by decide) (Or.inl wd_6_140) dX9_writes_68 (fun x3 => ?_)
  refine s_iconst (v := 4) C dX9_writes_71 (by decide) ?_
  refine s_invV_u C ci12 cy_X9_drafts (Or.inl wd_7_84) rfl wd_7_86 wp_37 (con_X9_drafts l G a0 x3 4) rfl rfl (Nat.le_of_ble_eq_true rfl) (by rw [hF]; decide) (by rw [hO]; exact Nat.le_of_ble_eq_true rfl) dX9_writes_72 ?_
  refine s_aload_n C 1 dX9_writes_75 rfl rfl ?_
  refine s_iload_n C 2 dX9_writes_76 rfl rfl ?_
  refine s_iconst (v := 2) C dX9_writes_77 (by decide) ?_
  refine s_invV_u C ci12 cy_X9_drafts (Or.inl wd_7_84) rfl wd_7_86 wp_37 (con_X9_drafts l G a0 i1 2) rfl rfl (Nat.le_of_ble_eq_true rfl) (by rw [hF]; decide) (by rw [hO]; exact Nat.le_of_ble_eq_true rfl) dX9_writes_78 ?_
  refine s_aload_n C 1 dX9_writes_81 rfl rfl ?_
  refine s_iload_n C 3 dX9_writes_82 rfl rfl ?_
  refine s_iconst (v := 4) C dX9_writes_83 (by decide) ?_
  refine s_invV_u C ci12 cy_X9_drafts (Or.inl wd_7_84) rfl wd_7_86 wp_37 (con_X9_drafts l G a0 i2 4) rfl rfl (Nat.le_of_ble_eq_true rfl) (by rw [hF]; decide) (by rw [hO]; exact Nat.le_of_ble_eq_true rfl) dX9_writes_84 ?_
  refine s_iconst (v := 0) C dX9_writes_87 (by decide) ?_
  refine s_istore (lv' := [(5, .int 0), (4, .int x2), (0, .ref a0), (1, .int i1), (2, .int i2), (3, .int i3)]) C dX9_writes_88 (by decide) rfl ?_
  refine s_sub [2, 3, 4, 5, 1, 0] rfl ?_
  exact X9_writes_b90_s C hF hO hr hm  FU a0 i1 i2 i3 x2 0
set_option maxRecDepth 20000 in
theorem X9_writes_b32_s (C : Cx G p R s m args meth c cX9_writes 6 yX9_writes.cls h0 h') (hF : R.frames = 3) (hO : R.locals = 80) (hr : meth.sig.returnType = none) (hm : meth.name = yX9_writes.name)   (a0 : Nat) (i1 : Int32) (i2 : Int32) (i3 : Int32) : Sm G (QM G rvU below args s h0 r h') p l e R s m args below meth c 6 h0 r h' 32 [(0, .ref a0), (1, .int i1), (2, .int i2), (3, .int i3)] [] (X9_writes_b32   a0 i1 i2 i3) := by
  refine s_aload_n C 0 dX9_writes_32 rfl rfl ?_
  refine s_aload_n C 0 dX9_writes_33 rfl rfl ?_
  refine s_gI C ci12 24 (by decide) (Or.inl wd_6_139) dX9_writes_34 (fun x1 => ?_)
  refine s_pV C ci12 26 (by decide) rfl (Or.inl wd_6_141) dX9_writes_37 rfl rfl ?_
  refine s_aload_n C 0 dX9_writes_40 rfl rfl ?_
  refine s_dup C dX9_writes_41 rfl ?_
  refine s_gI C ci12 24 (by decide) (Or.inl wd_6_139) dX9_writes_42 (fun x2 => ?_)
  refine s_iconst (v := 1) C dX9_writes_45 (by decide) ?_
  refine s_iadd C dX9_writes_46 ?_
  refine s_pV C ci12 24 (by decide) rfl (Or.inl wd_6_139) dX9_writes_47 rfl rfl ?_
  exact X9_writes_b50_s C hF hO hr hm   a0 i1 i2 i3
end
set_option maxRecDepth 20000 in
theorem con_X9_writes (l : Launch) (G : Gx) (a0 : Nat) (i1 : Int32) (i2 : Int32) : Con G rvU l yX9_writes cX9_writes 6 none 3 80 [.ref a0, .int i1, .int i2] (X9_writes a0 i1 i2) := by
  refine con_of (lv := [(0, .ref a0), (1, .int i1), (2, .int i2)]) (by decide) (Nat.le_of_ble_eq_true rfl) rfl (fun p e R s m args below meth c h0 r h' C hF hO hr hm => ?_)
  refine s_iload_n C 1 dX9_writes_0 rfl rfl ?_
  refine s_iload_n C 2 dX9_writes_1 rfl rfl ?_
  refine s_invS_i C cy_X9_bytesOf (Or.inl wd_7_55) wd_7_56 (con_X9_bytesOf l G i1 i2) rfl rfl (Nat.le_of_ble_eq_true rfl) (by rw [hF]; decide) (by rw [hO]; exact Nat.le_of_ble_eq_true rfl) dX9_writes_2 (fun x1 => ?_)
  refine s_istore_n (lv' := [(3, .int x1), (0, .ref a0), (1, .int i1), (2, .int i2)]) C dX9_writes_5 rfl (by decide) rfl ?_
  refine s_aload_n C 1 dX9_writes_6 rfl rfl ?_
  refine s_gI C ci12 26 (by decide) (Or.inl wd_6_141) dX9_writes_7 (fun x2 => ?_)
  refine s_iconst (v := (-1)) C dX9_writes_10 (by decide) ?_
  refine s_icmp_eq (tgt := 32) C dX9_writes_11 (by decide) ?_ ?_
  · refine s_sub [1, 2, 3, 0] rfl ?_
    exact X9_writes_b32_s C hF hO hr hm   a0 i1 i2 x1
  refine s_aload_n C 1 dX9_writes_14 rfl rfl ?_
  refine s_aload_n C 1 dX9_writes_15 rfl rfl ?_
  refine s_gI C ci12 26 (by decide) (Or.inl wd_6_141) dX9_writes_16 (fun x3 => ?_)
  refine s_iconst (v := 0) C dX9_writes_19 (by decide) ?_
  refine s_invV_i C ci12 cy_X9_sizeOf (Or.inl wd_7_76) rfl wd_7_78 wp_35 (con_X9_sizeOf l G a0 x3 0) rfl rfl (Nat.le_of_ble_eq_true rfl) (by rw [hF]; decide) (by rw [hO]; exact Nat.le_of_ble_eq_true rfl) dX9_writes_20 (fun x4 => ?_)
  refine s_iload_n C 0 dX9_writes_23 rfl rfl ?_
  refine s_iadd C dX9_writes_24 ?_
  refine s_aload_n C 1 dX9_writes_25 rfl rfl ?_
  refine s_gI C ci12 2 (by decide) (Or.inl wd_6_117) dX9_writes_26 (fun x5 => ?_)
  refine s_icmp_le (tgt := 50) C dX9_writes_29 (by decide) ?_ ?_
  · refine s_sub [1, 2, 3, 0] rfl ?_
    exact X9_writes_b50_s C hF hO hr hm   a0 i1 i2 x1
  refine s_sub [1, 2, 3, 0] rfl ?_
  exact X9_writes_b32_s C hF hO hr hm   a0 i1 i2 x1

theorem dX9_put_0 : decode cX9_put 0 = .ok (.aload_n 0, 1) := by decide +kernel
theorem dX9_put_1 : decode cX9_put 1 = .ok (.getfield 204, 3) := by decide +kernel
theorem dX9_put_4 : decode cX9_put 4 = .ok (.istore_n 2, 1) := by decide +kernel
theorem dX9_put_5 : decode cX9_put 5 = .ok (.aload_n 0, 1) := by decide +kernel
theorem dX9_put_6 : decode cX9_put 6 = .ok (.iconst 0, 1) := by decide +kernel
theorem dX9_put_7 : decode cX9_put 7 = .ok (.putfield 204, 3) := by decide +kernel
theorem dX9_put_10 : decode cX9_put 10 = .ok (.aload_n 0, 1) := by decide +kernel
theorem dX9_put_11 : decode cX9_put 11 = .ok (.aload_n 0, 1) := by decide +kernel
theorem dX9_put_12 : decode cX9_put 12 = .ok (.getfield 127, 3) := by decide +kernel
theorem dX9_put_15 : decode cX9_put 15 = .ok (.ifCond .ne 7, 3) := by decide +kernel
theorem dX9_put_18 : decode cX9_put 18 = .ok (.iconst 1, 1) := by decide +kernel
theorem dX9_put_19 : decode cX9_put 19 = .ok (.goto 32, 3) := by decide +kernel
theorem dX9_put_22 : decode cX9_put 22 = .ok (.iload_n 1, 1) := by decide +kernel
theorem dX9_put_23 : decode cX9_put 23 = .ok (.iconst 1, 1) := by decide +kernel
theorem dX9_put_24 : decode cX9_put 24 = .ok (.if_icmp .lt 22, 3) := by decide +kernel
theorem dX9_put_27 : decode cX9_put 27 = .ok (.iload_n 1, 1) := by decide +kernel
theorem dX9_put_28 : decode cX9_put 28 = .ok (.bipush 16, 2) := by decide +kernel
theorem dX9_put_30 : decode cX9_put 30 = .ok (.if_icmp .gt 16, 3) := by decide +kernel
theorem dX9_put_33 : decode cX9_put 33 = .ok (.iload_n 1, 1) := by decide +kernel
theorem dX9_put_34 : decode cX9_put 34 = .ok (.iload_n 2, 1) := by decide +kernel
theorem dX9_put_35 : decode cX9_put 35 = .ok (.if_icmp .gt 11, 3) := by decide +kernel
theorem dX9_put_38 : decode cX9_put 38 = .ok (.iload_n 2, 1) := by decide +kernel
theorem dX9_put_39 : decode cX9_put 39 = .ok (.iload_n 1, 1) := by decide +kernel
theorem dX9_put_40 : decode cX9_put 40 = .ok (.isub, 1) := by decide +kernel
theorem dX9_put_41 : decode cX9_put 41 = .ok (.bipush 64, 2) := by decide +kernel
theorem dX9_put_43 : decode cX9_put 43 = .ok (.if_icmp .le 7, 3) := by decide +kernel
theorem dX9_put_46 : decode cX9_put 46 = .ok (.iconst 2, 1) := by decide +kernel
theorem dX9_put_47 : decode cX9_put 47 = .ok (.goto 4, 3) := by decide +kernel
theorem dX9_put_50 : decode cX9_put 50 = .ok (.iconst 0, 1) := by decide +kernel
theorem dX9_put_51 : decode cX9_put 51 = .ok (.putfield 93, 3) := by decide +kernel
theorem dX9_put_54 : decode cX9_put 54 = .ok (.aload_n 0, 1) := by decide +kernel
theorem dX9_put_55 : decode cX9_put 55 = .ok (.getfield 93, 3) := by decide +kernel
theorem dX9_put_58 : decode cX9_put 58 = .ok (.ifCond .ne 22, 3) := by decide +kernel
theorem dX9_put_61 : decode cX9_put 61 = .ok (.aload_n 0, 1) := by decide +kernel
theorem dX9_put_62 : decode cX9_put 62 = .ok (.iload_n 1, 1) := by decide +kernel
theorem dX9_put_63 : decode cX9_put 63 = .ok (.iload_n 2, 1) := by decide +kernel
theorem dX9_put_64 : decode cX9_put 64 = .ok (.iload_n 1, 1) := by decide +kernel
theorem dX9_put_65 : decode cX9_put 65 = .ok (.isub, 1) := by decide +kernel
theorem dX9_put_66 : decode cX9_put 66 = .ok (.invokestatic 185, 3) := by decide +kernel
theorem dX9_put_69 : decode cX9_put 69 = .ok (.invokevirtual 237, 3) := by decide +kernel
theorem dX9_put_72 : decode cX9_put 72 = .ok (.ifCond .eq 8, 3) := by decide +kernel
theorem dX9_put_75 : decode cX9_put 75 = .ok (.aload_n 0, 1) := by decide +kernel
theorem dX9_put_76 : decode cX9_put 76 = .ok (.iconst 3, 1) := by decide +kernel
theorem dX9_put_77 : decode cX9_put 77 = .ok (.putfield 93, 3) := by decide +kernel
theorem dX9_put_80 : decode cX9_put 80 = .ok (.aload_n 0, 1) := by decide +kernel
theorem dX9_put_81 : decode cX9_put 81 = .ok (.getfield 93, 3) := by decide +kernel
theorem dX9_put_84 : decode cX9_put 84 = .ok (.ifCond .le 5, 3) := by decide +kernel
theorem dX9_put_87 : decode cX9_put 87 = .ok (.iconst 0, 1) := by decide +kernel
theorem dX9_put_88 : decode cX9_put 88 = .ok (.ireturn, 1) := by decide +kernel
theorem dX9_put_89 : decode cX9_put 89 = .ok (.aload_n 0, 1) := by decide +kernel
theorem dX9_put_90 : decode cX9_put 90 = .ok (.iload_n 1, 1) := by decide +kernel
theorem dX9_put_91 : decode cX9_put 91 = .ok (.iload_n 2, 1) := by decide +kernel
theorem dX9_put_92 : decode cX9_put 92 = .ok (.iload_n 1, 1) := by decide +kernel
theorem dX9_put_93 : decode cX9_put 93 = .ok (.isub, 1) := by decide +kernel
theorem dX9_put_94 : decode cX9_put 94 = .ok (.invokevirtual 241, 3) := by decide +kernel
theorem dX9_put_97 : decode cX9_put 97 = .ok (.aload_n 0, 1) := by decide +kernel
theorem dX9_put_98 : decode cX9_put 98 = .ok (.getfield 134, 3) := by decide +kernel
theorem dX9_put_101 : decode cX9_put 101 = .ok (.iconst 1, 1) := by decide +kernel
theorem dX9_put_102 : decode cX9_put 102 = .ok (.isub, 1) := by decide +kernel
theorem dX9_put_103 : decode cX9_put 103 = .ok (.ireturn, 1) := by decide +kernel
def X9_put_b80   (a0 : Nat) (i1 : Int32) (i2 : Int32) : M Int32 := bd (gI 12 0 a0) (fun x1 => it (x1 ≤ 0) (bd (ck 12 a0) (fun _ => bd (X9_writes a0 i1 (i2 - i1)) (fun _ => bd (gI 12 25 a0) (fun x2 => pu (x2 - 1))))) (pu 0))
def X9_put_b51   (a0 : Nat) (i1 : Int32) (i2 : Int32) (s0 : Int32) (s1 : Nat) : M Int32 := bd (pV 12 0 s1 (.int s0)) (fun _ => bd (gI 12 0 a0) (fun x1 => it (¬ x1 = 0) (X9_put_b80   a0 i1 i2) (bd (X9_bytesOf i1 (i2 - i1)) (fun x2 => bd (ck 12 a0) (fun _ => bd (X9_isFull a0 x2) (fun x3 => it (x3 = 0) (X9_put_b80   a0 i1 i2) (bd (pV 12 0 a0 (.int 3)) (fun _ => X9_put_b80   a0 i1 i2))))))))
def X9_put_b46   (a0 : Nat) (i1 : Int32) (i2 : Int32) (s0 : Nat) : M Int32 := X9_put_b51   a0 i1 i2 2 s0
def X9_put (a0 : Nat) (i1 : Int32) : M Int32 := bd (gI 12 16 a0) (fun x1 => bd (pV 12 16 a0 (.int 0)) (fun _ => bd (gI 12 23 a0) (fun x2 => it (¬ x2 = 0) (it (i1 < 1) (X9_put_b46   a0 i1 x1 a0) (it (16 < i1) (X9_put_b46   a0 i1 x1 a0) (it (x1 < i1) (X9_put_b46   a0 i1 x1 a0) (it ((x1 - i1) ≤ 64) (X9_put_b51   a0 i1 x1 0 a0) (X9_put_b46   a0 i1 x1 a0))))) (X9_put_b51   a0 i1 x1 1 a0))))
section
variable {G : Gx} {p : Program} {l : Launch} {e : Env} {R : Room} {s : State} {m : MethodId} {args : Array Value} {below : List Frame} {meth : Method} {c : Code} {h0 : Hp} {r : Int32} {h' : Hp}
set_option maxRecDepth 20000 in
theorem X9_put_b80_s (C : Cx G p R s m args meth c cX9_put 3 yX9_put.cls h0 h') (hF : R.frames = 4) (hO : R.locals = 105) (hr : meth.sig.returnType = (some .int)) (hm : meth.name = yX9_put.name)   (a0 : Nat) (i1 : Int32) (i2 : Int32) : Sm G (QM G rvI below args s h0 r h') p l e R s m args below meth c 3 h0 r h' 80 [(0, .ref a0), (1, .int i1), (2, .int i2)] [] (X9_put_b80   a0 i1 i2) := by
  refine s_aload_n C 0 dX9_put_80 rfl rfl ?_
  refine s_gI C ci12 0 (by decide) (Or.inl wd_6_115) dX9_put_81 (fun x1 => ?_)
  refine s_if_le (tgt := 89) C dX9_put_84 (by decide) ?_ ?_
  · refine s_aload_n C 0 dX9_put_89 rfl rfl ?_
    refine s_iload_n C 1 dX9_put_90 rfl rfl ?_
    refine s_iload_n C 2 dX9_put_91 rfl rfl ?_
    refine s_iload_n C 1 dX9_put_92 rfl rfl ?_
    refine s_isub C dX9_put_93 ?_
    refine s_invV_u C ci12 cy_X9_writes (Or.inl wd_7_72) rfl wd_7_74 wp_34 (con_X9_writes l G a0 i1 (i2 - i1)) rfl rfl (Nat.le_of_ble_eq_true rfl) (by rw [hF]; decide) (by rw [hO]; exact Nat.le_of_ble_eq_true rfl) dX9_put_94 ?_
    refine s_aload_n C 0 dX9_put_97 rfl rfl ?_
    refine s_gI C ci12 25 (by decide) (Or.inl wd_6_140) dX9_put_98 (fun x2 => ?_)
    refine s_iconst (v := 1) C dX9_put_101 (by decide) ?_
    refine s_isub C dX9_put_102 ?_
    exact s_iret C hr rfl dX9_put_103
  refine s_iconst (v := 0) C dX9_put_87 (by decide) ?_
  exact s_iret C hr rfl dX9_put_88
set_option maxRecDepth 20000 in
theorem X9_put_b51_s (C : Cx G p R s m args meth c cX9_put 3 yX9_put.cls h0 h') (hF : R.frames = 4) (hO : R.locals = 105) (hr : meth.sig.returnType = (some .int)) (hm : meth.name = yX9_put.name)   (a0 : Nat) (i1 : Int32) (i2 : Int32) (s0 : Int32) (s1 : Nat) : Sm G (QM G rvI below args s h0 r h') p l e R s m args below meth c 3 h0 r h' 51 [(0, .ref a0), (1, .int i1), (2, .int i2)] [.int s0, .ref s1] (X9_put_b51   a0 i1 i2 s0 s1) := by
  refine s_pV C ci12 0 (by decide) rfl (Or.inl wd_6_115) dX9_put_51 rfl rfl ?_
  refine s_aload_n C 0 dX9_put_54 rfl rfl ?_
  refine s_gI C ci12 0 (by decide) (Or.inl wd_6_115) dX9_put_55 (fun x1 => ?_)
  refine s_if_ne (tgt := 80) C dX9_put_58 (by decide) ?_ ?_
  · exact X9_put_b80_s C hF hO hr hm   a0 i1 i2
  refine s_aload_n C 0 dX9_put_61 rfl rfl ?_
  refine s_iload_n C 1 dX9_put_62 rfl rfl ?_
  refine s_iload_n C 2 dX9_put_63 rfl rfl ?_
  refine s_iload_n C 1 dX9_put_64 rfl rfl ?_
  refine s_isub C dX9_put_65 ?_
  refine s_invS_i C cy_X9_bytesOf (Or.inl wd_7_55) wd_7_56 (con_X9_bytesOf l G i1 (i2 - i1)) rfl rfl (Nat.le_of_ble_eq_true rfl) (by rw [hF]; decide) (by rw [hO]; exact Nat.le_of_ble_eq_true rfl) dX9_put_66 (fun x2 => ?_)
  refine s_invV_i C ci12 cy_X9_isFull (Or.inl wd_7_59) rfl wd_7_61 wp_31 (con_X9_isFull l G a0 x2) rfl rfl (Nat.le_of_ble_eq_true rfl) (by rw [hF]; decide) (by rw [hO]; exact Nat.le_of_ble_eq_true rfl) dX9_put_69 (fun x3 => ?_)
  refine s_if_eq (tgt := 80) C dX9_put_72 (by decide) ?_ ?_
  · exact X9_put_b80_s C hF hO hr hm   a0 i1 i2
  refine s_aload_n C 0 dX9_put_75 rfl rfl ?_
  refine s_iconst (v := 3) C dX9_put_76 (by decide) ?_
  refine s_pV C ci12 0 (by decide) rfl (Or.inl wd_6_115) dX9_put_77 rfl rfl ?_
  exact X9_put_b80_s C hF hO hr hm   a0 i1 i2
set_option maxRecDepth 20000 in
theorem X9_put_b46_s (C : Cx G p R s m args meth c cX9_put 3 yX9_put.cls h0 h') (hF : R.frames = 4) (hO : R.locals = 105) (hr : meth.sig.returnType = (some .int)) (hm : meth.name = yX9_put.name)   (a0 : Nat) (i1 : Int32) (i2 : Int32) (s0 : Nat) : Sm G (QM G rvI below args s h0 r h') p l e R s m args below meth c 3 h0 r h' 46 [(0, .ref a0), (1, .int i1), (2, .int i2)] [.ref s0] (X9_put_b46   a0 i1 i2 s0) := by
  refine s_iconst (v := 2) C dX9_put_46 (by decide) ?_
  refine s_goto (tgt := 51) C dX9_put_47 (by decide) ?_
  exact X9_put_b51_s C hF hO hr hm   a0 i1 i2 2 s0
end
set_option maxRecDepth 20000 in
theorem con_X9_put (l : Launch) (G : Gx) (a0 : Nat) (i1 : Int32) : Con G rvI l yX9_put cX9_put 3 (some .int) 4 105 [.ref a0, .int i1] (X9_put a0 i1) := by
  refine con_of (lv := [(0, .ref a0), (1, .int i1)]) (by decide) (Nat.le_of_ble_eq_true rfl) rfl (fun p e R s m args below meth c h0 r h' C hF hO hr hm => ?_)
  refine s_aload_n C 0 dX9_put_0 rfl rfl ?_
  refine s_gI C ci12 16 (by decide) (Or.inl wd_6_131) dX9_put_1 (fun x1 => ?_)
  refine s_istore_n (lv' := [(2, .int x1), (0, .ref a0), (1, .int i1)]) C dX9_put_4 rfl (by decide) rfl ?_
  refine s_aload_n C 1 dX9_put_5 rfl rfl ?_
  refine s_iconst (v := 0) C dX9_put_6 (by decide) ?_
  refine s_pV C ci12 16 (by decide) rfl (Or.inl wd_6_131) dX9_put_7 rfl rfl ?_
  refine s_aload_n C 1 dX9_put_10 rfl rfl ?_
  refine s_aload_n C 1 dX9_put_11 rfl rfl ?_
  refine s_gI C ci12 23 (by decide) (Or.inl wd_6_138) dX9_put_12 (fun x2 => ?_)
  refine s_if_ne (tgt := 22) C dX9_put_15 (by decide) ?_ ?_
  · refine s_iload_n C 2 dX9_put_22 rfl rfl ?_
    refine s_iconst (v := 1) C dX9_put_23 (by decide) ?_
    refine s_icmp_lt (tgt := 46) C dX9_put_24 (by decide) ?_ ?_
    · refine s_sub [1, 2, 0] rfl ?_
      exact X9_put_b46_s C hF hO hr hm   a0 i1 x1 a0
    refine s_iload_n C 2 dX9_put_27 rfl rfl ?_
    refine s_bipush (v := 16) C dX9_put_28 (by decide) ?_
    refine s_icmp_gt (tgt := 46) C dX9_put_30 (by decide) ?_ ?_
    · refine s_sub [1, 2, 0] rfl ?_
      exact X9_put_b46_s C hF hO hr hm   a0 i1 x1 a0
    refine s_iload_n C 2 dX9_put_33 rfl rfl ?_
    refine s_iload_n C 0 dX9_put_34 rfl rfl ?_
    refine s_icmp_gt (tgt := 46) C dX9_put_35 (by decide) ?_ ?_
    · refine s_sub [1, 2, 0] rfl ?_
      exact X9_put_b46_s C hF hO hr hm   a0 i1 x1 a0
    refine s_iload_n C 0 dX9_put_38 rfl rfl ?_
    refine s_iload_n C 2 dX9_put_39 rfl rfl ?_
    refine s_isub C dX9_put_40 ?_
    refine s_bipush (v := 64) C dX9_put_41 (by decide) ?_
    refine s_icmp_le (tgt := 50) C dX9_put_43 (by decide) ?_ ?_
    · refine s_iconst (v := 0) C dX9_put_50 (by decide) ?_
      refine s_sub [1, 2, 0] rfl ?_
      exact X9_put_b51_s C hF hO hr hm   a0 i1 x1 0 a0
    refine s_sub [1, 2, 0] rfl ?_
    exact X9_put_b46_s C hF hO hr hm   a0 i1 x1 a0
  refine s_iconst (v := 1) C dX9_put_18 (by decide) ?_
  refine s_goto (tgt := 51) C dX9_put_19 (by decide) ?_
  refine s_sub [1, 2, 0] rfl ?_
  exact X9_put_b51_s C hF hO hr hm   a0 i1 x1 1 a0

theorem dX9_remove_0 : decode cX9_remove 0 = .ok (.aload_n 0, 1) := by decide +kernel
theorem dX9_remove_1 : decode cX9_remove 1 = .ok (.getfield 204, 3) := by decide +kernel
theorem dX9_remove_4 : decode cX9_remove 4 = .ok (.istore_n 1, 1) := by decide +kernel
theorem dX9_remove_5 : decode cX9_remove 5 = .ok (.aload_n 0, 1) := by decide +kernel
theorem dX9_remove_6 : decode cX9_remove 6 = .ok (.iconst 0, 1) := by decide +kernel
theorem dX9_remove_7 : decode cX9_remove 7 = .ok (.putfield 204, 3) := by decide +kernel
theorem dX9_remove_10 : decode cX9_remove 10 = .ok (.aload_n 0, 1) := by decide +kernel
theorem dX9_remove_11 : decode cX9_remove 11 = .ok (.aload_n 0, 1) := by decide +kernel
theorem dX9_remove_12 : decode cX9_remove 12 = .ok (.getfield 127, 3) := by decide +kernel
theorem dX9_remove_15 : decode cX9_remove 15 = .ok (.ifCond .ne 7, 3) := by decide +kernel
theorem dX9_remove_18 : decode cX9_remove 18 = .ok (.iconst 1, 1) := by decide +kernel
theorem dX9_remove_19 : decode cX9_remove 19 = .ok (.goto 19, 3) := by decide +kernel
theorem dX9_remove_22 : decode cX9_remove 22 = .ok (.iload_n 1, 1) := by decide +kernel
theorem dX9_remove_23 : decode cX9_remove 23 = .ok (.iconst 1, 1) := by decide +kernel
theorem dX9_remove_24 : decode cX9_remove 24 = .ok (.if_icmp .lt 9, 3) := by decide +kernel
theorem dX9_remove_27 : decode cX9_remove 27 = .ok (.iload_n 1, 1) := by decide +kernel
theorem dX9_remove_28 : decode cX9_remove 28 = .ok (.bipush 16, 2) := by decide +kernel
theorem dX9_remove_30 : decode cX9_remove 30 = .ok (.if_icmp .le 7, 3) := by decide +kernel
theorem dX9_remove_33 : decode cX9_remove 33 = .ok (.iconst 2, 1) := by decide +kernel
theorem dX9_remove_34 : decode cX9_remove 34 = .ok (.goto 4, 3) := by decide +kernel
theorem dX9_remove_37 : decode cX9_remove 37 = .ok (.iconst 0, 1) := by decide +kernel
theorem dX9_remove_38 : decode cX9_remove 38 = .ok (.putfield 93, 3) := by decide +kernel
theorem dX9_remove_41 : decode cX9_remove 41 = .ok (.aload_n 0, 1) := by decide +kernel
theorem dX9_remove_42 : decode cX9_remove 42 = .ok (.getfield 93, 3) := by decide +kernel
theorem dX9_remove_45 : decode cX9_remove 45 = .ok (.ifCond .gt 26, 3) := by decide +kernel
theorem dX9_remove_48 : decode cX9_remove 48 = .ok (.aload_n 0, 1) := by decide +kernel
theorem dX9_remove_49 : decode cX9_remove 49 = .ok (.aload_n 0, 1) := by decide +kernel
theorem dX9_remove_50 : decode cX9_remove 50 = .ok (.aload_n 0, 1) := by decide +kernel
theorem dX9_remove_51 : decode cX9_remove 51 = .ok (.getfield 35, 3) := by decide +kernel
theorem dX9_remove_54 : decode cX9_remove 54 = .ok (.iconst 0, 1) := by decide +kernel
theorem dX9_remove_55 : decode cX9_remove 55 = .ok (.iload_n 1, 1) := by decide +kernel
theorem dX9_remove_56 : decode cX9_remove 56 = .ok (.invokevirtual 174, 3) := by decide +kernel
theorem dX9_remove_59 : decode cX9_remove 59 = .ok (.aload_n 0, 1) := by decide +kernel
theorem dX9_remove_60 : decode cX9_remove 60 = .ok (.getfield 35, 3) := by decide +kernel
theorem dX9_remove_63 : decode cX9_remove 63 = .ok (.iconst 0, 1) := by decide +kernel
theorem dX9_remove_64 : decode cX9_remove 64 = .ok (.iload_n 1, 1) := by decide +kernel
theorem dX9_remove_65 : decode cX9_remove 65 = .ok (.invokevirtual 178, 3) := by decide +kernel
theorem dX9_remove_68 : decode cX9_remove 68 = .ok (.ifCond .ne 5, 3) := by decide +kernel
theorem dX9_remove_71 : decode cX9_remove 71 = .ok (.iconst 0, 1) := by decide +kernel
theorem dX9_remove_72 : decode cX9_remove 72 = .ok (.ireturn, 1) := by decide +kernel
theorem dX9_remove_73 : decode cX9_remove 73 = .ok (.aload_n 0, 1) := by decide +kernel
theorem dX9_remove_74 : decode cX9_remove 74 = .ok (.aload_n 0, 1) := by decide +kernel
theorem dX9_remove_75 : decode cX9_remove 75 = .ok (.iload_n 1, 1) := by decide +kernel
theorem dX9_remove_76 : decode cX9_remove 76 = .ok (.iconst (-1), 1) := by decide +kernel
theorem dX9_remove_77 : decode cX9_remove 77 = .ok (.invokestatic 185, 3) := by decide +kernel
theorem dX9_remove_80 : decode cX9_remove 80 = .ok (.invokevirtual 237, 3) := by decide +kernel
theorem dX9_remove_83 : decode cX9_remove 83 = .ok (.ifCond .eq 7, 3) := by decide +kernel
theorem dX9_remove_86 : decode cX9_remove 86 = .ok (.iconst 3, 1) := by decide +kernel
theorem dX9_remove_87 : decode cX9_remove 87 = .ok (.goto 4, 3) := by decide +kernel
theorem dX9_remove_90 : decode cX9_remove 90 = .ok (.iconst 0, 1) := by decide +kernel
theorem dX9_remove_91 : decode cX9_remove 91 = .ok (.putfield 93, 3) := by decide +kernel
theorem dX9_remove_94 : decode cX9_remove 94 = .ok (.aload_n 0, 1) := by decide +kernel
theorem dX9_remove_95 : decode cX9_remove 95 = .ok (.getfield 93, 3) := by decide +kernel
theorem dX9_remove_98 : decode cX9_remove 98 = .ok (.ifCond .le 5, 3) := by decide +kernel
theorem dX9_remove_101 : decode cX9_remove 101 = .ok (.iconst 0, 1) := by decide +kernel
theorem dX9_remove_102 : decode cX9_remove 102 = .ok (.ireturn, 1) := by decide +kernel
theorem dX9_remove_103 : decode cX9_remove 103 = .ok (.aload_n 0, 1) := by decide +kernel
theorem dX9_remove_104 : decode cX9_remove 104 = .ok (.iload_n 1, 1) := by decide +kernel
theorem dX9_remove_105 : decode cX9_remove 105 = .ok (.iconst (-1), 1) := by decide +kernel
theorem dX9_remove_106 : decode cX9_remove 106 = .ok (.invokevirtual 241, 3) := by decide +kernel
theorem dX9_remove_109 : decode cX9_remove 109 = .ok (.iconst 1, 1) := by decide +kernel
theorem dX9_remove_110 : decode cX9_remove 110 = .ok (.ireturn, 1) := by decide +kernel
def X9_remove_b91   (a0 : Nat) (i1 : Int32) (s0 : Int32) (s1 : Nat) : M Int32 := bd (pV 12 0 s1 (.int s0)) (fun _ => bd (gI 12 0 a0) (fun x1 => it (x1 ≤ 0) (bd (ck 12 a0) (fun _ => bd (X9_writes a0 i1 (-1)) (fun _ => pu 1))) (pu 0)))
def X9_remove_b38   (a0 : Nat) (i1 : Int32) (s0 : Int32) (s1 : Nat) : M Int32 := bd (pV 12 0 s1 (.int s0)) (fun _ => bd (gI 12 0 a0) (fun x1 => it (0 < x1) (pu 0) (bd (gR 12 15 a0) (fun y2 => bd (ck 12 a0) (fun _ => bd (X9_placeOf a0 y2 0 i1) (fun x3 => bd (gR 12 15 a0) (fun y4 => bd (ck 12 a0) (fun _ => bd (X9_isAt a0 x3 y4 0 i1) (fun x5 => it (¬ x5 = 0) (bd (X9_bytesOf i1 (-1)) (fun x6 => bd (ck 12 a0) (fun _ => bd (X9_isFull a0 x6) (fun x7 => it (x7 = 0) (X9_remove_b91   a0 i1 0 a0) (X9_remove_b91   a0 i1 3 a0))))) (pu 0))))))))))
def X9_remove_b33   (a0 : Nat) (i1 : Int32) (s0 : Nat) : M Int32 := X9_remove_b38   a0 i1 2 s0
def X9_remove (a0 : Nat) : M Int32 := bd (gI 12 16 a0) (fun x1 => bd (pV 12 16 a0 (.int 0)) (fun _ => bd (gI 12 23 a0) (fun x2 => it (¬ x2 = 0) (it (x1 < 1) (X9_remove_b33   a0 x1 a0) (it (x1 ≤ 16) (X9_remove_b38   a0 x1 0 a0) (X9_remove_b33   a0 x1 a0))) (X9_remove_b38   a0 x1 1 a0))))
section
variable {G : Gx} {p : Program} {l : Launch} {e : Env} {R : Room} {s : State} {m : MethodId} {args : Array Value} {below : List Frame} {meth : Method} {c : Code} {h0 : Hp} {r : Int32} {h' : Hp}
set_option maxRecDepth 20000 in
theorem X9_remove_b91_s (C : Cx G p R s m args meth c cX9_remove 2 yX9_remove.cls h0 h') (hF : R.frames = 4) (hO : R.locals = 105) (hr : meth.sig.returnType = (some .boolean)) (hm : meth.name = yX9_remove.name)   (a0 : Nat) (i1 : Int32) (s0 : Int32) (s1 : Nat) : Sm G (QM G rvI below args s h0 r h') p l e R s m args below meth c 2 h0 r h' 91 [(0, .ref a0), (1, .int i1)] [.int s0, .ref s1] (X9_remove_b91   a0 i1 s0 s1) := by
  refine s_pV C ci12 0 (by decide) rfl (Or.inl wd_6_115) dX9_remove_91 rfl rfl ?_
  refine s_aload_n C 0 dX9_remove_94 rfl rfl ?_
  refine s_gI C ci12 0 (by decide) (Or.inl wd_6_115) dX9_remove_95 (fun x1 => ?_)
  refine s_if_le (tgt := 103) C dX9_remove_98 (by decide) ?_ ?_
  · refine s_aload_n C 0 dX9_remove_103 rfl rfl ?_
    refine s_iload_n C 1 dX9_remove_104 rfl rfl ?_
    refine s_iconst (v := (-1)) C dX9_remove_105 (by decide) ?_
    refine s_invV_u C ci12 cy_X9_writes (Or.inl wd_7_72) rfl wd_7_74 wp_34 (con_X9_writes l G a0 i1 (-1)) rfl rfl (Nat.le_of_ble_eq_true rfl) (by rw [hF]; decide) (by rw [hO]; exact Nat.le_of_ble_eq_true rfl) dX9_remove_106 ?_
    refine s_iconst (v := 1) C dX9_remove_109 (by decide) ?_
    exact s_zret C hr rfl (Or.inr rfl) dX9_remove_110
  refine s_iconst (v := 0) C dX9_remove_101 (by decide) ?_
  exact s_zret C hr rfl (Or.inl rfl) dX9_remove_102
set_option maxRecDepth 20000 in
theorem X9_remove_b38_s (C : Cx G p R s m args meth c cX9_remove 2 yX9_remove.cls h0 h') (hF : R.frames = 4) (hO : R.locals = 105) (hr : meth.sig.returnType = (some .boolean)) (hm : meth.name = yX9_remove.name)   (a0 : Nat) (i1 : Int32) (s0 : Int32) (s1 : Nat) : Sm G (QM G rvI below args s h0 r h') p l e R s m args below meth c 2 h0 r h' 38 [(0, .ref a0), (1, .int i1)] [.int s0, .ref s1] (X9_remove_b38   a0 i1 s0 s1) := by
  refine s_pV C ci12 0 (by decide) rfl (Or.inl wd_6_115) dX9_remove_38 rfl rfl ?_
  refine s_aload_n C 0 dX9_remove_41 rfl rfl ?_
  refine s_gI C ci12 0 (by decide) (Or.inl wd_6_115) dX9_remove_42 (fun x1 => ?_)
  refine s_if_gt (tgt := 71) C dX9_remove_45 (by decide) ?_ ?_
  · refine s_iconst (v := 0) C dX9_remove_71 (by decide) ?_
    exact s_zret C hr rfl (Or.inl rfl) dX9_remove_72
  refine s_aload_n C 0 dX9_remove_48 rfl rfl ?_
  refine s_aload_n C 0 dX9_remove_49 rfl rfl ?_
  refine s_aload_n C 0 dX9_remove_50 rfl rfl ?_
  refine s_gR C ci12 15 (by decide) (Or.inl wd_6_130) dX9_remove_51 (fun y2 => ?_)
  refine s_iconst (v := 0) C dX9_remove_54 (by decide) ?_
  refine s_iload_n C 1 dX9_remove_55 rfl rfl ?_
  refine s_invV_i C ci12 cy_X9_placeOf (Or.inl wd_7_104) rfl wd_7_106 wp_41 (con_X9_placeOf l G a0 y2 0 i1) rfl rfl (Nat.le_of_ble_eq_true rfl) (by rw [hF]; decide) (by rw [hO]; exact Nat.le_of_ble_eq_true rfl) dX9_remove_56 (fun x3 => ?_)
  refine s_aload_n C 0 dX9_remove_59 rfl rfl ?_
  refine s_gR C ci12 15 (by decide) (Or.inl wd_6_130) dX9_remove_60 (fun y4 => ?_)
  refine s_iconst (v := 0) C dX9_remove_63 (by decide) ?_
  refine s_iload_n C 1 dX9_remove_64 rfl rfl ?_
  refine s_invV_i C ci12 cy_X9_isAt (Or.inl wd_7_111) rfl wd_7_113 wp_42 (con_X9_isAt l G a0 x3 y4 0 i1) rfl rfl (Nat.le_of_ble_eq_true rfl) (by rw [hF]; decide) (by rw [hO]; exact Nat.le_of_ble_eq_true rfl) dX9_remove_65 (fun x5 => ?_)
  refine s_if_ne (tgt := 73) C dX9_remove_68 (by decide) ?_ ?_
  · refine s_aload_n C 0 dX9_remove_73 rfl rfl ?_
    refine s_aload_n C 0 dX9_remove_74 rfl rfl ?_
    refine s_iload_n C 1 dX9_remove_75 rfl rfl ?_
    refine s_iconst (v := (-1)) C dX9_remove_76 (by decide) ?_
    refine s_invS_i C cy_X9_bytesOf (Or.inl wd_7_55) wd_7_56 (con_X9_bytesOf l G i1 (-1)) rfl rfl (Nat.le_of_ble_eq_true rfl) (by rw [hF]; decide) (by rw [hO]; exact Nat.le_of_ble_eq_true rfl) dX9_remove_77 (fun x6 => ?_)
    refine s_invV_i C ci12 cy_X9_isFull (Or.inl wd_7_59) rfl wd_7_61 wp_31 (con_X9_isFull l G a0 x6) rfl rfl (Nat.le_of_ble_eq_true rfl) (by rw [hF]; decide) (by rw [hO]; exact Nat.le_of_ble_eq_true rfl) dX9_remove_80 (fun x7 => ?_)
    refine s_if_eq (tgt := 90) C dX9_remove_83 (by decide) ?_ ?_
    · refine s_iconst (v := 0) C dX9_remove_90 (by decide) ?_
      exact X9_remove_b91_s C hF hO hr hm   a0 i1 0 a0
    refine s_iconst (v := 3) C dX9_remove_86 (by decide) ?_
    refine s_goto (tgt := 91) C dX9_remove_87 (by decide) ?_
    exact X9_remove_b91_s C hF hO hr hm   a0 i1 3 a0
  refine s_iconst (v := 0) C dX9_remove_71 (by decide) ?_
  exact s_zret C hr rfl (Or.inl rfl) dX9_remove_72
set_option maxRecDepth 20000 in
theorem X9_remove_b33_s (C : Cx G p R s m args meth c cX9_remove 2 yX9_remove.cls h0 h') (hF : R.frames = 4) (hO : R.locals = 105) (hr : meth.sig.returnType = (some .boolean)) (hm : meth.name = yX9_remove.name)   (a0 : Nat) (i1 : Int32) (s0 : Nat) : Sm G (QM G rvI below args s h0 r h') p l e R s m args below meth c 2 h0 r h' 33 [(0, .ref a0), (1, .int i1)] [.ref s0] (X9_remove_b33   a0 i1 s0) := by
  refine s_iconst (v := 2) C dX9_remove_33 (by decide) ?_
  refine s_goto (tgt := 38) C dX9_remove_34 (by decide) ?_
  exact X9_remove_b38_s C hF hO hr hm   a0 i1 2 s0
end
set_option maxRecDepth 20000 in
theorem con_X9_remove (l : Launch) (G : Gx) (a0 : Nat) : Con G rvI l yX9_remove cX9_remove 2 (some .boolean) 4 105 [.ref a0] (X9_remove a0) := by
  refine con_of (lv := [(0, .ref a0)]) (by decide) (Nat.le_of_ble_eq_true rfl) rfl (fun p e R s m args below meth c h0 r h' C hF hO hr hm => ?_)
  refine s_aload_n C 0 dX9_remove_0 rfl rfl ?_
  refine s_gI C ci12 16 (by decide) (Or.inl wd_6_131) dX9_remove_1 (fun x1 => ?_)
  refine s_istore_n (lv' := [(1, .int x1), (0, .ref a0)]) C dX9_remove_4 rfl (by decide) rfl ?_
  refine s_aload_n C 1 dX9_remove_5 rfl rfl ?_
  refine s_iconst (v := 0) C dX9_remove_6 (by decide) ?_
  refine s_pV C ci12 16 (by decide) rfl (Or.inl wd_6_131) dX9_remove_7 rfl rfl ?_
  refine s_aload_n C 1 dX9_remove_10 rfl rfl ?_
  refine s_aload_n C 1 dX9_remove_11 rfl rfl ?_
  refine s_gI C ci12 23 (by decide) (Or.inl wd_6_138) dX9_remove_12 (fun x2 => ?_)
  refine s_if_ne (tgt := 22) C dX9_remove_15 (by decide) ?_ ?_
  · refine s_iload_n C 0 dX9_remove_22 rfl rfl ?_
    refine s_iconst (v := 1) C dX9_remove_23 (by decide) ?_
    refine s_icmp_lt (tgt := 33) C dX9_remove_24 (by decide) ?_ ?_
    · refine s_sub [1, 0] rfl ?_
      exact X9_remove_b33_s C hF hO hr hm   a0 x1 a0
    refine s_iload_n C 0 dX9_remove_27 rfl rfl ?_
    refine s_bipush (v := 16) C dX9_remove_28 (by decide) ?_
    refine s_icmp_le (tgt := 37) C dX9_remove_30 (by decide) ?_ ?_
    · refine s_iconst (v := 0) C dX9_remove_37 (by decide) ?_
      refine s_sub [1, 0] rfl ?_
      exact X9_remove_b38_s C hF hO hr hm   a0 x1 0 a0
    refine s_sub [1, 0] rfl ?_
    exact X9_remove_b33_s C hF hO hr hm   a0 x1 a0
  refine s_iconst (v := 1) C dX9_remove_18 (by decide) ?_
  refine s_goto (tgt := 38) C dX9_remove_19 (by decide) ?_
  refine s_sub [1, 0] rfl ?_
  exact X9_remove_b38_s C hF hO hr hm   a0 x1 1 a0

theorem dX9_get_0 : decode cX9_get 0 = .ok (.aload_n 0, 1) := by decide +kernel
theorem dX9_get_1 : decode cX9_get 1 = .ok (.getfield 204, 3) := by decide +kernel
theorem dX9_get_4 : decode cX9_get 4 = .ok (.istore_n 1, 1) := by decide +kernel
theorem dX9_get_5 : decode cX9_get 5 = .ok (.aload_n 0, 1) := by decide +kernel
theorem dX9_get_6 : decode cX9_get 6 = .ok (.iconst 0, 1) := by decide +kernel
theorem dX9_get_7 : decode cX9_get 7 = .ok (.putfield 204, 3) := by decide +kernel
theorem dX9_get_10 : decode cX9_get 10 = .ok (.aload_n 0, 1) := by decide +kernel
theorem dX9_get_11 : decode cX9_get 11 = .ok (.aload_n 0, 1) := by decide +kernel
theorem dX9_get_12 : decode cX9_get 12 = .ok (.getfield 127, 3) := by decide +kernel
theorem dX9_get_15 : decode cX9_get 15 = .ok (.ifCond .eq 7, 3) := by decide +kernel
theorem dX9_get_18 : decode cX9_get 18 = .ok (.iconst 0, 1) := by decide +kernel
theorem dX9_get_19 : decode cX9_get 19 = .ok (.goto 4, 3) := by decide +kernel
theorem dX9_get_22 : decode cX9_get 22 = .ok (.iconst 1, 1) := by decide +kernel
theorem dX9_get_23 : decode cX9_get 23 = .ok (.putfield 93, 3) := by decide +kernel
theorem dX9_get_26 : decode cX9_get 26 = .ok (.aload_n 0, 1) := by decide +kernel
theorem dX9_get_27 : decode cX9_get 27 = .ok (.getfield 93, 3) := by decide +kernel
theorem dX9_get_30 : decode cX9_get 30 = .ok (.ifCond .le 5, 3) := by decide +kernel
theorem dX9_get_33 : decode cX9_get 33 = .ok (.iconst 0, 1) := by decide +kernel
theorem dX9_get_34 : decode cX9_get 34 = .ok (.ireturn, 1) := by decide +kernel
theorem dX9_get_35 : decode cX9_get 35 = .ok (.aload_n 0, 1) := by decide +kernel
theorem dX9_get_36 : decode cX9_get 36 = .ok (.iconst 0, 1) := by decide +kernel
theorem dX9_get_37 : decode cX9_get 37 = .ok (.putfield 112, 3) := by decide +kernel
theorem dX9_get_40 : decode cX9_get 40 = .ok (.iload_n 1, 1) := by decide +kernel
theorem dX9_get_41 : decode cX9_get 41 = .ok (.iconst 1, 1) := by decide +kernel
theorem dX9_get_42 : decode cX9_get 42 = .ok (.if_icmp .lt 9, 3) := by decide +kernel
theorem dX9_get_45 : decode cX9_get 45 = .ok (.iload_n 1, 1) := by decide +kernel
theorem dX9_get_46 : decode cX9_get 46 = .ok (.bipush 16, 2) := by decide +kernel
theorem dX9_get_48 : decode cX9_get 48 = .ok (.if_icmp .le 5, 3) := by decide +kernel
theorem dX9_get_51 : decode cX9_get 51 = .ok (.iconst (-1), 1) := by decide +kernel
theorem dX9_get_52 : decode cX9_get 52 = .ok (.ireturn, 1) := by decide +kernel
theorem dX9_get_53 : decode cX9_get 53 = .ok (.aload_n 0, 1) := by decide +kernel
theorem dX9_get_54 : decode cX9_get 54 = .ok (.aload_n 0, 1) := by decide +kernel
theorem dX9_get_55 : decode cX9_get 55 = .ok (.getfield 35, 3) := by decide +kernel
theorem dX9_get_58 : decode cX9_get 58 = .ok (.iconst 0, 1) := by decide +kernel
theorem dX9_get_59 : decode cX9_get 59 = .ok (.iload_n 1, 1) := by decide +kernel
theorem dX9_get_60 : decode cX9_get 60 = .ok (.invokevirtual 174, 3) := by decide +kernel
theorem dX9_get_63 : decode cX9_get 63 = .ok (.istore_n 2, 1) := by decide +kernel
theorem dX9_get_64 : decode cX9_get 64 = .ok (.aload_n 0, 1) := by decide +kernel
theorem dX9_get_65 : decode cX9_get 65 = .ok (.iload_n 2, 1) := by decide +kernel
theorem dX9_get_66 : decode cX9_get 66 = .ok (.aload_n 0, 1) := by decide +kernel
theorem dX9_get_67 : decode cX9_get 67 = .ok (.getfield 35, 3) := by decide +kernel
theorem dX9_get_70 : decode cX9_get 70 = .ok (.iconst 0, 1) := by decide +kernel
theorem dX9_get_71 : decode cX9_get 71 = .ok (.iload_n 1, 1) := by decide +kernel
theorem dX9_get_72 : decode cX9_get 72 = .ok (.invokevirtual 178, 3) := by decide +kernel
theorem dX9_get_75 : decode cX9_get 75 = .ok (.ifCond .ne 5, 3) := by decide +kernel
theorem dX9_get_78 : decode cX9_get 78 = .ok (.iconst (-1), 1) := by decide +kernel
theorem dX9_get_79 : decode cX9_get 79 = .ok (.ireturn, 1) := by decide +kernel
theorem dX9_get_80 : decode cX9_get 80 = .ok (.aload_n 0, 1) := by decide +kernel
theorem dX9_get_81 : decode cX9_get 81 = .ok (.iload_n 2, 1) := by decide +kernel
theorem dX9_get_82 : decode cX9_get 82 = .ok (.invokevirtual 244, 3) := by decide +kernel
theorem dX9_get_85 : decode cX9_get 85 = .ok (.ifCond .eq 6, 3) := by decide +kernel
theorem dX9_get_88 : decode cX9_get 88 = .ok (.bipush (-2), 2) := by decide +kernel
theorem dX9_get_90 : decode cX9_get 90 = .ok (.ireturn, 1) := by decide +kernel
theorem dX9_get_91 : decode cX9_get 91 = .ok (.aload_n 0, 1) := by decide +kernel
theorem dX9_get_92 : decode cX9_get 92 = .ok (.iload_n 2, 1) := by decide +kernel
theorem dX9_get_93 : decode cX9_get 93 = .ok (.invokevirtual 188, 3) := by decide +kernel
theorem dX9_get_96 : decode cX9_get 96 = .ok (.bipush 14, 2) := by decide +kernel
theorem dX9_get_98 : decode cX9_get 98 = .ok (.iadd, 1) := by decide +kernel
theorem dX9_get_99 : decode cX9_get 99 = .ok (.iload_n 1, 1) := by decide +kernel
theorem dX9_get_100 : decode cX9_get 100 = .ok (.iadd, 1) := by decide +kernel
theorem dX9_get_101 : decode cX9_get 101 = .ok (.istore_n 3, 1) := by decide +kernel
theorem dX9_get_102 : decode cX9_get 102 = .ok (.iconst 0, 1) := by decide +kernel
theorem dX9_get_103 : decode cX9_get 103 = .ok (.istore 4, 2) := by decide +kernel
theorem dX9_get_105 : decode cX9_get 105 = .ok (.iload 4, 2) := by decide +kernel
theorem dX9_get_107 : decode cX9_get 107 = .ok (.aload_n 0, 1) := by decide +kernel
theorem dX9_get_108 : decode cX9_get 108 = .ok (.getfield 53, 3) := by decide +kernel
theorem dX9_get_111 : decode cX9_get 111 = .ok (.iload_n 2, 1) := by decide +kernel
theorem dX9_get_112 : decode cX9_get 112 = .ok (.iaload, 1) := by decide +kernel
theorem dX9_get_113 : decode cX9_get 113 = .ok (.if_icmp .ge 25, 3) := by decide +kernel
theorem dX9_get_116 : decode cX9_get 116 = .ok (.aload_n 0, 1) := by decide +kernel
theorem dX9_get_117 : decode cX9_get 117 = .ok (.getfield 38, 3) := by decide +kernel
theorem dX9_get_120 : decode cX9_get 120 = .ok (.iload 4, 2) := by decide +kernel
theorem dX9_get_122 : decode cX9_get 122 = .ok (.aload_n 0, 1) := by decide +kernel
theorem dX9_get_123 : decode cX9_get 123 = .ok (.getfield 9, 3) := by decide +kernel
theorem dX9_get_126 : decode cX9_get 126 = .ok (.iload_n 3, 1) := by decide +kernel
theorem dX9_get_127 : decode cX9_get 127 = .ok (.iload 4, 2) := by decide +kernel
theorem dX9_get_129 : decode cX9_get 129 = .ok (.iadd, 1) := by decide +kernel
theorem dX9_get_130 : decode cX9_get 130 = .ok (.baload, 1) := by decide +kernel
theorem dX9_get_131 : decode cX9_get 131 = .ok (.bastore, 1) := by decide +kernel
theorem dX9_get_132 : decode cX9_get 132 = .ok (.iinc 4 1, 3) := by decide +kernel
theorem dX9_get_135 : decode cX9_get 135 = .ok (.goto (-30), 3) := by decide +kernel
theorem dX9_get_138 : decode cX9_get 138 = .ok (.aload_n 0, 1) := by decide +kernel
theorem dX9_get_139 : decode cX9_get 139 = .ok (.aload_n 0, 1) := by decide +kernel
theorem dX9_get_140 : decode cX9_get 140 = .ok (.getfield 53, 3) := by decide +kernel
theorem dX9_get_143 : decode cX9_get 143 = .ok (.iload_n 2, 1) := by decide +kernel
theorem dX9_get_144 : decode cX9_get 144 = .ok (.iaload, 1) := by decide +kernel
theorem dX9_get_145 : decode cX9_get 145 = .ok (.putfield 112, 3) := by decide +kernel
theorem dX9_get_148 : decode cX9_get 148 = .ok (.aload_n 0, 1) := by decide +kernel
theorem dX9_get_149 : decode cX9_get 149 = .ok (.getfield 112, 3) := by decide +kernel
theorem dX9_get_152 : decode cX9_get 152 = .ok (.ireturn, 1) := by decide +kernel
def X9_get_b105b  (k105 : Nat → Int32 → Int32 → Int32 → M Int32) (a0 : Nat) (i2 : Int32) (i3 : Int32) (i4 : Int32) : M Int32 := bd (gR 12 31 a0) (fun y1 => bd (al 22 y1 i2) (fun x2 => it (x2 ≤ i4) (bd (gR 12 31 a0) (fun y3 => bd (al 22 y3 i2) (fun x4 => bd (pV 12 18 a0 (.int x4)) (fun _ => bd (gI 12 18 a0) (fun x5 => pu x5))))) (bd (gR 12 17 a0) (fun y6 => bd (gR 12 3 a0) (fun y7 => bd (al 21 y7 (i3 + i4)) (fun x8 => bd (as 21 y6 i4 x8) (fun _ => k105 a0 i2 i3 (i4 + 1))))))))
def X9_get_b105  : Nat → Nat → Int32 → Int32 → Int32 → M Int32
  | 0 => fun _ _ _ _ => fl
  | n + 1 => fun a0 i2 i3 i4 => X9_get_b105b  (X9_get_b105  n) a0 i2 i3 i4
def X9_get_b23   (a0 : Nat) (i1 : Int32) (s0 : Int32) (s1 : Nat) : M Int32 := bd (pV 12 0 s1 (.int s0)) (fun _ => bd (gI 12 0 a0) (fun x1 => it (x1 ≤ 0) (bd (pV 12 18 a0 (.int 0)) (fun _ => it (i1 < 1) (pu (-1)) (it (i1 ≤ 16) (bd (gR 12 15 a0) (fun y2 => bd (ck 12 a0) (fun _ => bd (X9_placeOf a0 y2 0 i1) (fun x3 => bd (gR 12 15 a0) (fun y4 => bd (ck 12 a0) (fun _ => bd (X9_isAt a0 x3 y4 0 i1) (fun x5 => it (¬ x5 = 0) (bd (ck 12 a0) (fun _ => bd (X9_isBad a0 x3) (fun x6 => it (x6 = 0) (bd (ck 12 a0) (fun _ => bd (X9_recordAt a0 x3) (fun x7 => bd (pu ((x7 + 14) + i1)) (fun x8 => X9_get_b105  FU a0 x3 x8 0)))) (pu (-2))))) (pu (-1))))))))) (pu (-1))))) (pu 0)))
def X9_get (a0 : Nat) : M Int32 := bd (gI 12 16 a0) (fun x1 => bd (pV 12 16 a0 (.int 0)) (fun _ => bd (gI 12 23 a0) (fun x2 => it (x2 = 0) (X9_get_b23   a0 x1 1 a0) (X9_get_b23   a0 x1 0 a0))))
section
variable {G : Gx} {p : Program} {l : Launch} {e : Env} {R : Room} {s : State} {m : MethodId} {args : Array Value} {below : List Frame} {meth : Method} {c : Code} {h0 : Hp} {r : Int32} {h' : Hp}
set_option maxRecDepth 20000 in
theorem X9_get_b105b_s (C : Cx G p R s m args meth c cX9_get 5 yX9_get.cls h0 h') (hF : R.frames = 4) (hO : R.locals = 95) (hr : meth.sig.returnType = (some .int)) (hm : meth.name = yX9_get.name)  {k105 : Nat → Int32 → Int32 → Int32 → M Int32} (hk105 : ∀ (a0 : Nat) (i2 : Int32) (i3 : Int32) (i4 : Int32), Sm G (QM G rvI below args s h0 r h') p l e R s m args below meth c 5 h0 r h' 105 [(0, .ref a0), (2, .int i2), (3, .int i3), (4, .int i4)] [] (k105 a0 i2 i3 i4)) (a0 : Nat) (i2 : Int32) (i3 : Int32) (i4 : Int32) : Sm G (QM G rvI below args s h0 r h') p l e R s m args below meth c 5 h0 r h' 105 [(0, .ref a0), (2, .int i2), (3, .int i3), (4, .int i4)] [] (X9_get_b105b  k105 a0 i2 i3 i4) := by
  refine s_iload C 3 dX9_get_105 rfl ?_
  refine s_aload_n C 0 dX9_get_107 rfl rfl ?_
  refine s_gR C ci12 31 (by decide) (Or.inl wd_6_146) dX9_get_108 (fun y1 => ?_)
  refine s_iload_n C 1 dX9_get_111 rfl rfl ?_
  refine s_al22 C dX9_get_112 (fun x2 => ?_)
  refine s_icmp_ge (tgt := 138) C dX9_get_113 (by decide) ?_ ?_
  · refine s_aload_n C 0 dX9_get_138 rfl rfl ?_
    refine s_aload_n C 0 dX9_get_139 rfl rfl ?_
    refine s_gR C ci12 31 (by decide) (Or.inl wd_6_146) dX9_get_140 (fun y3 => ?_)
    refine s_iload_n C 1 dX9_get_143 rfl rfl ?_
    refine s_al22 C dX9_get_144 (fun x4 => ?_)
    refine s_pV C ci12 18 (by decide) rfl (Or.inl wd_6_133) dX9_get_145 rfl rfl ?_
    refine s_aload_n C 0 dX9_get_148 rfl rfl ?_
    refine s_gI C ci12 18 (by decide) (Or.inl wd_6_133) dX9_get_149 (fun x5 => ?_)
    exact s_iret C hr rfl dX9_get_152
  refine s_aload_n C 0 dX9_get_116 rfl rfl ?_
  refine s_gR C ci12 17 (by decide) (Or.inl wd_6_132) dX9_get_117 (fun y6 => ?_)
  refine s_iload C 3 dX9_get_120 rfl ?_
  refine s_aload_n C 0 dX9_get_122 rfl rfl ?_
  refine s_gR C ci12 3 (by decide) (Or.inl wd_6_118) dX9_get_123 (fun y7 => ?_)
  refine s_iload_n C 2 dX9_get_126 rfl rfl ?_
  refine s_iload C 3 dX9_get_127 rfl ?_
  refine s_iadd C dX9_get_129 ?_
  refine s_al21 C dX9_get_130 (fun x8 => ?_)
  refine s_as21 C dX9_get_131 ?_
  refine s_iincK (lv' := [(4, .int (i4 + 1)), (0, .ref a0), (2, .int i2), (3, .int i3)]) (w := 1) C 3 dX9_get_132 rfl (by decide) (by decide) rfl ?_
  refine s_goto (tgt := 105) C dX9_get_135 (by decide) ?_
  refine s_sub [1, 2, 3, 0] rfl ?_
  exact hk105 a0 i2 i3 (i4 + 1)
set_option maxRecDepth 20000 in
theorem X9_get_b105_s (C : Cx G p R s m args meth c cX9_get 5 yX9_get.cls h0 h') (hF : R.frames = 4) (hO : R.locals = 95) (hr : meth.sig.returnType = (some .int)) (hm : meth.name = yX9_get.name)  (n : Nat) : ∀ (a0 : Nat) (i2 : Int32) (i3 : Int32) (i4 : Int32), Sm G (QM G rvI below args s h0 r h') p l e R s m args below meth c 5 h0 r h' 105 [(0, .ref a0), (2, .int i2), (3, .int i3), (4, .int i4)] [] (X9_get_b105  n a0 i2 i3 i4) := by
  induction n with
  | zero => intro a0 i2 i3 i4; exact s_fl
  | succ n ih => intro a0 i2 i3 i4; exact X9_get_b105b_s C hF hO hr hm  ih a0 i2 i3 i4
set_option maxRecDepth 20000 in
theorem X9_get_b23_s (C : Cx G p R s m args meth c cX9_get 5 yX9_get.cls h0 h') (hF : R.frames = 4) (hO : R.locals = 95) (hr : meth.sig.returnType = (some .int)) (hm : meth.name = yX9_get.name)   (a0 : Nat) (i1 : Int32) (s0 : Int32) (s1 : Nat) : Sm G (QM G rvI below args s h0 r h') p l e R s m args below meth c 5 h0 r h' 23 [(0, .ref a0), (1, .int i1)] [.int s0, .ref s1] (X9_get_b23   a0 i1 s0 s1) := by
  refine s_pV C ci12 0 (by decide) rfl (Or.inl wd_6_115) dX9_get_23 rfl rfl ?_
  refine s_aload_n C 0 dX9_get_26 rfl rfl ?_
  refine s_gI C ci12 0 (by decide) (Or.inl wd_6_115) dX9_get_27 (fun x1 => ?_)
  refine s_if_le (tgt := 35) C dX9_get_30 (by decide) ?_ ?_
  · refine s_aload_n C 0 dX9_get_35 rfl rfl ?_
    refine s_iconst (v := 0) C dX9_get_36 (by decide) ?_
    refine s_pV C ci12 18 (by decide) rfl (Or.inl wd_6_133) dX9_get_37 rfl rfl ?_
    refine s_iload_n C 1 dX9_get_40 rfl rfl ?_
    refine s_iconst (v := 1) C dX9_get_41 (by decide) ?_
    refine s_icmp_lt (tgt := 51) C dX9_get_42 (by decide) ?_ ?_
    · refine s_iconst (v := (-1)) C dX9_get_51 (by decide) ?_
      exact s_iret C hr rfl dX9_get_52
    refine s_iload_n C 1 dX9_get_45 rfl rfl ?_
    refine s_bipush (v := 16) C dX9_get_46 (by decide) ?_
    refine s_icmp_le (tgt := 53) C dX9_get_48 (by decide) ?_ ?_
    · refine s_aload_n C 0 dX9_get_53 rfl rfl ?_
      refine s_aload_n C 0 dX9_get_54 rfl rfl ?_
      refine s_gR C ci12 15 (by decide) (Or.inl wd_6_130) dX9_get_55 (fun y2 => ?_)
      refine s_iconst (v := 0) C dX9_get_58 (by decide) ?_
      refine s_iload_n C 1 dX9_get_59 rfl rfl ?_
      refine s_invV_i C ci12 cy_X9_placeOf (Or.inl wd_7_104) rfl wd_7_106 wp_41 (con_X9_placeOf l G a0 y2 0 i1) rfl rfl (Nat.le_of_ble_eq_true rfl) (by rw [hF]; decide) (by rw [hO]; exact Nat.le_of_ble_eq_true rfl) dX9_get_60 (fun x3 => ?_)
      refine s_istore_n (lv' := [(2, .int x3), (0, .ref a0), (1, .int i1)]) C dX9_get_63 rfl (by decide) rfl ?_
      refine s_aload_n C 1 dX9_get_64 rfl rfl ?_
      refine s_iload_n C 0 dX9_get_65 rfl rfl ?_
      refine s_aload_n C 1 dX9_get_66 rfl rfl ?_
      refine s_gR C ci12 15 (by decide) (Or.inl wd_6_130) dX9_get_67 (fun y4 => ?_)
      refine s_iconst (v := 0) C dX9_get_70 (by decide) ?_
      refine s_iload_n C 2 dX9_get_71 rfl rfl ?_
      refine s_invV_i C ci12 cy_X9_isAt (Or.inl wd_7_111) rfl wd_7_113 wp_42 (con_X9_isAt l G a0 x3 y4 0 i1) rfl rfl (Nat.le_of_ble_eq_true rfl) (by rw [hF]; decide) (by rw [hO]; exact Nat.le_of_ble_eq_true rfl) dX9_get_72 (fun x5 => ?_)
      refine s_if_ne (tgt := 80) C dX9_get_75 (by decide) ?_ ?_
      · refine s_aload_n C 1 dX9_get_80 rfl rfl ?_
        refine s_iload_n C 0 dX9_get_81 rfl rfl ?_
        refine s_invV_i C ci12 cy_X9_isBad (Or.inl wd_7_131) rfl wd_7_133 wp_45 (con_X9_isBad l G a0 x3) rfl rfl (Nat.le_of_ble_eq_true rfl) (by rw [hF]; decide) (by rw [hO]; exact Nat.le_of_ble_eq_true rfl) dX9_get_82 (fun x6 => ?_)
        refine s_if_eq (tgt := 91) C dX9_get_85 (by decide) ?_ ?_
        · refine s_aload_n C 1 dX9_get_91 rfl rfl ?_
          refine s_iload_n C 0 dX9_get_92 rfl rfl ?_
          refine s_invV_i C ci12 cy_X9_recordAt (Or.inl wd_7_135) rfl wd_7_137 wp_46 (con_X9_recordAt l G a0 x3) rfl rfl (Nat.le_of_ble_eq_true rfl) (by rw [hF]; decide) (by rw [hO]; exact Nat.le_of_ble_eq_true rfl) dX9_get_93 (fun x7 => ?_)
          refine s_bipush (v := 14) C dX9_get_96 (by decide) ?_
          refine s_iadd C dX9_get_98 ?_
          refine s_iload_n C 2 dX9_get_99 rfl rfl ?_
          refine s_iadd C dX9_get_100 ?_
          refine s_let (fun x8 => ?_)
          refine s_istore_n (lv' := [(3, .int x8), (2, .int x3), (0, .ref a0), (1, .int i1)]) C dX9_get_101 rfl (by decide) rfl ?_
          refine s_iconst (v := 0) C dX9_get_102 (by decide) ?_
          refine s_istore (lv' := [(4, .int 0), (3, .int x8), (2, .int x3), (0, .ref a0), (1, .int i1)]) C dX9_get_103 (by decide) rfl ?_
          refine s_sub [3, 2, 1, 0] rfl ?_
          exact X9_get_b105_s C hF hO hr hm  FU a0 x3 x8 0
        refine s_bipush (v := (-2)) C dX9_get_88 (by decide) ?_
        exact s_iret C hr rfl dX9_get_90
      refine s_iconst (v := (-1)) C dX9_get_78 (by decide) ?_
      exact s_iret C hr rfl dX9_get_79
    refine s_iconst (v := (-1)) C dX9_get_51 (by decide) ?_
    exact s_iret C hr rfl dX9_get_52
  refine s_iconst (v := 0) C dX9_get_33 (by decide) ?_
  exact s_iret C hr rfl dX9_get_34
end
set_option maxRecDepth 20000 in
theorem con_X9_get (l : Launch) (G : Gx) (a0 : Nat) : Con G rvI l yX9_get cX9_get 5 (some .int) 4 95 [.ref a0] (X9_get a0) := by
  refine con_of (lv := [(0, .ref a0)]) (by decide) (Nat.le_of_ble_eq_true rfl) rfl (fun p e R s m args below meth c h0 r h' C hF hO hr hm => ?_)
  refine s_aload_n C 0 dX9_get_0 rfl rfl ?_
  refine s_gI C ci12 16 (by decide) (Or.inl wd_6_131) dX9_get_1 (fun x1 => ?_)
  refine s_istore_n (lv' := [(1, .int x1), (0, .ref a0)]) C dX9_get_4 rfl (by decide) rfl ?_
  refine s_aload_n C 1 dX9_get_5 rfl rfl ?_
  refine s_iconst (v := 0) C dX9_get_6 (by decide) ?_
  refine s_pV C ci12 16 (by decide) rfl (Or.inl wd_6_131) dX9_get_7 rfl rfl ?_
  refine s_aload_n C 1 dX9_get_10 rfl rfl ?_
  refine s_aload_n C 1 dX9_get_11 rfl rfl ?_
  refine s_gI C ci12 23 (by decide) (Or.inl wd_6_138) dX9_get_12 (fun x2 => ?_)
  refine s_if_eq (tgt := 22) C dX9_get_15 (by decide) ?_ ?_
  · refine s_iconst (v := 1) C dX9_get_22 (by decide) ?_
    refine s_sub [1, 0] rfl ?_
    exact X9_get_b23_s C hF hO hr hm   a0 x1 1 a0
  refine s_iconst (v := 0) C dX9_get_18 (by decide) ?_
  refine s_goto (tgt := 23) C dX9_get_19 (by decide) ?_
  refine s_sub [1, 0] rfl ?_
  exact X9_get_b23_s C hF hO hr hm   a0 x1 0 a0

theorem dX9_answer_0 : decode cX9_answer 0 = .ok (.aload_n 0, 1) := by decide +kernel
theorem dX9_answer_1 : decode cX9_answer 1 = .ok (.iconst 0, 1) := by decide +kernel
theorem dX9_answer_2 : decode cX9_answer 2 = .ok (.putfield 93, 3) := by decide +kernel
theorem dX9_answer_5 : decode cX9_answer 5 = .ok (.iload_n 1, 1) := by decide +kernel
theorem dX9_answer_6 : decode cX9_answer 6 = .ok (.ifCond .lt 11, 3) := by decide +kernel
theorem dX9_answer_9 : decode cX9_answer 9 = .ok (.iload_n 1, 1) := by decide +kernel
theorem dX9_answer_10 : decode cX9_answer 10 = .ok (.aload_n 0, 1) := by decide +kernel
theorem dX9_answer_11 : decode cX9_answer 11 = .ok (.getfield 112, 3) := by decide +kernel
theorem dX9_answer_14 : decode cX9_answer 14 = .ok (.if_icmp .lt 7, 3) := by decide +kernel
theorem dX9_answer_17 : decode cX9_answer 17 = .ok (.iconst (-1), 1) := by decide +kernel
theorem dX9_answer_18 : decode cX9_answer 18 = .ok (.goto 13, 3) := by decide +kernel
theorem dX9_answer_21 : decode cX9_answer 21 = .ok (.aload_n 0, 1) := by decide +kernel
theorem dX9_answer_22 : decode cX9_answer 22 = .ok (.getfield 38, 3) := by decide +kernel
theorem dX9_answer_25 : decode cX9_answer 25 = .ok (.iload_n 1, 1) := by decide +kernel
theorem dX9_answer_26 : decode cX9_answer 26 = .ok (.baload, 1) := by decide +kernel
theorem dX9_answer_27 : decode cX9_answer 27 = .ok (.sipush 255, 3) := by decide +kernel
theorem dX9_answer_30 : decode cX9_answer 30 = .ok (.iand, 1) := by decide +kernel
theorem dX9_answer_31 : decode cX9_answer 31 = .ok (.ireturn, 1) := by decide +kernel
def X9_answer_b17    : M Int32 := pu (-1)
def X9_answer (a0 : Nat) (i1 : Int32) : M Int32 := bd (pV 12 0 a0 (.int 0)) (fun _ => it (i1 < 0) (X9_answer_b17   ) (bd (gI 12 18 a0) (fun x1 => it (i1 < x1) (bd (gR 12 17 a0) (fun y2 => bd (al 21 y2 i1) (fun x3 => pu (x3 &&& 255)))) (X9_answer_b17   ))))
section
variable {G : Gx} {p : Program} {l : Launch} {e : Env} {R : Room} {s : State} {m : MethodId} {args : Array Value} {below : List Frame} {meth : Method} {c : Code} {h0 : Hp} {r : Int32} {h' : Hp}
set_option maxRecDepth 20000 in
theorem X9_answer_b17_s (C : Cx G p R s m args meth c cX9_answer 2 yX9_answer.cls h0 h') (hF : R.frames = 0) (hO : R.locals = 0) (hr : meth.sig.returnType = (some .int)) (hm : meth.name = yX9_answer.name)    : Sm G (QM G rvI below args s h0 r h') p l e R s m args below meth c 2 h0 r h' 17 [] [] (X9_answer_b17   ) := by
  refine s_iconst (v := (-1)) C dX9_answer_17 (by decide) ?_
  refine s_goto (tgt := 31) C dX9_answer_18 (by decide) ?_
  exact s_iret C hr rfl dX9_answer_31
end
set_option maxRecDepth 20000 in
theorem con_X9_answer (l : Launch) (G : Gx) (a0 : Nat) (i1 : Int32) : Con G rvI l yX9_answer cX9_answer 2 (some .int) 0 0 [.ref a0, .int i1] (X9_answer a0 i1) := by
  refine con_of (lv := [(0, .ref a0), (1, .int i1)]) (by decide) (Nat.le_of_ble_eq_true rfl) rfl (fun p e R s m args below meth c h0 r h' C hF hO hr hm => ?_)
  refine s_aload_n C 0 dX9_answer_0 rfl rfl ?_
  refine s_iconst (v := 0) C dX9_answer_1 (by decide) ?_
  refine s_pV C ci12 0 (by decide) rfl (Or.inl wd_6_115) dX9_answer_2 rfl rfl ?_
  refine s_iload_n C 1 dX9_answer_5 rfl rfl ?_
  refine s_if_lt (tgt := 17) C dX9_answer_6 (by decide) ?_ ?_
  · refine s_sub [] rfl ?_
    exact X9_answer_b17_s C hF hO hr hm   
  refine s_iload_n C 1 dX9_answer_9 rfl rfl ?_
  refine s_aload_n C 0 dX9_answer_10 rfl rfl ?_
  refine s_gI C ci12 18 (by decide) (Or.inl wd_6_133) dX9_answer_11 (fun x1 => ?_)
  refine s_icmp_lt (tgt := 21) C dX9_answer_14 (by decide) ?_ ?_
  · refine s_aload_n C 0 dX9_answer_21 rfl rfl ?_
    refine s_gR C ci12 17 (by decide) (Or.inl wd_6_132) dX9_answer_22 (fun y2 => ?_)
    refine s_iload_n C 1 dX9_answer_25 rfl rfl ?_
    refine s_al21 C dX9_answer_26 (fun x3 => ?_)
    refine s_sipush (v := 255) C dX9_answer_27 (by decide) ?_
    refine s_iand C dX9_answer_30 ?_
    exact s_iret C hr rfl dX9_answer_31
  refine s_sub [] rfl ?_
  exact X9_answer_b17_s C hF hO hr hm   

theorem dX9_sync_0 : decode cX9_sync 0 = .ok (.aload_n 0, 1) := by decide +kernel
theorem dX9_sync_1 : decode cX9_sync 1 = .ok (.aload_n 0, 1) := by decide +kernel
theorem dX9_sync_2 : decode cX9_sync 2 = .ok (.getfield 127, 3) := by decide +kernel
theorem dX9_sync_5 : decode cX9_sync 5 = .ok (.ifCond .eq 7, 3) := by decide +kernel
theorem dX9_sync_8 : decode cX9_sync 8 = .ok (.iconst 0, 1) := by decide +kernel
theorem dX9_sync_9 : decode cX9_sync 9 = .ok (.goto 4, 3) := by decide +kernel
theorem dX9_sync_12 : decode cX9_sync 12 = .ok (.iconst 1, 1) := by decide +kernel
theorem dX9_sync_13 : decode cX9_sync 13 = .ok (.putfield 93, 3) := by decide +kernel
theorem dX9_sync_16 : decode cX9_sync 16 = .ok (.aload_n 0, 1) := by decide +kernel
theorem dX9_sync_17 : decode cX9_sync 17 = .ok (.getfield 93, 3) := by decide +kernel
theorem dX9_sync_20 : decode cX9_sync 20 = .ok (.ifCond .le 5, 3) := by decide +kernel
theorem dX9_sync_23 : decode cX9_sync 23 = .ok (.iconst 0, 1) := by decide +kernel
theorem dX9_sync_24 : decode cX9_sync 24 = .ok (.ireturn, 1) := by decide +kernel
theorem dX9_sync_25 : decode cX9_sync 25 = .ok (.aload_n 0, 1) := by decide +kernel
theorem dX9_sync_26 : decode cX9_sync 26 = .ok (.invokevirtual 247, 3) := by decide +kernel
theorem dX9_sync_29 : decode cX9_sync 29 = .ok (.istore_n 1, 1) := by decide +kernel
theorem dX9_sync_30 : decode cX9_sync 30 = .ok (.aload_n 0, 1) := by decide +kernel
theorem dX9_sync_31 : decode cX9_sync 31 = .ok (.iconst 0, 1) := by decide +kernel
theorem dX9_sync_32 : decode cX9_sync 32 = .ok (.putfield 109, 3) := by decide +kernel
theorem dX9_sync_35 : decode cX9_sync 35 = .ok (.iload_n 1, 1) := by decide +kernel
theorem dX9_sync_36 : decode cX9_sync 36 = .ok (.ireturn, 1) := by decide +kernel
def X9_sync_b13   (a0 : Nat) (s0 : Int32) (s1 : Nat) : M Int32 := bd (pV 12 0 s1 (.int s0)) (fun _ => bd (gI 12 0 a0) (fun x1 => it (x1 ≤ 0) (bd (ck 12 a0) (fun _ => bd (X9_unsynced a0) (fun x2 => bd (pV 12 12 a0 (.int 0)) (fun _ => pu x2)))) (pu 0)))
def X9_sync (a0 : Nat) : M Int32 := bd (gI 12 23 a0) (fun x1 => it (x1 = 0) (X9_sync_b13   a0 1 a0) (X9_sync_b13   a0 0 a0))
section
variable {G : Gx} {p : Program} {l : Launch} {e : Env} {R : Room} {s : State} {m : MethodId} {args : Array Value} {below : List Frame} {meth : Method} {c : Code} {h0 : Hp} {r : Int32} {h' : Hp}
set_option maxRecDepth 20000 in
theorem X9_sync_b13_s (C : Cx G p R s m args meth c cX9_sync 2 yX9_sync.cls h0 h') (hF : R.frames = 1) (hO : R.locals = 22) (hr : meth.sig.returnType = (some .int)) (hm : meth.name = yX9_sync.name)   (a0 : Nat) (s0 : Int32) (s1 : Nat) : Sm G (QM G rvI below args s h0 r h') p l e R s m args below meth c 2 h0 r h' 13 [(0, .ref a0)] [.int s0, .ref s1] (X9_sync_b13   a0 s0 s1) := by
  refine s_pV C ci12 0 (by decide) rfl (Or.inl wd_6_115) dX9_sync_13 rfl rfl ?_
  refine s_aload_n C 0 dX9_sync_16 rfl rfl ?_
  refine s_gI C ci12 0 (by decide) (Or.inl wd_6_115) dX9_sync_17 (fun x1 => ?_)
  refine s_if_le (tgt := 25) C dX9_sync_20 (by decide) ?_ ?_
  · refine s_aload_n C 0 dX9_sync_25 rfl rfl ?_
    refine s_invV_i C ci12 cy_X9_unsynced (Or.inl wd_7_157) rfl wd_7_159 wp_48 (con_X9_unsynced l G a0) rfl rfl (Nat.le_of_ble_eq_true rfl) (by rw [hF]; decide) (by rw [hO]; exact Nat.le_of_ble_eq_true rfl) dX9_sync_26 (fun x2 => ?_)
    refine s_istore_n (lv' := [(1, .int x2), (0, .ref a0)]) C dX9_sync_29 rfl (by decide) rfl ?_
    refine s_aload_n C 1 dX9_sync_30 rfl rfl ?_
    refine s_iconst (v := 0) C dX9_sync_31 (by decide) ?_
    refine s_pV C ci12 12 (by decide) rfl (Or.inl wd_6_127) dX9_sync_32 rfl rfl ?_
    refine s_iload_n C 0 dX9_sync_35 rfl rfl ?_
    exact s_iret C hr rfl dX9_sync_36
  refine s_iconst (v := 0) C dX9_sync_23 (by decide) ?_
  exact s_iret C hr rfl dX9_sync_24
end
set_option maxRecDepth 20000 in
theorem con_X9_sync (l : Launch) (G : Gx) (a0 : Nat) : Con G rvI l yX9_sync cX9_sync 2 (some .int) 1 22 [.ref a0] (X9_sync a0) := by
  refine con_of (lv := [(0, .ref a0)]) (by decide) (Nat.le_of_ble_eq_true rfl) rfl (fun p e R s m args below meth c h0 r h' C hF hO hr hm => ?_)
  refine s_aload_n C 0 dX9_sync_0 rfl rfl ?_
  refine s_aload_n C 0 dX9_sync_1 rfl rfl ?_
  refine s_gI C ci12 23 (by decide) (Or.inl wd_6_138) dX9_sync_2 (fun x1 => ?_)
  refine s_if_eq (tgt := 12) C dX9_sync_5 (by decide) ?_ ?_
  · refine s_iconst (v := 1) C dX9_sync_12 (by decide) ?_
    exact X9_sync_b13_s C hF hO hr hm   a0 1 a0
  refine s_iconst (v := 0) C dX9_sync_8 (by decide) ?_
  refine s_goto (tgt := 13) C dX9_sync_9 (by decide) ?_
  exact X9_sync_b13_s C hF hO hr hm   a0 0 a0

theorem dX9_crash_0 : decode cX9_crash 0 = .ok (.aload_n 0, 1) := by decide +kernel
theorem dX9_crash_1 : decode cX9_crash 1 = .ok (.aload_n 0, 1) := by decide +kernel
theorem dX9_crash_2 : decode cX9_crash 2 = .ok (.getfield 127, 3) := by decide +kernel
theorem dX9_crash_5 : decode cX9_crash 5 = .ok (.ifCond .ne 7, 3) := by decide +kernel
theorem dX9_crash_8 : decode cX9_crash 8 = .ok (.iconst 1, 1) := by decide +kernel
theorem dX9_crash_9 : decode cX9_crash 9 = .ok (.goto 20, 3) := by decide +kernel
theorem dX9_crash_12 : decode cX9_crash 12 = .ok (.iload_n 1, 1) := by decide +kernel
theorem dX9_crash_13 : decode cX9_crash 13 = .ok (.ifCond .lt 11, 3) := by decide +kernel
theorem dX9_crash_16 : decode cX9_crash 16 = .ok (.iload_n 1, 1) := by decide +kernel
theorem dX9_crash_17 : decode cX9_crash 17 = .ok (.aload_n 0, 1) := by decide +kernel
theorem dX9_crash_18 : decode cX9_crash 18 = .ok (.invokevirtual 247, 3) := by decide +kernel
theorem dX9_crash_21 : decode cX9_crash 21 = .ok (.if_icmp .le 7, 3) := by decide +kernel
theorem dX9_crash_24 : decode cX9_crash 24 = .ok (.iconst 2, 1) := by decide +kernel
theorem dX9_crash_25 : decode cX9_crash 25 = .ok (.goto 4, 3) := by decide +kernel
theorem dX9_crash_28 : decode cX9_crash 28 = .ok (.iconst 0, 1) := by decide +kernel
theorem dX9_crash_29 : decode cX9_crash 29 = .ok (.putfield 93, 3) := by decide +kernel
theorem dX9_crash_32 : decode cX9_crash 32 = .ok (.aload_n 0, 1) := by decide +kernel
theorem dX9_crash_33 : decode cX9_crash 33 = .ok (.getfield 93, 3) := by decide +kernel
theorem dX9_crash_36 : decode cX9_crash 36 = .ok (.ifCond .le 5, 3) := by decide +kernel
theorem dX9_crash_39 : decode cX9_crash 39 = .ok (.iconst 0, 1) := by decide +kernel
theorem dX9_crash_40 : decode cX9_crash 40 = .ok (.ireturn, 1) := by decide +kernel
theorem dX9_crash_41 : decode cX9_crash 41 = .ok (.aload_n 0, 1) := by decide +kernel
theorem dX9_crash_42 : decode cX9_crash 42 = .ok (.invokevirtual 247, 3) := by decide +kernel
theorem dX9_crash_45 : decode cX9_crash 45 = .ok (.iload_n 1, 1) := by decide +kernel
theorem dX9_crash_46 : decode cX9_crash 46 = .ok (.isub, 1) := by decide +kernel
theorem dX9_crash_47 : decode cX9_crash 47 = .ok (.istore_n 2, 1) := by decide +kernel
theorem dX9_crash_48 : decode cX9_crash 48 = .ok (.iload_n 2, 1) := by decide +kernel
theorem dX9_crash_49 : decode cX9_crash 49 = .ok (.istore_n 3, 1) := by decide +kernel
theorem dX9_crash_50 : decode cX9_crash 50 = .ok (.aload_n 0, 1) := by decide +kernel
theorem dX9_crash_51 : decode cX9_crash 51 = .ok (.getfield 109, 3) := by decide +kernel
theorem dX9_crash_54 : decode cX9_crash 54 = .ok (.iconst 1, 1) := by decide +kernel
theorem dX9_crash_55 : decode cX9_crash 55 = .ok (.isub, 1) := by decide +kernel
theorem dX9_crash_56 : decode cX9_crash 56 = .ok (.istore 4, 2) := by decide +kernel
theorem dX9_crash_58 : decode cX9_crash 58 = .ok (.iload 4, 2) := by decide +kernel
theorem dX9_crash_60 : decode cX9_crash 60 = .ok (.ifCond .lt 55, 3) := by decide +kernel
theorem dX9_crash_63 : decode cX9_crash 63 = .ok (.iload_n 3, 1) := by decide +kernel
theorem dX9_crash_64 : decode cX9_crash 64 = .ok (.ifCond .le 51, 3) := by decide +kernel
theorem dX9_crash_67 : decode cX9_crash 67 = .ok (.iload_n 3, 1) := by decide +kernel
theorem dX9_crash_68 : decode cX9_crash 68 = .ok (.aload_n 0, 1) := by decide +kernel
theorem dX9_crash_69 : decode cX9_crash 69 = .ok (.getfield 29, 3) := by decide +kernel
theorem dX9_crash_72 : decode cX9_crash 72 = .ok (.iload 4, 2) := by decide +kernel
theorem dX9_crash_74 : decode cX9_crash 74 = .ok (.iaload, 1) := by decide +kernel
theorem dX9_crash_75 : decode cX9_crash 75 = .ok (.invokestatic 250, 3) := by decide +kernel
theorem dX9_crash_78 : decode cX9_crash 78 = .ok (.istore 5, 2) := by decide +kernel
theorem dX9_crash_80 : decode cX9_crash 80 = .ok (.aload_n 0, 1) := by decide +kernel
theorem dX9_crash_81 : decode cX9_crash 81 = .ok (.aload_n 0, 1) := by decide +kernel
theorem dX9_crash_82 : decode cX9_crash 82 = .ok (.aload_n 0, 1) := by decide +kernel
theorem dX9_crash_83 : decode cX9_crash 83 = .ok (.getfield 23, 3) := by decide +kernel
theorem dX9_crash_86 : decode cX9_crash 86 = .ok (.iload 4, 2) := by decide +kernel
theorem dX9_crash_88 : decode cX9_crash 88 = .ok (.iaload, 1) := by decide +kernel
theorem dX9_crash_89 : decode cX9_crash 89 = .ok (.aload_n 0, 1) := by decide +kernel
theorem dX9_crash_90 : decode cX9_crash 90 = .ok (.getfield 26, 3) := by decide +kernel
theorem dX9_crash_93 : decode cX9_crash 93 = .ok (.iload 4, 2) := by decide +kernel
theorem dX9_crash_95 : decode cX9_crash 95 = .ok (.iaload, 1) := by decide +kernel
theorem dX9_crash_96 : decode cX9_crash 96 = .ok (.invokevirtual 149, 3) := by decide +kernel
theorem dX9_crash_99 : decode cX9_crash 99 = .ok (.iload 5, 2) := by decide +kernel
theorem dX9_crash_101 : decode cX9_crash 101 = .ok (.invokevirtual 160, 3) := by decide +kernel
theorem dX9_crash_104 : decode cX9_crash 104 = .ok (.iload_n 3, 1) := by decide +kernel
theorem dX9_crash_105 : decode cX9_crash 105 = .ok (.iload 5, 2) := by decide +kernel
theorem dX9_crash_107 : decode cX9_crash 107 = .ok (.isub, 1) := by decide +kernel
theorem dX9_crash_108 : decode cX9_crash 108 = .ok (.istore_n 3, 1) := by decide +kernel
theorem dX9_crash_109 : decode cX9_crash 109 = .ok (.iinc 4 (-1), 3) := by decide +kernel
theorem dX9_crash_112 : decode cX9_crash 112 = .ok (.goto (-54), 3) := by decide +kernel
theorem dX9_crash_115 : decode cX9_crash 115 = .ok (.aload_n 0, 1) := by decide +kernel
theorem dX9_crash_116 : decode cX9_crash 116 = .ok (.iconst 0, 1) := by decide +kernel
theorem dX9_crash_117 : decode cX9_crash 117 = .ok (.putfield 109, 3) := by decide +kernel
theorem dX9_crash_120 : decode cX9_crash 120 = .ok (.aload_n 0, 1) := by decide +kernel
theorem dX9_crash_121 : decode cX9_crash 121 = .ok (.iconst 0, 1) := by decide +kernel
theorem dX9_crash_122 : decode cX9_crash 122 = .ok (.putfield 127, 3) := by decide +kernel
theorem dX9_crash_125 : decode cX9_crash 125 = .ok (.aload_n 0, 1) := by decide +kernel
theorem dX9_crash_126 : decode cX9_crash 126 = .ok (.iconst 0, 1) := by decide +kernel
theorem dX9_crash_127 : decode cX9_crash 127 = .ok (.putfield 140, 3) := by decide +kernel
theorem dX9_crash_130 : decode cX9_crash 130 = .ok (.aload_n 0, 1) := by decide +kernel
theorem dX9_crash_131 : decode cX9_crash 131 = .ok (.iconst 0, 1) := by decide +kernel
theorem dX9_crash_132 : decode cX9_crash 132 = .ok (.putfield 143, 3) := by decide +kernel
theorem dX9_crash_135 : decode cX9_crash 135 = .ok (.aload_n 0, 1) := by decide +kernel
theorem dX9_crash_136 : decode cX9_crash 136 = .ok (.iconst (-1), 1) := by decide +kernel
theorem dX9_crash_137 : decode cX9_crash 137 = .ok (.putfield 146, 3) := by decide +kernel
theorem dX9_crash_140 : decode cX9_crash 140 = .ok (.aload_n 0, 1) := by decide +kernel
theorem dX9_crash_141 : decode cX9_crash 141 = .ok (.iconst (-1), 1) := by decide +kernel
theorem dX9_crash_142 : decode cX9_crash 142 = .ok (.putfield 137, 3) := by decide +kernel
theorem dX9_crash_145 : decode cX9_crash 145 = .ok (.iload_n 2, 1) := by decide +kernel
theorem dX9_crash_146 : decode cX9_crash 146 = .ok (.ireturn, 1) := by decide +kernel
def X9_crash_b115   (a0 : Nat) (i2 : Int32) : M Int32 := bd (pV 12 12 a0 (.int 0)) (fun _ => bd (pZ 12 23 a0 0) (fun _ => bd (pV 12 33 a0 (.int 0)) (fun _ => bd (pV 12 34 a0 (.int 0)) (fun _ => bd (pV 12 35 a0 (.int (-1))) (fun _ => bd (pV 12 26 a0 (.int (-1))) (fun _ => pu i2))))))
def X9_crash_b58b  (k58 : Nat → Int32 → Int32 → Int32 → M Int32) (a0 : Nat) (i2 : Int32) (i3 : Int32) (i4 : Int32) : M Int32 := it (i4 < 0) (X9_crash_b115   a0 i2) (it (i3 ≤ 0) (X9_crash_b115   a0 i2) (bd (gR 12 11 a0) (fun y1 => bd (al 22 y1 i4) (fun x2 => bd (pu (imn i3 x2)) (fun x3 => bd (gR 12 9 a0) (fun y4 => bd (al 22 y4 i4) (fun x5 => bd (gR 12 10 a0) (fun y6 => bd (al 22 y6 i4) (fun x7 => bd (ck 12 a0) (fun _ => bd (X9_fileAt a0 x5 x7) (fun x8 => bd (ck 12 a0) (fun _ => bd (X9_loses a0 x8 x3) (fun _ => bd (pu (i3 - x3)) (fun x9 => k58 a0 i2 x9 (i4 + (-1))))))))))))))))
def X9_crash_b58  : Nat → Nat → Int32 → Int32 → Int32 → M Int32
  | 0 => fun _ _ _ _ => fl
  | n + 1 => fun a0 i2 i3 i4 => X9_crash_b58b  (X9_crash_b58  n) a0 i2 i3 i4
def X9_crash_b29   (a0 : Nat) (i1 : Int32) (s0 : Int32) (s1 : Nat) : M Int32 := bd (pV 12 0 s1 (.int s0)) (fun _ => bd (gI 12 0 a0) (fun x1 => it (x1 ≤ 0) (bd (ck 12 a0) (fun _ => bd (X9_unsynced a0) (fun x2 => bd (pu (x2 - i1)) (fun x3 => bd (gI 12 12 a0) (fun x4 => bd (pu (x4 - 1)) (fun x5 => X9_crash_b58  FU a0 x3 x3 x5)))))) (pu 0)))
def X9_crash_b24   (a0 : Nat) (i1 : Int32) (s0 : Nat) : M Int32 := X9_crash_b29   a0 i1 2 s0
def X9_crash (a0 : Nat) (i1 : Int32) : M Int32 := bd (gI 12 23 a0) (fun x1 => it (¬ x1 = 0) (it (i1 < 0) (X9_crash_b24   a0 i1 a0) (bd (ck 12 a0) (fun _ => bd (X9_unsynced a0) (fun x2 => it (i1 ≤ x2) (X9_crash_b29   a0 i1 0 a0) (X9_crash_b24   a0 i1 a0))))) (X9_crash_b29   a0 i1 1 a0))
section
variable {G : Gx} {p : Program} {l : Launch} {e : Env} {R : Room} {s : State} {m : MethodId} {args : Array Value} {below : List Frame} {meth : Method} {c : Code} {h0 : Hp} {r : Int32} {h' : Hp}
set_option maxRecDepth 20000 in
theorem X9_crash_b115_s (C : Cx G p R s m args meth c cX9_crash 6 yX9_crash.cls h0 h') (hF : R.frames = 2) (hO : R.locals = 47) (hr : meth.sig.returnType = (some .int)) (hm : meth.name = yX9_crash.name)   (a0 : Nat) (i2 : Int32) : Sm G (QM G rvI below args s h0 r h') p l e R s m args below meth c 6 h0 r h' 115 [(0, .ref a0), (2, .int i2)] [] (X9_crash_b115   a0 i2) := by
  refine s_aload_n C 0 dX9_crash_115 rfl rfl ?_
  refine s_iconst (v := 0) C dX9_crash_116 (by decide) ?_
  refine s_pV C ci12 12 (by decide) rfl (Or.inl wd_6_127) dX9_crash_117 rfl rfl ?_
  refine s_aload_n C 0 dX9_crash_120 rfl rfl ?_
  refine s_iconst (v := 0) C dX9_crash_121 (by decide) ?_
  refine s_pZ C ci12 23 (by decide) rfl rfl (Or.inl wd_6_138) dX9_crash_122 ?_
  refine s_aload_n C 0 dX9_crash_125 rfl rfl ?_
  refine s_iconst (v := 0) C dX9_crash_126 (by decide) ?_
  refine s_pV C ci12 33 (by decide) rfl (Or.inl wd_6_148) dX9_crash_127 rfl rfl ?_
  refine s_aload_n C 0 dX9_crash_130 rfl rfl ?_
  refine s_iconst (v := 0) C dX9_crash_131 (by decide) ?_
  refine s_pV C ci12 34 (by decide) rfl (Or.inl wd_6_149) dX9_crash_132 rfl rfl ?_
  refine s_aload_n C 0 dX9_crash_135 rfl rfl ?_
  refine s_iconst (v := (-1)) C dX9_crash_136 (by decide) ?_
  refine s_pV C ci12 35 (by decide) rfl (Or.inl wd_6_150) dX9_crash_137 rfl rfl ?_
  refine s_aload_n C 0 dX9_crash_140 rfl rfl ?_
  refine s_iconst (v := (-1)) C dX9_crash_141 (by decide) ?_
  refine s_pV C ci12 26 (by decide) rfl (Or.inl wd_6_141) dX9_crash_142 rfl rfl ?_
  refine s_iload_n C 1 dX9_crash_145 rfl rfl ?_
  exact s_iret C hr rfl dX9_crash_146
set_option maxRecDepth 20000 in
theorem X9_crash_b58b_s (C : Cx G p R s m args meth c cX9_crash 6 yX9_crash.cls h0 h') (hF : R.frames = 2) (hO : R.locals = 47) (hr : meth.sig.returnType = (some .int)) (hm : meth.name = yX9_crash.name)  {k58 : Nat → Int32 → Int32 → Int32 → M Int32} (hk58 : ∀ (a0 : Nat) (i2 : Int32) (i3 : Int32) (i4 : Int32), Sm G (QM G rvI below args s h0 r h') p l e R s m args below meth c 6 h0 r h' 58 [(0, .ref a0), (2, .int i2), (3, .int i3), (4, .int i4)] [] (k58 a0 i2 i3 i4)) (a0 : Nat) (i2 : Int32) (i3 : Int32) (i4 : Int32) : Sm G (QM G rvI below args s h0 r h') p l e R s m args below meth c 6 h0 r h' 58 [(0, .ref a0), (2, .int i2), (3, .int i3), (4, .int i4)] [] (X9_crash_b58b  k58 a0 i2 i3 i4) := by
  refine s_iload C 3 dX9_crash_58 rfl ?_
  refine s_if_lt (tgt := 115) C dX9_crash_60 (by decide) ?_ ?_
  · refine s_sub [0, 1] rfl ?_
    exact X9_crash_b115_s C hF hO hr hm   a0 i2
  refine s_iload_n C 2 dX9_crash_63 rfl rfl ?_
  refine s_if_le (tgt := 115) C dX9_crash_64 (by decide) ?_ ?_
  · refine s_sub [0, 1] rfl ?_
    exact X9_crash_b115_s C hF hO hr hm   a0 i2
  refine s_iload_n C 2 dX9_crash_67 rfl rfl ?_
  refine s_aload_n C 0 dX9_crash_68 rfl rfl ?_
  refine s_gR C ci12 11 (by decide) (Or.inl wd_6_126) dX9_crash_69 (fun y1 => ?_)
  refine s_iload C 3 dX9_crash_72 rfl ?_
  refine s_al22 C dX9_crash_74 (fun x2 => ?_)
  refine s_mmin C wd_7_165 wd_2_55 wd_1_14 wd_2_56 (by rw [hF]; decide) (by rw [hO]; exact Nat.le_of_ble_eq_true rfl) dX9_crash_75 ?_
  refine s_let (fun x3 => ?_)
  refine s_istore (lv' := [(5, .int x3), (0, .ref a0), (2, .int i2), (3, .int i3), (4, .int i4)]) C dX9_crash_78 (by decide) rfl ?_
  refine s_aload_n C 1 dX9_crash_80 rfl rfl ?_
  refine s_aload_n C 1 dX9_crash_81 rfl rfl ?_
  refine s_aload_n C 1 dX9_crash_82 rfl rfl ?_
  refine s_gR C ci12 9 (by decide) (Or.inl wd_6_124) dX9_crash_83 (fun y4 => ?_)
  refine s_iload C 4 dX9_crash_86 rfl ?_
  refine s_al22 C dX9_crash_88 (fun x5 => ?_)
  refine s_aload_n C 1 dX9_crash_89 rfl rfl ?_
  refine s_gR C ci12 10 (by decide) (Or.inl wd_6_125) dX9_crash_90 (fun y6 => ?_)
  refine s_iload C 4 dX9_crash_93 rfl ?_
  refine s_al22 C dX9_crash_95 (fun x7 => ?_)
  refine s_invV_i C ci12 cy_X9_fileAt (Or.inl wd_7_80) rfl wd_7_82 wp_36 (con_X9_fileAt l G a0 x5 x7) rfl rfl (Nat.le_of_ble_eq_true rfl) (by rw [hF]; decide) (by rw [hO]; exact Nat.le_of_ble_eq_true rfl) dX9_crash_96 (fun x8 => ?_)
  refine s_iload C 0 dX9_crash_99 rfl ?_
  refine s_invV_u C ci12 cy_X9_loses (Or.inl wd_7_166) rfl wd_7_168 wp_49 (con_X9_loses l G a0 x8 x3) rfl rfl (Nat.le_of_ble_eq_true rfl) (by rw [hF]; decide) (by rw [hO]; exact Nat.le_of_ble_eq_true rfl) dX9_crash_101 ?_
  refine s_iload_n C 3 dX9_crash_104 rfl rfl ?_
  refine s_iload C 0 dX9_crash_105 rfl ?_
  refine s_isub C dX9_crash_107 ?_
  refine s_let (fun x9 => ?_)
  refine s_istore_n (lv' := [(3, .int x9), (5, .int x3), (0, .ref a0), (2, .int i2), (4, .int i4)]) C dX9_crash_108 rfl (by decide) rfl ?_
  refine s_iincK (lv' := [(4, .int (i4 + (-1))), (3, .int x9), (5, .int x3), (0, .ref a0), (2, .int i2)]) (w := (-1)) C 4 dX9_crash_109 rfl (by decide) (by decide) rfl ?_
  refine s_goto (tgt := 58) C dX9_crash_112 (by decide) ?_
  refine s_sub [3, 4, 1, 0] rfl ?_
  exact hk58 a0 i2 x9 (i4 + (-1))
set_option maxRecDepth 20000 in
theorem X9_crash_b58_s (C : Cx G p R s m args meth c cX9_crash 6 yX9_crash.cls h0 h') (hF : R.frames = 2) (hO : R.locals = 47) (hr : meth.sig.returnType = (some .int)) (hm : meth.name = yX9_crash.name)  (n : Nat) : ∀ (a0 : Nat) (i2 : Int32) (i3 : Int32) (i4 : Int32), Sm G (QM G rvI below args s h0 r h') p l e R s m args below meth c 6 h0 r h' 58 [(0, .ref a0), (2, .int i2), (3, .int i3), (4, .int i4)] [] (X9_crash_b58  n a0 i2 i3 i4) := by
  induction n with
  | zero => intro a0 i2 i3 i4; exact s_fl
  | succ n ih => intro a0 i2 i3 i4; exact X9_crash_b58b_s C hF hO hr hm  ih a0 i2 i3 i4
set_option maxRecDepth 20000 in
theorem X9_crash_b29_s (C : Cx G p R s m args meth c cX9_crash 6 yX9_crash.cls h0 h') (hF : R.frames = 2) (hO : R.locals = 47) (hr : meth.sig.returnType = (some .int)) (hm : meth.name = yX9_crash.name)   (a0 : Nat) (i1 : Int32) (s0 : Int32) (s1 : Nat) : Sm G (QM G rvI below args s h0 r h') p l e R s m args below meth c 6 h0 r h' 29 [(0, .ref a0), (1, .int i1)] [.int s0, .ref s1] (X9_crash_b29   a0 i1 s0 s1) := by
  refine s_pV C ci12 0 (by decide) rfl (Or.inl wd_6_115) dX9_crash_29 rfl rfl ?_
  refine s_aload_n C 0 dX9_crash_32 rfl rfl ?_
  refine s_gI C ci12 0 (by decide) (Or.inl wd_6_115) dX9_crash_33 (fun x1 => ?_)
  refine s_if_le (tgt := 41) C dX9_crash_36 (by decide) ?_ ?_
  · refine s_aload_n C 0 dX9_crash_41 rfl rfl ?_
    refine s_invV_i C ci12 cy_X9_unsynced (Or.inl wd_7_157) rfl wd_7_159 wp_48 (con_X9_unsynced l G a0) rfl rfl (Nat.le_of_ble_eq_true rfl) (by rw [hF]; decide) (by rw [hO]; exact Nat.le_of_ble_eq_true rfl) dX9_crash_42 (fun x2 => ?_)
    refine s_iload_n C 1 dX9_crash_45 rfl rfl ?_
    refine s_isub C dX9_crash_46 ?_
    refine s_let (fun x3 => ?_)
    refine s_istore_n (lv' := [(2, .int x3), (0, .ref a0), (1, .int i1)]) C dX9_crash_47 rfl (by decide) rfl ?_
    refine s_iload_n C 0 dX9_crash_48 rfl rfl ?_
    refine s_istore_n (lv' := [(3, .int x3), (2, .int x3), (0, .ref a0), (1, .int i1)]) C dX9_crash_49 rfl (by decide) rfl ?_
    refine s_aload_n C 2 dX9_crash_50 rfl rfl ?_
    refine s_gI C ci12 12 (by decide) (Or.inl wd_6_127) dX9_crash_51 (fun x4 => ?_)
    refine s_iconst (v := 1) C dX9_crash_54 (by decide) ?_
    refine s_isub C dX9_crash_55 ?_
    refine s_let (fun x5 => ?_)
    refine s_istore (lv' := [(4, .int x5), (3, .int x3), (2, .int x3), (0, .ref a0), (1, .int i1)]) C dX9_crash_56 (by decide) rfl ?_
    refine s_sub [3, 2, 1, 0] rfl ?_
    exact X9_crash_b58_s C hF hO hr hm  FU a0 x3 x3 x5
  refine s_iconst (v := 0) C dX9_crash_39 (by decide) ?_
  exact s_iret C hr rfl dX9_crash_40
set_option maxRecDepth 20000 in
theorem X9_crash_b24_s (C : Cx G p R s m args meth c cX9_crash 6 yX9_crash.cls h0 h') (hF : R.frames = 2) (hO : R.locals = 47) (hr : meth.sig.returnType = (some .int)) (hm : meth.name = yX9_crash.name)   (a0 : Nat) (i1 : Int32) (s0 : Nat) : Sm G (QM G rvI below args s h0 r h') p l e R s m args below meth c 6 h0 r h' 24 [(0, .ref a0), (1, .int i1)] [.ref s0] (X9_crash_b24   a0 i1 s0) := by
  refine s_iconst (v := 2) C dX9_crash_24 (by decide) ?_
  refine s_goto (tgt := 29) C dX9_crash_25 (by decide) ?_
  exact X9_crash_b29_s C hF hO hr hm   a0 i1 2 s0
end
set_option maxRecDepth 20000 in
theorem con_X9_crash (l : Launch) (G : Gx) (a0 : Nat) (i1 : Int32) : Con G rvI l yX9_crash cX9_crash 6 (some .int) 2 47 [.ref a0, .int i1] (X9_crash a0 i1) := by
  refine con_of (lv := [(0, .ref a0), (1, .int i1)]) (by decide) (Nat.le_of_ble_eq_true rfl) rfl (fun p e R s m args below meth c h0 r h' C hF hO hr hm => ?_)
  refine s_aload_n C 0 dX9_crash_0 rfl rfl ?_
  refine s_aload_n C 0 dX9_crash_1 rfl rfl ?_
  refine s_gI C ci12 23 (by decide) (Or.inl wd_6_138) dX9_crash_2 (fun x1 => ?_)
  refine s_if_ne (tgt := 12) C dX9_crash_5 (by decide) ?_ ?_
  · refine s_iload_n C 1 dX9_crash_12 rfl rfl ?_
    refine s_if_lt (tgt := 24) C dX9_crash_13 (by decide) ?_ ?_
    · exact X9_crash_b24_s C hF hO hr hm   a0 i1 a0
    refine s_iload_n C 1 dX9_crash_16 rfl rfl ?_
    refine s_aload_n C 0 dX9_crash_17 rfl rfl ?_
    refine s_invV_i C ci12 cy_X9_unsynced (Or.inl wd_7_157) rfl wd_7_159 wp_48 (con_X9_unsynced l G a0) rfl rfl (Nat.le_of_ble_eq_true rfl) (by rw [hF]; decide) (by rw [hO]; exact Nat.le_of_ble_eq_true rfl) dX9_crash_18 (fun x2 => ?_)
    refine s_icmp_le (tgt := 28) C dX9_crash_21 (by decide) ?_ ?_
    · refine s_iconst (v := 0) C dX9_crash_28 (by decide) ?_
      exact X9_crash_b29_s C hF hO hr hm   a0 i1 0 a0
    exact X9_crash_b24_s C hF hO hr hm   a0 i1 a0
  refine s_iconst (v := 1) C dX9_crash_8 (by decide) ?_
  refine s_goto (tgt := 29) C dX9_crash_9 (by decide) ?_
  exact X9_crash_b29_s C hF hO hr hm   a0 i1 1 a0

theorem dX9_counts_0 : decode cX9_counts 0 = .ok (.aload_n 0, 1) := by decide +kernel
theorem dX9_counts_1 : decode cX9_counts 1 = .ok (.aload_n 1, 1) := by decide +kernel
theorem dX9_counts_2 : decode cX9_counts 2 = .ok (.iload_n 2, 1) := by decide +kernel
theorem dX9_counts_3 : decode cX9_counts 3 = .ok (.iload_n 3, 1) := by decide +kernel
theorem dX9_counts_4 : decode cX9_counts 4 = .ok (.invokevirtual 174, 3) := by decide +kernel
theorem dX9_counts_7 : decode cX9_counts 7 = .ok (.istore 8, 2) := by decide +kernel
theorem dX9_counts_9 : decode cX9_counts 9 = .ok (.aload_n 0, 1) := by decide +kernel
theorem dX9_counts_10 : decode cX9_counts 10 = .ok (.iload 8, 2) := by decide +kernel
theorem dX9_counts_12 : decode cX9_counts 12 = .ok (.aload_n 1, 1) := by decide +kernel
theorem dX9_counts_13 : decode cX9_counts 13 = .ok (.iload_n 2, 1) := by decide +kernel
theorem dX9_counts_14 : decode cX9_counts 14 = .ok (.iload_n 3, 1) := by decide +kernel
theorem dX9_counts_15 : decode cX9_counts 15 = .ok (.invokevirtual 178, 3) := by decide +kernel
theorem dX9_counts_18 : decode cX9_counts 18 = .ok (.ifCond .eq 16, 3) := by decide +kernel
theorem dX9_counts_21 : decode cX9_counts 21 = .ok (.aload_n 0, 1) := by decide +kernel
theorem dX9_counts_22 : decode cX9_counts 22 = .ok (.getfield 56, 3) := by decide +kernel
theorem dX9_counts_25 : decode cX9_counts 25 = .ok (.iload 8, 2) := by decide +kernel
theorem dX9_counts_27 : decode cX9_counts 27 = .ok (.iaload, 1) := by decide +kernel
theorem dX9_counts_28 : decode cX9_counts 28 = .ok (.iload 7, 2) := by decide +kernel
theorem dX9_counts_30 : decode cX9_counts 30 = .ok (.if_icmp .le 4, 3) := by decide +kernel
theorem dX9_counts_33 : decode cX9_counts 33 = .ok (.return_, 1) := by decide +kernel
theorem dX9_counts_34 : decode cX9_counts 34 = .ok (.aload_n 0, 1) := by decide +kernel
theorem dX9_counts_35 : decode cX9_counts 35 = .ok (.aload_n 1, 1) := by decide +kernel
theorem dX9_counts_36 : decode cX9_counts 36 = .ok (.iload_n 2, 1) := by decide +kernel
theorem dX9_counts_37 : decode cX9_counts 37 = .ok (.iload_n 3, 1) := by decide +kernel
theorem dX9_counts_38 : decode cX9_counts 38 = .ok (.iload 4, 2) := by decide +kernel
theorem dX9_counts_40 : decode cX9_counts 40 = .ok (.iload 5, 2) := by decide +kernel
theorem dX9_counts_42 : decode cX9_counts 42 = .ok (.iload 6, 2) := by decide +kernel
theorem dX9_counts_44 : decode cX9_counts 44 = .ok (.iload 7, 2) := by decide +kernel
theorem dX9_counts_46 : decode cX9_counts 46 = .ok (.invokevirtual 229, 3) := by decide +kernel
theorem dX9_counts_49 : decode cX9_counts 49 = .ok (.return_, 1) := by decide +kernel
def X9_counts_b34   (a0 : Nat) (a1 : Nat) (i2 : Int32) (i3 : Int32) (i4 : Int32) (i5 : Int32) (i6 : Int32) (i7 : Int32) : M Unit := bd (ck 12 a0) (fun _ => bd (X9_told a0 a1 i2 i3 i4 i5 i6 i7) (fun _ => pu ()))
def X9_counts (a0 : Nat) (a1 : Nat) (i2 : Int32) (i3 : Int32) (i4 : Int32) (i5 : Int32) (i6 : Int32) (i7 : Int32) : M Unit := bd (ck 12 a0) (fun _ => bd (X9_placeOf a0 a1 i2 i3) (fun x1 => bd (ck 12 a0) (fun _ => bd (X9_isAt a0 x1 a1 i2 i3) (fun x2 => it (x2 = 0) (X9_counts_b34   a0 a1 i2 i3 i4 i5 i6 i7) (bd (gR 12 32 a0) (fun y3 => bd (al 22 y3 x1) (fun x4 => it (x4 ≤ i7) (X9_counts_b34   a0 a1 i2 i3 i4 i5 i6 i7) (pu ()))))))))
section
variable {G : Gx} {p : Program} {l : Launch} {e : Env} {R : Room} {s : State} {m : MethodId} {args : Array Value} {below : List Frame} {meth : Method} {c : Code} {h0 : Hp} {r : Unit} {h' : Hp}
set_option maxRecDepth 20000 in
theorem X9_counts_b34_s (C : Cx G p R s m args meth c cX9_counts 9 yX9_counts.cls h0 h') (hF : R.frames = 3) (hO : R.locals = 80) (hr : meth.sig.returnType = none) (hm : meth.name = yX9_counts.name)   (a0 : Nat) (a1 : Nat) (i2 : Int32) (i3 : Int32) (i4 : Int32) (i5 : Int32) (i6 : Int32) (i7 : Int32) : Sm G (QM G rvU below args s h0 r h') p l e R s m args below meth c 9 h0 r h' 34 [(0, .ref a0), (1, .ref a1), (2, .int i2), (3, .int i3), (4, .int i4), (5, .int i5), (6, .int i6), (7, .int i7)] [] (X9_counts_b34   a0 a1 i2 i3 i4 i5 i6 i7) := by
  refine s_aload_n C 0 dX9_counts_34 rfl rfl ?_
  refine s_aload_n C 1 dX9_counts_35 rfl rfl ?_
  refine s_iload_n C 2 dX9_counts_36 rfl rfl ?_
  refine s_iload_n C 3 dX9_counts_37 rfl rfl ?_
  refine s_iload C 4 dX9_counts_38 rfl ?_
  refine s_iload C 5 dX9_counts_40 rfl ?_
  refine s_iload C 6 dX9_counts_42 rfl ?_
  refine s_iload C 7 dX9_counts_44 rfl ?_
  refine s_invV_u C ci12 cy_X9_told (Or.inl wd_7_100) rfl wd_7_102 wp_40 (con_X9_told l G a0 a1 i2 i3 i4 i5 i6 i7) rfl rfl (Nat.le_of_ble_eq_true rfl) (by rw [hF]; decide) (by rw [hO]; exact Nat.le_of_ble_eq_true rfl) dX9_counts_46 ?_
  exact s_vret C hr rfl dX9_counts_49
end
set_option maxRecDepth 20000 in
theorem con_X9_counts (l : Launch) (G : Gx) (a0 : Nat) (a1 : Nat) (i2 : Int32) (i3 : Int32) (i4 : Int32) (i5 : Int32) (i6 : Int32) (i7 : Int32) : Con G rvU l yX9_counts cX9_counts 9 none 3 80 [.ref a0, .ref a1, .int i2, .int i3, .int i4, .int i5, .int i6, .int i7] (X9_counts a0 a1 i2 i3 i4 i5 i6 i7) := by
  refine con_of (lv := [(0, .ref a0), (1, .ref a1), (2, .int i2), (3, .int i3), (4, .int i4), (5, .int i5), (6, .int i6), (7, .int i7)]) (by decide) (Nat.le_of_ble_eq_true rfl) rfl (fun p e R s m args below meth c h0 r h' C hF hO hr hm => ?_)
  refine s_aload_n C 0 dX9_counts_0 rfl rfl ?_
  refine s_aload_n C 1 dX9_counts_1 rfl rfl ?_
  refine s_iload_n C 2 dX9_counts_2 rfl rfl ?_
  refine s_iload_n C 3 dX9_counts_3 rfl rfl ?_
  refine s_invV_i C ci12 cy_X9_placeOf (Or.inl wd_7_104) rfl wd_7_106 wp_41 (con_X9_placeOf l G a0 a1 i2 i3) rfl rfl (Nat.le_of_ble_eq_true rfl) (by rw [hF]; decide) (by rw [hO]; exact Nat.le_of_ble_eq_true rfl) dX9_counts_4 (fun x1 => ?_)
  refine s_istore (lv' := [(8, .int x1), (0, .ref a0), (1, .ref a1), (2, .int i2), (3, .int i3), (4, .int i4), (5, .int i5), (6, .int i6), (7, .int i7)]) C dX9_counts_7 (by decide) rfl ?_
  refine s_aload_n C 1 dX9_counts_9 rfl rfl ?_
  refine s_iload C 0 dX9_counts_10 rfl ?_
  refine s_aload_n C 2 dX9_counts_12 rfl rfl ?_
  refine s_iload_n C 3 dX9_counts_13 rfl rfl ?_
  refine s_iload_n C 4 dX9_counts_14 rfl rfl ?_
  refine s_invV_i C ci12 cy_X9_isAt (Or.inl wd_7_111) rfl wd_7_113 wp_42 (con_X9_isAt l G a0 x1 a1 i2 i3) rfl rfl (Nat.le_of_ble_eq_true rfl) (by rw [hF]; decide) (by rw [hO]; exact Nat.le_of_ble_eq_true rfl) dX9_counts_15 (fun x2 => ?_)
  refine s_if_eq (tgt := 34) C dX9_counts_18 (by decide) ?_ ?_
  · refine s_sub [1, 2, 3, 4, 5, 6, 7, 8] rfl ?_
    exact X9_counts_b34_s C hF hO hr hm   a0 a1 i2 i3 i4 i5 i6 i7
  refine s_aload_n C 1 dX9_counts_21 rfl rfl ?_
  refine s_gR C ci12 32 (by decide) (Or.inl wd_6_147) dX9_counts_22 (fun y3 => ?_)
  refine s_iload C 0 dX9_counts_25 rfl ?_
  refine s_al22 C dX9_counts_27 (fun x4 => ?_)
  refine s_iload C 8 dX9_counts_28 rfl ?_
  refine s_icmp_le (tgt := 34) C dX9_counts_30 (by decide) ?_ ?_
  · refine s_sub [1, 2, 3, 4, 5, 6, 7, 8] rfl ?_
    exact X9_counts_b34_s C hF hO hr hm   a0 a1 i2 i3 i4 i5 i6 i7
  exact s_vret C hr rfl dX9_counts_33

theorem dX9_isGoodMark_0 : decode cX9_isGoodMark 0 = .ok (.aload_n 0, 1) := by decide +kernel
theorem dX9_isGoodMark_1 : decode cX9_isGoodMark 1 = .ok (.iload_n 1, 1) := by decide +kernel
theorem dX9_isGoodMark_2 : decode cX9_isGoodMark 2 = .ok (.invokevirtual 153, 3) := by decide +kernel
theorem dX9_isGoodMark_5 : decode cX9_isGoodMark 5 = .ok (.istore_n 2, 1) := by decide +kernel
theorem dX9_isGoodMark_6 : decode cX9_isGoodMark 6 = .ok (.aload_n 0, 1) := by decide +kernel
theorem dX9_isGoodMark_7 : decode cX9_isGoodMark 7 = .ok (.getfield 20, 3) := by decide +kernel
theorem dX9_isGoodMark_10 : decode cX9_isGoodMark 10 = .ok (.iload_n 1, 1) := by decide +kernel
theorem dX9_isGoodMark_11 : decode cX9_isGoodMark 11 = .ok (.iaload, 1) := by decide +kernel
theorem dX9_isGoodMark_12 : decode cX9_isGoodMark 12 = .ok (.istore_n 3, 1) := by decide +kernel
theorem dX9_isGoodMark_13 : decode cX9_isGoodMark 13 = .ok (.iload_n 3, 1) := by decide +kernel
theorem dX9_isGoodMark_14 : decode cX9_isGoodMark 14 = .ok (.bipush 8, 2) := by decide +kernel
theorem dX9_isGoodMark_16 : decode cX9_isGoodMark 16 = .ok (.if_icmp .lt 58, 3) := by decide +kernel
theorem dX9_isGoodMark_19 : decode cX9_isGoodMark 19 = .ok (.ldc2_w 253, 3) := by decide +kernel
theorem dX9_isGoodMark_22 : decode cX9_isGoodMark 22 = .ok (.aload_n 0, 1) := by decide +kernel
theorem dX9_isGoodMark_23 : decode cX9_isGoodMark 23 = .ok (.getfield 9, 3) := by decide +kernel
theorem dX9_isGoodMark_26 : decode cX9_isGoodMark 26 = .ok (.iload_n 2, 1) := by decide +kernel
theorem dX9_isGoodMark_27 : decode cX9_isGoodMark 27 = .ok (.invokestatic 197, 3) := by decide +kernel
theorem dX9_isGoodMark_30 : decode cX9_isGoodMark 30 = .ok (.i2l, 1) := by decide +kernel
theorem dX9_isGoodMark_31 : decode cX9_isGoodMark 31 = .ok (.lmul, 1) := by decide +kernel
theorem dX9_isGoodMark_32 : decode cX9_isGoodMark 32 = .ok (.ldc2_w 255, 3) := by decide +kernel
theorem dX9_isGoodMark_35 : decode cX9_isGoodMark 35 = .ok (.ladd, 1) := by decide +kernel
theorem dX9_isGoodMark_36 : decode cX9_isGoodMark 36 = .ok (.iload_n 3, 1) := by decide +kernel
theorem dX9_isGoodMark_37 : decode cX9_isGoodMark 37 = .ok (.i2l, 1) := by decide +kernel
theorem dX9_isGoodMark_38 : decode cX9_isGoodMark 38 = .ok (.lcmp, 1) := by decide +kernel
theorem dX9_isGoodMark_39 : decode cX9_isGoodMark 39 = .ok (.ifCond .ne 35, 3) := by decide +kernel
theorem dX9_isGoodMark_42 : decode cX9_isGoodMark 42 = .ok (.aload_n 0, 1) := by decide +kernel
theorem dX9_isGoodMark_43 : decode cX9_isGoodMark 43 = .ok (.getfield 9, 3) := by decide +kernel
theorem dX9_isGoodMark_46 : decode cX9_isGoodMark 46 = .ok (.iload_n 2, 1) := by decide +kernel
theorem dX9_isGoodMark_47 : decode cX9_isGoodMark 47 = .ok (.iload_n 3, 1) := by decide +kernel
theorem dX9_isGoodMark_48 : decode cX9_isGoodMark 48 = .ok (.iadd, 1) := by decide +kernel
theorem dX9_isGoodMark_49 : decode cX9_isGoodMark 49 = .ok (.iconst 4, 1) := by decide +kernel
theorem dX9_isGoodMark_50 : decode cX9_isGoodMark 50 = .ok (.isub, 1) := by decide +kernel
theorem dX9_isGoodMark_51 : decode cX9_isGoodMark 51 = .ok (.invokestatic 197, 3) := by decide +kernel
theorem dX9_isGoodMark_54 : decode cX9_isGoodMark 54 = .ok (.aload_n 0, 1) := by decide +kernel
theorem dX9_isGoodMark_55 : decode cX9_isGoodMark 55 = .ok (.getfield 9, 3) := by decide +kernel
theorem dX9_isGoodMark_58 : decode cX9_isGoodMark 58 = .ok (.iload_n 2, 1) := by decide +kernel
theorem dX9_isGoodMark_59 : decode cX9_isGoodMark 59 = .ok (.iload_n 2, 1) := by decide +kernel
theorem dX9_isGoodMark_60 : decode cX9_isGoodMark 60 = .ok (.iload_n 3, 1) := by decide +kernel
theorem dX9_isGoodMark_61 : decode cX9_isGoodMark 61 = .ok (.iadd, 1) := by decide +kernel
theorem dX9_isGoodMark_62 : decode cX9_isGoodMark 62 = .ok (.iconst 4, 1) := by decide +kernel
theorem dX9_isGoodMark_63 : decode cX9_isGoodMark 63 = .ok (.isub, 1) := by decide +kernel
theorem dX9_isGoodMark_64 : decode cX9_isGoodMark 64 = .ok (.invokestatic 194, 3) := by decide +kernel
theorem dX9_isGoodMark_67 : decode cX9_isGoodMark 67 = .ok (.if_icmp .ne 7, 3) := by decide +kernel
theorem dX9_isGoodMark_70 : decode cX9_isGoodMark 70 = .ok (.iconst 1, 1) := by decide +kernel
theorem dX9_isGoodMark_71 : decode cX9_isGoodMark 71 = .ok (.goto 4, 3) := by decide +kernel
theorem dX9_isGoodMark_74 : decode cX9_isGoodMark 74 = .ok (.iconst 0, 1) := by decide +kernel
theorem dX9_isGoodMark_75 : decode cX9_isGoodMark 75 = .ok (.ireturn, 1) := by decide +kernel
def X9_isGoodMark (a0 : Nat) (i1 : Int32) : M Int32 := bd (ck 12 a0) (fun _ => bd (X9_startOf a0 i1) (fun x1 => bd (gR 12 7 a0) (fun y2 => bd (al 22 y2 i1) (fun x3 => it (x3 < 8) (pu 0) (bd (gR 12 3 a0) (fun y4 => bd (X9_number4 y4 x1) (fun x5 => it (¬ (lg_cmp ((4 * ((x5 : Int32).toInt64)) + 8) ((x3 : Int32).toInt64)) = 0) (pu 0) (bd (gR 12 3 a0) (fun y6 => bd (X9_number4 y6 ((x1 + x3) - 4)) (fun x7 => bd (gR 12 3 a0) (fun y8 => bd (X9_sum y8 x1 ((x1 + x3) - 4)) (fun x9 => it (¬ x7 = x9) (pu 0) (pu 1)))))))))))))
section
variable {G : Gx} {p : Program} {l : Launch} {e : Env} {R : Room} {s : State} {m : MethodId} {args : Array Value} {below : List Frame} {meth : Method} {c : Code} {h0 : Hp} {r : Int32} {h' : Hp}
end
set_option maxRecDepth 20000 in
theorem con_X9_isGoodMark (l : Launch) (G : Gx) (a0 : Nat) (i1 : Int32) : Con G rvI l yX9_isGoodMark cX9_isGoodMark 4 (some .boolean) 1 25 [.ref a0, .int i1] (X9_isGoodMark a0 i1) := by
  refine con_of (lv := [(0, .ref a0), (1, .int i1)]) (by decide) (Nat.le_of_ble_eq_true rfl) rfl (fun p e R s m args below meth c h0 r h' C hF hO hr hm => ?_)
  refine s_aload_n C 0 dX9_isGoodMark_0 rfl rfl ?_
  refine s_iload_n C 1 dX9_isGoodMark_1 rfl rfl ?_
  refine s_invV_i C ci12 cy_X9_startOf (Or.inl wd_7_96) rfl wd_7_98 wp_39 (con_X9_startOf l G a0 i1) rfl rfl (Nat.le_of_ble_eq_true rfl) (by rw [hF]; decide) (by rw [hO]; exact Nat.le_of_ble_eq_true rfl) dX9_isGoodMark_2 (fun x1 => ?_)
  refine s_istore_n (lv' := [(2, .int x1), (0, .ref a0), (1, .int i1)]) C dX9_isGoodMark_5 rfl (by decide) rfl ?_
  refine s_aload_n C 1 dX9_isGoodMark_6 rfl rfl ?_
  refine s_gR C ci12 7 (by decide) (Or.inl wd_6_122) dX9_isGoodMark_7 (fun y2 => ?_)
  refine s_iload_n C 2 dX9_isGoodMark_10 rfl rfl ?_
  refine s_al22 C dX9_isGoodMark_11 (fun x3 => ?_)
  refine s_istore_n (lv' := [(3, .int x3), (2, .int x1), (0, .ref a0), (1, .int i1)]) C dX9_isGoodMark_12 rfl (by decide) rfl ?_
  refine s_iload_n C 0 dX9_isGoodMark_13 rfl rfl ?_
  refine s_bipush (v := 8) C dX9_isGoodMark_14 (by decide) ?_
  refine s_icmp_lt (tgt := 74) C dX9_isGoodMark_16 (by decide) ?_ ?_
  · refine s_iconst (v := 0) C dX9_isGoodMark_74 (by decide) ?_
    exact s_zret C hr rfl (Or.inl rfl) dX9_isGoodMark_75
  refine s_ldc2 C dX9_isGoodMark_19 wd_7_182 ?_
  refine s_aload_n C 2 dX9_isGoodMark_22 rfl rfl ?_
  refine s_gR C ci12 3 (by decide) (Or.inl wd_6_118) dX9_isGoodMark_23 (fun y4 => ?_)
  refine s_iload_n C 1 dX9_isGoodMark_26 rfl rfl ?_
  refine s_invS_i C cy_X9_number4 (Or.inl wd_7_143) wd_7_144 (con_X9_number4 l G y4 x1) rfl rfl (Nat.le_of_ble_eq_true rfl) (by rw [hF]; decide) (by rw [hO]; exact Nat.le_of_ble_eq_true rfl) dX9_isGoodMark_27 (fun x5 => ?_)
  refine s_i2l C dX9_isGoodMark_30 ?_
  refine s_lmul C dX9_isGoodMark_31 ?_
  refine s_ldc2 C dX9_isGoodMark_32 wd_7_183 ?_
  refine s_ladd C dX9_isGoodMark_35 ?_
  refine s_iload_n C 0 dX9_isGoodMark_36 rfl rfl ?_
  refine s_i2l C dX9_isGoodMark_37 ?_
  refine s_lcmp C dX9_isGoodMark_38 ?_
  refine s_if_ne (tgt := 74) C dX9_isGoodMark_39 (by decide) ?_ ?_
  · refine s_iconst (v := 0) C dX9_isGoodMark_74 (by decide) ?_
    exact s_zret C hr rfl (Or.inl rfl) dX9_isGoodMark_75
  refine s_aload_n C 2 dX9_isGoodMark_42 rfl rfl ?_
  refine s_gR C ci12 3 (by decide) (Or.inl wd_6_118) dX9_isGoodMark_43 (fun y6 => ?_)
  refine s_iload_n C 1 dX9_isGoodMark_46 rfl rfl ?_
  refine s_iload_n C 0 dX9_isGoodMark_47 rfl rfl ?_
  refine s_iadd C dX9_isGoodMark_48 ?_
  refine s_iconst (v := 4) C dX9_isGoodMark_49 (by decide) ?_
  refine s_isub C dX9_isGoodMark_50 ?_
  refine s_invS_i C cy_X9_number4 (Or.inl wd_7_143) wd_7_144 (con_X9_number4 l G y6 ((x1 + x3) - 4)) rfl rfl (Nat.le_of_ble_eq_true rfl) (by rw [hF]; decide) (by rw [hO]; exact Nat.le_of_ble_eq_true rfl) dX9_isGoodMark_51 (fun x7 => ?_)
  refine s_aload_n C 2 dX9_isGoodMark_54 rfl rfl ?_
  refine s_gR C ci12 3 (by decide) (Or.inl wd_6_118) dX9_isGoodMark_55 (fun y8 => ?_)
  refine s_iload_n C 1 dX9_isGoodMark_58 rfl rfl ?_
  refine s_iload_n C 1 dX9_isGoodMark_59 rfl rfl ?_
  refine s_iload_n C 0 dX9_isGoodMark_60 rfl rfl ?_
  refine s_iadd C dX9_isGoodMark_61 ?_
  refine s_iconst (v := 4) C dX9_isGoodMark_62 (by decide) ?_
  refine s_isub C dX9_isGoodMark_63 ?_
  refine s_invS_i C cy_X9_sum (Or.inl wd_7_88) wd_7_89 (con_X9_sum l G y8 x1 ((x1 + x3) - 4)) rfl rfl (Nat.le_of_ble_eq_true rfl) (by rw [hF]; decide) (by rw [hO]; exact Nat.le_of_ble_eq_true rfl) dX9_isGoodMark_64 (fun x9 => ?_)
  refine s_icmp_ne (tgt := 74) C dX9_isGoodMark_67 (by decide) ?_ ?_
  · refine s_iconst (v := 0) C dX9_isGoodMark_74 (by decide) ?_
    exact s_zret C hr rfl (Or.inl rfl) dX9_isGoodMark_75
  refine s_iconst (v := 1) C dX9_isGoodMark_70 (by decide) ?_
  refine s_goto (tgt := 75) C dX9_isGoodMark_71 (by decide) ?_
  exact s_zret C hr rfl (Or.inr rfl) dX9_isGoodMark_75

theorem dX9_marks_0 : decode cX9_marks 0 = .ok (.iconst 0, 1) := by decide +kernel
theorem dX9_marks_1 : decode cX9_marks 1 = .ok (.istore_n 1, 1) := by decide +kernel
theorem dX9_marks_2 : decode cX9_marks 2 = .ok (.iload_n 1, 1) := by decide +kernel
theorem dX9_marks_3 : decode cX9_marks 3 = .ok (.aload_n 0, 1) := by decide +kernel
theorem dX9_marks_4 : decode cX9_marks 4 = .ok (.getfield 106, 3) := by decide +kernel
theorem dX9_marks_7 : decode cX9_marks 7 = .ok (.if_icmp .ge 141, 3) := by decide +kernel
theorem dX9_marks_10 : decode cX9_marks 10 = .ok (.aload_n 0, 1) := by decide +kernel
theorem dX9_marks_11 : decode cX9_marks 11 = .ok (.getfield 17, 3) := by decide +kernel
theorem dX9_marks_14 : decode cX9_marks 14 = .ok (.iload_n 1, 1) := by decide +kernel
theorem dX9_marks_15 : decode cX9_marks 15 = .ok (.iaload, 1) := by decide +kernel
theorem dX9_marks_16 : decode cX9_marks 16 = .ok (.iconst 2, 1) := by decide +kernel
theorem dX9_marks_17 : decode cX9_marks 17 = .ok (.if_icmp .eq 9, 3) := by decide +kernel
theorem dX9_marks_20 : decode cX9_marks 20 = .ok (.iinc 1 1, 3) := by decide +kernel
theorem dX9_marks_23 : decode cX9_marks 23 = .ok (.goto (-21), 3) := by decide +kernel
theorem dX9_marks_26 : decode cX9_marks 26 = .ok (.aload_n 0, 1) := by decide +kernel
theorem dX9_marks_27 : decode cX9_marks 27 = .ok (.getfield 13, 3) := by decide +kernel
theorem dX9_marks_30 : decode cX9_marks 30 = .ok (.iload_n 1, 1) := by decide +kernel
theorem dX9_marks_31 : decode cX9_marks 31 = .ok (.iaload, 1) := by decide +kernel
theorem dX9_marks_32 : decode cX9_marks 32 = .ok (.istore_n 2, 1) := by decide +kernel
theorem dX9_marks_33 : decode cX9_marks 33 = .ok (.iconst 0, 1) := by decide +kernel
theorem dX9_marks_34 : decode cX9_marks 34 = .ok (.istore_n 3, 1) := by decide +kernel
theorem dX9_marks_35 : decode cX9_marks 35 = .ok (.aload_n 0, 1) := by decide +kernel
theorem dX9_marks_36 : decode cX9_marks 36 = .ok (.iload_n 1, 1) := by decide +kernel
theorem dX9_marks_37 : decode cX9_marks 37 = .ok (.invokevirtual 257, 3) := by decide +kernel
theorem dX9_marks_40 : decode cX9_marks 40 = .ok (.ifCond .eq 58, 3) := by decide +kernel
theorem dX9_marks_43 : decode cX9_marks 43 = .ok (.aload_n 0, 1) := by decide +kernel
theorem dX9_marks_44 : decode cX9_marks 44 = .ok (.iload_n 1, 1) := by decide +kernel
theorem dX9_marks_45 : decode cX9_marks 45 = .ok (.invokevirtual 153, 3) := by decide +kernel
theorem dX9_marks_48 : decode cX9_marks 48 = .ok (.istore 4, 2) := by decide +kernel
theorem dX9_marks_50 : decode cX9_marks 50 = .ok (.aload_n 0, 1) := by decide +kernel
theorem dX9_marks_51 : decode cX9_marks 51 = .ok (.getfield 9, 3) := by decide +kernel
theorem dX9_marks_54 : decode cX9_marks 54 = .ok (.iload 4, 2) := by decide +kernel
theorem dX9_marks_56 : decode cX9_marks 56 = .ok (.invokestatic 197, 3) := by decide +kernel
theorem dX9_marks_59 : decode cX9_marks 59 = .ok (.istore_n 3, 1) := by decide +kernel
theorem dX9_marks_60 : decode cX9_marks 60 = .ok (.iconst 0, 1) := by decide +kernel
theorem dX9_marks_61 : decode cX9_marks 61 = .ok (.istore 5, 2) := by decide +kernel
theorem dX9_marks_63 : decode cX9_marks 63 = .ok (.iload 5, 2) := by decide +kernel
theorem dX9_marks_65 : decode cX9_marks 65 = .ok (.iload_n 3, 1) := by decide +kernel
theorem dX9_marks_66 : decode cX9_marks 66 = .ok (.if_icmp .ge 32, 3) := by decide +kernel
theorem dX9_marks_69 : decode cX9_marks 69 = .ok (.aload_n 0, 1) := by decide +kernel
theorem dX9_marks_70 : decode cX9_marks 70 = .ok (.getfield 71, 3) := by decide +kernel
theorem dX9_marks_73 : decode cX9_marks 73 = .ok (.iload 5, 2) := by decide +kernel
theorem dX9_marks_75 : decode cX9_marks 75 = .ok (.aload_n 0, 1) := by decide +kernel
theorem dX9_marks_76 : decode cX9_marks 76 = .ok (.getfield 9, 3) := by decide +kernel
theorem dX9_marks_79 : decode cX9_marks 79 = .ok (.iload 4, 2) := by decide +kernel
theorem dX9_marks_81 : decode cX9_marks 81 = .ok (.iconst 4, 1) := by decide +kernel
theorem dX9_marks_82 : decode cX9_marks 82 = .ok (.iadd, 1) := by decide +kernel
theorem dX9_marks_83 : decode cX9_marks 83 = .ok (.iconst 4, 1) := by decide +kernel
theorem dX9_marks_84 : decode cX9_marks 84 = .ok (.iload 5, 2) := by decide +kernel
theorem dX9_marks_86 : decode cX9_marks 86 = .ok (.imul, 1) := by decide +kernel
theorem dX9_marks_87 : decode cX9_marks 87 = .ok (.iadd, 1) := by decide +kernel
theorem dX9_marks_88 : decode cX9_marks 88 = .ok (.invokestatic 197, 3) := by decide +kernel
theorem dX9_marks_91 : decode cX9_marks 91 = .ok (.iastore, 1) := by decide +kernel
theorem dX9_marks_92 : decode cX9_marks 92 = .ok (.iinc 5 1, 3) := by decide +kernel
theorem dX9_marks_95 : decode cX9_marks 95 = .ok (.goto (-32), 3) := by decide +kernel
theorem dX9_marks_98 : decode cX9_marks 98 = .ok (.iconst 0, 1) := by decide +kernel
theorem dX9_marks_99 : decode cX9_marks 99 = .ok (.istore 4, 2) := by decide +kernel
theorem dX9_marks_101 : decode cX9_marks 101 = .ok (.iload 4, 2) := by decide +kernel
theorem dX9_marks_103 : decode cX9_marks 103 = .ok (.iload_n 3, 1) := by decide +kernel
theorem dX9_marks_104 : decode cX9_marks 104 = .ok (.if_icmp .ge 33, 3) := by decide +kernel
theorem dX9_marks_107 : decode cX9_marks 107 = .ok (.aload_n 0, 1) := by decide +kernel
theorem dX9_marks_108 : decode cX9_marks 108 = .ok (.aload_n 0, 1) := by decide +kernel
theorem dX9_marks_109 : decode cX9_marks 109 = .ok (.getfield 71, 3) := by decide +kernel
theorem dX9_marks_112 : decode cX9_marks 112 = .ok (.iload 4, 2) := by decide +kernel
theorem dX9_marks_114 : decode cX9_marks 114 = .ok (.iaload, 1) := by decide +kernel
theorem dX9_marks_115 : decode cX9_marks 115 = .ok (.iconst 0, 1) := by decide +kernel
theorem dX9_marks_116 : decode cX9_marks 116 = .ok (.invokevirtual 260, 3) := by decide +kernel
theorem dX9_marks_119 : decode cX9_marks 119 = .ok (.aload_n 0, 1) := by decide +kernel
theorem dX9_marks_120 : decode cX9_marks 120 = .ok (.aload_n 0, 1) := by decide +kernel
theorem dX9_marks_121 : decode cX9_marks 121 = .ok (.getfield 71, 3) := by decide +kernel
theorem dX9_marks_124 : decode cX9_marks 124 = .ok (.iload 4, 2) := by decide +kernel
theorem dX9_marks_126 : decode cX9_marks 126 = .ok (.iaload, 1) := by decide +kernel
theorem dX9_marks_127 : decode cX9_marks 127 = .ok (.iconst 1, 1) := by decide +kernel
theorem dX9_marks_128 : decode cX9_marks 128 = .ok (.invokevirtual 260, 3) := by decide +kernel
theorem dX9_marks_131 : decode cX9_marks 131 = .ok (.iinc 4 1, 3) := by decide +kernel
theorem dX9_marks_134 : decode cX9_marks 134 = .ok (.goto (-33), 3) := by decide +kernel
theorem dX9_marks_137 : decode cX9_marks 137 = .ok (.aload_n 0, 1) := by decide +kernel
theorem dX9_marks_138 : decode cX9_marks 138 = .ok (.iload_n 2, 1) := by decide +kernel
theorem dX9_marks_139 : decode cX9_marks 139 = .ok (.iconst 2, 1) := by decide +kernel
theorem dX9_marks_140 : decode cX9_marks 140 = .ok (.invokevirtual 260, 3) := by decide +kernel
theorem dX9_marks_143 : decode cX9_marks 143 = .ok (.iconst 0, 1) := by decide +kernel
theorem dX9_marks_144 : decode cX9_marks 144 = .ok (.istore_n 1, 1) := by decide +kernel
theorem dX9_marks_145 : decode cX9_marks 145 = .ok (.goto (-143), 3) := by decide +kernel
theorem dX9_marks_148 : decode cX9_marks 148 = .ok (.return_, 1) := by decide +kernel
def X9_marks_b101b (k2 : Nat → Int32 → M Unit) (k101 : Nat → Int32 → Int32 → Int32 → M Unit) (a0 : Nat) (i2 : Int32) (i3 : Int32) (i4 : Int32) : M Unit := it (i3 ≤ i4) (bd (ck 12 a0) (fun _ => bd (X9_removes a0 i2 2) (fun _ => k2 a0 0))) (bd (gR 12 44 a0) (fun y1 => bd (al 22 y1 i4) (fun x2 => bd (ck 12 a0) (fun _ => bd (X9_removes a0 x2 0) (fun _ => bd (gR 12 44 a0) (fun y3 => bd (al 22 y3 i4) (fun x4 => bd (ck 12 a0) (fun _ => bd (X9_removes a0 x4 1) (fun _ => k101 a0 i2 i3 (i4 + 1))))))))))
def X9_marks_b101 (k2 : Nat → Int32 → M Unit) : Nat → Nat → Int32 → Int32 → Int32 → M Unit
  | 0 => fun _ _ _ _ => fl
  | n + 1 => fun a0 i2 i3 i4 => X9_marks_b101b k2 (X9_marks_b101 k2 n) a0 i2 i3 i4
def X9_marks_b98 (k2 : Nat → Int32 → M Unit)  (a0 : Nat) (i2 : Int32) (i3 : Int32) : M Unit := X9_marks_b101 k2 FU a0 i2 i3 0
def X9_marks_b63b (k2 : Nat → Int32 → M Unit) (k63 : Nat → Int32 → Int32 → Int32 → Int32 → M Unit) (a0 : Nat) (i2 : Int32) (i3 : Int32) (i4 : Int32) (i5 : Int32) : M Unit := it (i3 ≤ i5) (X9_marks_b98 k2  a0 i2 i3) (bd (gR 12 44 a0) (fun y1 => bd (gR 12 3 a0) (fun y2 => bd (X9_number4 y2 ((i4 + 4) + (4 * i5))) (fun x3 => bd (as 22 y1 i5 x3) (fun _ => k63 a0 i2 i3 i4 (i5 + 1))))))
def X9_marks_b63 (k2 : Nat → Int32 → M Unit) : Nat → Nat → Int32 → Int32 → Int32 → Int32 → M Unit
  | 0 => fun _ _ _ _ _ => fl
  | n + 1 => fun a0 i2 i3 i4 i5 => X9_marks_b63b k2 (X9_marks_b63 k2 n) a0 i2 i3 i4 i5
def X9_marks_b2b  (k2 : Nat → Int32 → M Unit) (a0 : Nat) (i1 : Int32) : M Unit := bd (gI 12 8 a0) (fun x1 => it (x1 ≤ i1) (pu ()) (bd (gR 12 6 a0) (fun y2 => bd (al 22 y2 i1) (fun x3 => it (x3 = 2) (bd (gR 12 5 a0) (fun y4 => bd (al 22 y4 i1) (fun x5 => bd (ck 12 a0) (fun _ => bd (X9_isGoodMark a0 i1) (fun x6 => it (x6 = 0) (X9_marks_b98 k2  a0 x5 0) (bd (ck 12 a0) (fun _ => bd (X9_startOf a0 i1) (fun x7 => bd (gR 12 3 a0) (fun y8 => bd (X9_number4 y8 x7) (fun x9 => X9_marks_b63 k2 FU a0 x5 x9 x7 0)))))))))) (k2 a0 (i1 + 1))))))
def X9_marks_b2  : Nat → Nat → Int32 → M Unit
  | 0 => fun _ _ => fl
  | n + 1 => fun a0 i1 => X9_marks_b2b  (X9_marks_b2  n) a0 i1
def X9_marks (a0 : Nat) : M Unit := X9_marks_b2  FU a0 0
section
variable {G : Gx} {p : Program} {l : Launch} {e : Env} {R : Room} {s : State} {m : MethodId} {args : Array Value} {below : List Frame} {meth : Method} {c : Code} {h0 : Hp} {r : Unit} {h' : Hp}
set_option maxRecDepth 20000 in
theorem X9_marks_b101b_s (C : Cx G p R s m args meth c cX9_marks 6 yX9_marks.cls h0 h') (hF : R.frames = 3) (hO : R.locals = 72) (hr : meth.sig.returnType = none) (hm : meth.name = yX9_marks.name) {k2 : Nat → Int32 → M Unit} (hk2 : ∀ (a0 : Nat) (i1 : Int32), Sm G (QM G rvU below args s h0 r h') p l e R s m args below meth c 6 h0 r h' 2 [(0, .ref a0), (1, .int i1)] [] (k2 a0 i1)) {k101 : Nat → Int32 → Int32 → Int32 → M Unit} (hk101 : ∀ (a0 : Nat) (i2 : Int32) (i3 : Int32) (i4 : Int32), Sm G (QM G rvU below args s h0 r h') p l e R s m args below meth c 6 h0 r h' 101 [(0, .ref a0), (2, .int i2), (3, .int i3), (4, .int i4)] [] (k101 a0 i2 i3 i4)) (a0 : Nat) (i2 : Int32) (i3 : Int32) (i4 : Int32) : Sm G (QM G rvU below args s h0 r h') p l e R s m args below meth c 6 h0 r h' 101 [(0, .ref a0), (2, .int i2), (3, .int i3), (4, .int i4)] [] (X9_marks_b101b k2 k101 a0 i2 i3 i4) := by
  refine s_iload C 3 dX9_marks_101 rfl ?_
  refine s_iload_n C 2 dX9_marks_103 rfl rfl ?_
  refine s_icmp_ge (tgt := 137) C dX9_marks_104 (by decide) ?_ ?_
  · refine s_aload_n C 0 dX9_marks_137 rfl rfl ?_
    refine s_iload_n C 1 dX9_marks_138 rfl rfl ?_
    refine s_iconst (v := 2) C dX9_marks_139 (by decide) ?_
    refine s_invV_u C ci12 cy_X9_removes (Or.inl wd_7_184) rfl wd_7_186 wp_52 (con_X9_removes l G a0 i2 2) rfl rfl (Nat.le_of_ble_eq_true rfl) (by rw [hF]; decide) (by rw [hO]; exact Nat.le_of_ble_eq_true rfl) dX9_marks_140 ?_
    refine s_iconst (v := 0) C dX9_marks_143 (by decide) ?_
    refine s_istore_n (lv' := [(1, .int 0), (0, .ref a0), (2, .int i2), (3, .int i3), (4, .int i4)]) C dX9_marks_144 rfl (by decide) rfl ?_
    refine s_goto (tgt := 2) C dX9_marks_145 (by decide) ?_
    refine s_sub [1, 0] rfl ?_
    exact hk2 a0 0
  refine s_aload_n C 0 dX9_marks_107 rfl rfl ?_
  refine s_aload_n C 0 dX9_marks_108 rfl rfl ?_
  refine s_gR C ci12 44 (by decide) (Or.inl wd_6_159) dX9_marks_109 (fun y1 => ?_)
  refine s_iload C 3 dX9_marks_112 rfl ?_
  refine s_al22 C dX9_marks_114 (fun x2 => ?_)
  refine s_iconst (v := 0) C dX9_marks_115 (by decide) ?_
  refine s_invV_u C ci12 cy_X9_removes (Or.inl wd_7_184) rfl wd_7_186 wp_52 (con_X9_removes l G a0 x2 0) rfl rfl (Nat.le_of_ble_eq_true rfl) (by rw [hF]; decide) (by rw [hO]; exact Nat.le_of_ble_eq_true rfl) dX9_marks_116 ?_
  refine s_aload_n C 0 dX9_marks_119 rfl rfl ?_
  refine s_aload_n C 0 dX9_marks_120 rfl rfl ?_
  refine s_gR C ci12 44 (by decide) (Or.inl wd_6_159) dX9_marks_121 (fun y3 => ?_)
  refine s_iload C 3 dX9_marks_124 rfl ?_
  refine s_al22 C dX9_marks_126 (fun x4 => ?_)
  refine s_iconst (v := 1) C dX9_marks_127 (by decide) ?_
  refine s_invV_u C ci12 cy_X9_removes (Or.inl wd_7_184) rfl wd_7_186 wp_52 (con_X9_removes l G a0 x4 1) rfl rfl (Nat.le_of_ble_eq_true rfl) (by rw [hF]; decide) (by rw [hO]; exact Nat.le_of_ble_eq_true rfl) dX9_marks_128 ?_
  refine s_iincK (lv' := [(4, .int (i4 + 1)), (0, .ref a0), (2, .int i2), (3, .int i3)]) (w := 1) C 3 dX9_marks_131 rfl (by decide) (by decide) rfl ?_
  refine s_goto (tgt := 101) C dX9_marks_134 (by decide) ?_
  refine s_sub [1, 2, 3, 0] rfl ?_
  exact hk101 a0 i2 i3 (i4 + 1)
set_option maxRecDepth 20000 in
theorem X9_marks_b101_s (C : Cx G p R s m args meth c cX9_marks 6 yX9_marks.cls h0 h') (hF : R.frames = 3) (hO : R.locals = 72) (hr : meth.sig.returnType = none) (hm : meth.name = yX9_marks.name) {k2 : Nat → Int32 → M Unit} (hk2 : ∀ (a0 : Nat) (i1 : Int32), Sm G (QM G rvU below args s h0 r h') p l e R s m args below meth c 6 h0 r h' 2 [(0, .ref a0), (1, .int i1)] [] (k2 a0 i1)) (n : Nat) : ∀ (a0 : Nat) (i2 : Int32) (i3 : Int32) (i4 : Int32), Sm G (QM G rvU below args s h0 r h') p l e R s m args below meth c 6 h0 r h' 101 [(0, .ref a0), (2, .int i2), (3, .int i3), (4, .int i4)] [] (X9_marks_b101 k2 n a0 i2 i3 i4) := by
  induction n with
  | zero => intro a0 i2 i3 i4; exact s_fl
  | succ n ih => intro a0 i2 i3 i4; exact X9_marks_b101b_s C hF hO hr hm hk2 ih a0 i2 i3 i4
set_option maxRecDepth 20000 in
theorem X9_marks_b98_s (C : Cx G p R s m args meth c cX9_marks 6 yX9_marks.cls h0 h') (hF : R.frames = 3) (hO : R.locals = 72) (hr : meth.sig.returnType = none) (hm : meth.name = yX9_marks.name) {k2 : Nat → Int32 → M Unit} (hk2 : ∀ (a0 : Nat) (i1 : Int32), Sm G (QM G rvU below args s h0 r h') p l e R s m args below meth c 6 h0 r h' 2 [(0, .ref a0), (1, .int i1)] [] (k2 a0 i1))  (a0 : Nat) (i2 : Int32) (i3 : Int32) : Sm G (QM G rvU below args s h0 r h') p l e R s m args below meth c 6 h0 r h' 98 [(0, .ref a0), (2, .int i2), (3, .int i3)] [] (X9_marks_b98 k2  a0 i2 i3) := by
  refine s_iconst (v := 0) C dX9_marks_98 (by decide) ?_
  refine s_istore (lv' := [(4, .int 0), (0, .ref a0), (2, .int i2), (3, .int i3)]) C dX9_marks_99 (by decide) rfl ?_
  refine s_sub [1, 2, 3, 0] rfl ?_
  exact X9_marks_b101_s C hF hO hr hm hk2 FU a0 i2 i3 0
set_option maxRecDepth 20000 in
theorem X9_marks_b63b_s (C : Cx G p R s m args meth c cX9_marks 6 yX9_marks.cls h0 h') (hF : R.frames = 3) (hO : R.locals = 72) (hr : meth.sig.returnType = none) (hm : meth.name = yX9_marks.name) {k2 : Nat → Int32 → M Unit} (hk2 : ∀ (a0 : Nat) (i1 : Int32), Sm G (QM G rvU below args s h0 r h') p l e R s m args below meth c 6 h0 r h' 2 [(0, .ref a0), (1, .int i1)] [] (k2 a0 i1)) {k63 : Nat → Int32 → Int32 → Int32 → Int32 → M Unit} (hk63 : ∀ (a0 : Nat) (i2 : Int32) (i3 : Int32) (i4 : Int32) (i5 : Int32), Sm G (QM G rvU below args s h0 r h') p l e R s m args below meth c 6 h0 r h' 63 [(0, .ref a0), (2, .int i2), (3, .int i3), (4, .int i4), (5, .int i5)] [] (k63 a0 i2 i3 i4 i5)) (a0 : Nat) (i2 : Int32) (i3 : Int32) (i4 : Int32) (i5 : Int32) : Sm G (QM G rvU below args s h0 r h') p l e R s m args below meth c 6 h0 r h' 63 [(0, .ref a0), (2, .int i2), (3, .int i3), (4, .int i4), (5, .int i5)] [] (X9_marks_b63b k2 k63 a0 i2 i3 i4 i5) := by
  refine s_iload C 4 dX9_marks_63 rfl ?_
  refine s_iload_n C 2 dX9_marks_65 rfl rfl ?_
  refine s_icmp_ge (tgt := 98) C dX9_marks_66 (by decide) ?_ ?_
  · refine s_sub [0, 1, 2] rfl ?_
    exact X9_marks_b98_s C hF hO hr hm hk2  a0 i2 i3
  refine s_aload_n C 0 dX9_marks_69 rfl rfl ?_
  refine s_gR C ci12 44 (by decide) (Or.inl wd_6_159) dX9_marks_70 (fun y1 => ?_)
  refine s_iload C 4 dX9_marks_73 rfl ?_
  refine s_aload_n C 0 dX9_marks_75 rfl rfl ?_
  refine s_gR C ci12 3 (by decide) (Or.inl wd_6_118) dX9_marks_76 (fun y2 => ?_)
  refine s_iload C 3 dX9_marks_79 rfl ?_
  refine s_iconst (v := 4) C dX9_marks_81 (by decide) ?_
  refine s_iadd C dX9_marks_82 ?_
  refine s_iconst (v := 4) C dX9_marks_83 (by decide) ?_
  refine s_iload C 4 dX9_marks_84 rfl ?_
  refine s_imul C dX9_marks_86 ?_
  refine s_iadd C dX9_marks_87 ?_
  refine s_invS_i C cy_X9_number4 (Or.inl wd_7_143) wd_7_144 (con_X9_number4 l G y2 ((i4 + 4) + (4 * i5))) rfl rfl (Nat.le_of_ble_eq_true rfl) (by rw [hF]; decide) (by rw [hO]; exact Nat.le_of_ble_eq_true rfl) dX9_marks_88 (fun x3 => ?_)
  refine s_as22 C dX9_marks_91 ?_
  refine s_iincK (lv' := [(5, .int (i5 + 1)), (0, .ref a0), (2, .int i2), (3, .int i3), (4, .int i4)]) (w := 1) C 4 dX9_marks_92 rfl (by decide) (by decide) rfl ?_
  refine s_goto (tgt := 63) C dX9_marks_95 (by decide) ?_
  refine s_sub [1, 2, 3, 4, 0] rfl ?_
  exact hk63 a0 i2 i3 i4 (i5 + 1)
set_option maxRecDepth 20000 in
theorem X9_marks_b63_s (C : Cx G p R s m args meth c cX9_marks 6 yX9_marks.cls h0 h') (hF : R.frames = 3) (hO : R.locals = 72) (hr : meth.sig.returnType = none) (hm : meth.name = yX9_marks.name) {k2 : Nat → Int32 → M Unit} (hk2 : ∀ (a0 : Nat) (i1 : Int32), Sm G (QM G rvU below args s h0 r h') p l e R s m args below meth c 6 h0 r h' 2 [(0, .ref a0), (1, .int i1)] [] (k2 a0 i1)) (n : Nat) : ∀ (a0 : Nat) (i2 : Int32) (i3 : Int32) (i4 : Int32) (i5 : Int32), Sm G (QM G rvU below args s h0 r h') p l e R s m args below meth c 6 h0 r h' 63 [(0, .ref a0), (2, .int i2), (3, .int i3), (4, .int i4), (5, .int i5)] [] (X9_marks_b63 k2 n a0 i2 i3 i4 i5) := by
  induction n with
  | zero => intro a0 i2 i3 i4 i5; exact s_fl
  | succ n ih => intro a0 i2 i3 i4 i5; exact X9_marks_b63b_s C hF hO hr hm hk2 ih a0 i2 i3 i4 i5
set_option maxRecDepth 20000 in
theorem X9_marks_b2b_s (C : Cx G p R s m args meth c cX9_marks 6 yX9_marks.cls h0 h') (hF : R.frames = 3) (hO : R.locals = 72) (hr : meth.sig.returnType = none) (hm : meth.name = yX9_marks.name)  {k2 : Nat → Int32 → M Unit} (hk2 : ∀ (a0 : Nat) (i1 : Int32), Sm G (QM G rvU below args s h0 r h') p l e R s m args below meth c 6 h0 r h' 2 [(0, .ref a0), (1, .int i1)] [] (k2 a0 i1)) (a0 : Nat) (i1 : Int32) : Sm G (QM G rvU below args s h0 r h') p l e R s m args below meth c 6 h0 r h' 2 [(0, .ref a0), (1, .int i1)] [] (X9_marks_b2b  k2 a0 i1) := by
  refine s_iload_n C 1 dX9_marks_2 rfl rfl ?_
  refine s_aload_n C 0 dX9_marks_3 rfl rfl ?_
  refine s_gI C ci12 8 (by decide) (Or.inl wd_6_123) dX9_marks_4 (fun x1 => ?_)
  refine s_icmp_ge (tgt := 148) C dX9_marks_7 (by decide) ?_ ?_
  · exact s_vret C hr rfl dX9_marks_148
  refine s_aload_n C 0 dX9_marks_10 rfl rfl ?_
  refine s_gR C ci12 6 (by decide) (Or.inl wd_6_121) dX9_marks_11 (fun y2 => ?_)
  refine s_iload_n C 1 dX9_marks_14 rfl rfl ?_
  refine s_al22 C dX9_marks_15 (fun x3 => ?_)
  refine s_iconst (v := 2) C dX9_marks_16 (by decide) ?_
  refine s_icmp_eq (tgt := 26) C dX9_marks_17 (by decide) ?_ ?_
  · refine s_aload_n C 0 dX9_marks_26 rfl rfl ?_
    refine s_gR C ci12 5 (by decide) (Or.inl wd_6_120) dX9_marks_27 (fun y4 => ?_)
    refine s_iload_n C 1 dX9_marks_30 rfl rfl ?_
    refine s_al22 C dX9_marks_31 (fun x5 => ?_)
    refine s_istore_n (lv' := [(2, .int x5), (0, .ref a0), (1, .int i1)]) C dX9_marks_32 rfl (by decide) rfl ?_
    refine s_iconst (v := 0) C dX9_marks_33 (by decide) ?_
    refine s_istore_n (lv' := [(3, .int 0), (2, .int x5), (0, .ref a0), (1, .int i1)]) C dX9_marks_34 rfl (by decide) rfl ?_
    refine s_aload_n C 2 dX9_marks_35 rfl rfl ?_
    refine s_iload_n C 3 dX9_marks_36 rfl rfl ?_
    refine s_invV_i C ci12 cy_X9_isGoodMark (Or.inl wd_7_178) rfl wd_7_180 wp_51 (con_X9_isGoodMark l G a0 i1) rfl rfl (Nat.le_of_ble_eq_true rfl) (by rw [hF]; decide) (by rw [hO]; exact Nat.le_of_ble_eq_true rfl) dX9_marks_37 (fun x6 => ?_)
    refine s_if_eq (tgt := 98) C dX9_marks_40 (by decide) ?_ ?_
    · refine s_sub [2, 1, 0] rfl ?_
      exact X9_marks_b98_s C hF hO hr hm hk2  a0 x5 0
    refine s_aload_n C 2 dX9_marks_43 rfl rfl ?_
    refine s_iload_n C 3 dX9_marks_44 rfl rfl ?_
    refine s_invV_i C ci12 cy_X9_startOf (Or.inl wd_7_96) rfl wd_7_98 wp_39 (con_X9_startOf l G a0 i1) rfl rfl (Nat.le_of_ble_eq_true rfl) (by rw [hF]; decide) (by rw [hO]; exact Nat.le_of_ble_eq_true rfl) dX9_marks_45 (fun x7 => ?_)
    refine s_istore (lv' := [(4, .int x7), (3, .int 0), (2, .int x5), (0, .ref a0), (1, .int i1)]) C dX9_marks_48 (by decide) rfl ?_
    refine s_aload_n C 3 dX9_marks_50 rfl rfl ?_
    refine s_gR C ci12 3 (by decide) (Or.inl wd_6_118) dX9_marks_51 (fun y8 => ?_)
    refine s_iload C 0 dX9_marks_54 rfl ?_
    refine s_invS_i C cy_X9_number4 (Or.inl wd_7_143) wd_7_144 (con_X9_number4 l G y8 x7) rfl rfl (Nat.le_of_ble_eq_true rfl) (by rw [hF]; decide) (by rw [hO]; exact Nat.le_of_ble_eq_true rfl) dX9_marks_56 (fun x9 => ?_)
    refine s_istore_n (lv' := [(3, .int x9), (4, .int x7), (2, .int x5), (0, .ref a0), (1, .int i1)]) C dX9_marks_59 rfl (by decide) rfl ?_
    refine s_iconst (v := 0) C dX9_marks_60 (by decide) ?_
    refine s_istore (lv' := [(5, .int 0), (3, .int x9), (4, .int x7), (2, .int x5), (0, .ref a0), (1, .int i1)]) C dX9_marks_61 (by decide) rfl ?_
    refine s_sub [4, 3, 1, 2, 0] rfl ?_
    exact X9_marks_b63_s C hF hO hr hm hk2 FU a0 x5 x9 x7 0
  refine s_iincK (lv' := [(1, .int (i1 + 1)), (0, .ref a0)]) (w := 1) C 1 dX9_marks_20 rfl (by decide) (by decide) rfl ?_
  refine s_goto (tgt := 2) C dX9_marks_23 (by decide) ?_
  refine s_sub [1, 0] rfl ?_
  exact hk2 a0 (i1 + 1)
set_option maxRecDepth 20000 in
theorem X9_marks_b2_s (C : Cx G p R s m args meth c cX9_marks 6 yX9_marks.cls h0 h') (hF : R.frames = 3) (hO : R.locals = 72) (hr : meth.sig.returnType = none) (hm : meth.name = yX9_marks.name)  (n : Nat) : ∀ (a0 : Nat) (i1 : Int32), Sm G (QM G rvU below args s h0 r h') p l e R s m args below meth c 6 h0 r h' 2 [(0, .ref a0), (1, .int i1)] [] (X9_marks_b2  n a0 i1) := by
  induction n with
  | zero => intro a0 i1; exact s_fl
  | succ n ih => intro a0 i1; exact X9_marks_b2b_s C hF hO hr hm  ih a0 i1
end
set_option maxRecDepth 20000 in
theorem con_X9_marks (l : Launch) (G : Gx) (a0 : Nat) : Con G rvU l yX9_marks cX9_marks 6 none 3 72 [.ref a0] (X9_marks a0) := by
  refine con_of (lv := [(0, .ref a0)]) (by decide) (Nat.le_of_ble_eq_true rfl) rfl (fun p e R s m args below meth c h0 r h' C hF hO hr hm => ?_)
  refine s_iconst (v := 0) C dX9_marks_0 (by decide) ?_
  refine s_istore_n (lv' := [(1, .int 0), (0, .ref a0)]) C dX9_marks_1 rfl (by decide) rfl ?_
  refine s_sub [1, 0] rfl ?_
  exact X9_marks_b2_s C hF hO hr hm  FU a0 0
