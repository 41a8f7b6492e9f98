theorem dX5_init_0 : decode cX5_init 0 = .ok (.aload_n 0, 1) := by decide +kernel
theorem dX5_init_1 : decode cX5_init 1 = .ok (.invokespecial 3, 3) := by decide +kernel
theorem dX5_init_4 : decode cX5_init 4 = .ok (.aload_n 0, 1) := by decide +kernel
theorem dX5_init_5 : decode cX5_init 5 = .ok (.new 9, 3) := by decide +kernel
theorem dX5_init_8 : decode cX5_init 8 = .ok (.dup, 1) := by decide +kernel
theorem dX5_init_9 : decode cX5_init 9 = .ok (.invokespecial 11, 3) := by decide +kernel
theorem dX5_init_12 : decode cX5_init 12 = .ok (.putfield 12, 3) := by decide +kernel
theorem dX5_init_15 : decode cX5_init 15 = .ok (.aload_n 0, 1) := by decide +kernel
theorem dX5_init_16 : decode cX5_init 16 = .ok (.new 9, 3) := by decide +kernel
theorem dX5_init_19 : decode cX5_init 19 = .ok (.dup, 1) := by decide +kernel
theorem dX5_init_20 : decode cX5_init 20 = .ok (.invokespecial 11, 3) := by decide +kernel
theorem dX5_init_23 : decode cX5_init 23 = .ok (.putfield 18, 3) := by decide +kernel
theorem dX5_init_26 : decode cX5_init 26 = .ok (.aload_n 0, 1) := by decide +kernel
theorem dX5_init_27 : decode cX5_init 27 = .ok (.aload_n 1, 1) := by decide +kernel
theorem dX5_init_28 : decode cX5_init 28 = .ok (.putfield 21, 3) := by decide +kernel
theorem dX5_init_31 : decode cX5_init 31 = .ok (.aload_n 0, 1) := by decide +kernel
theorem dX5_init_32 : decode cX5_init 32 = .ok (.aload_n 2, 1) := by decide +kernel
theorem dX5_init_33 : decode cX5_init 33 = .ok (.putfield 25, 3) := by decide +kernel
theorem dX5_init_36 : decode cX5_init 36 = .ok (.return_, 1) := by decide +kernel
def X5_init (a0 : Nat) (a1 : Nat) (a2 : Nat) : M Unit := bd (nw 4 2) (fun y1 => bd (X1_init y1) (fun _ => bd (pV 8 2 a0 (.ref y1)) (fun _ => bd (nw 4 2) (fun y2 => bd (X1_init y2) (fun _ => bd (pV 8 3 a0 (.ref y2)) (fun _ => bd (pV 8 0 a0 (.ref a1)) (fun _ => bd (pV 8 1 a0 (.ref a2)) (fun _ => pu ()))))))))
section
variable {G : Gx} {p : Program} {l : Launch} {e : Env} {R : Room} {s : State} {m : MethodId} {args : Array Value} {below : List Frame} {meth : Method} {c : Code} {h0 : Hp} {r : Unit} {h' : Hp}
end
set_option maxRecDepth 20000 in
theorem con_X5_init (l : Launch) (G : Gx) (a0 : Nat) (a1 : Nat) (a2 : Nat) : Con G rvU l yX5_init cX5_init 3 none 2 50 [.ref a0, .ref a1, .ref a2] (X5_init a0 a1 a2) := by
  refine con_of (lv := [(0, .ref a0), (1, .ref a1), (2, .ref a2)]) (by decide) (Nat.le_of_ble_eq_true rfl) rfl (fun p e R s m args below meth c h0 r h' C hF hO hr hm => ?_)
  refine s_aload_n C 0 dX5_init_0 rfl rfl ?_
  refine s_obj C wd_1_134 wd_1_39 wd_1_40 (by rw [hF]; decide) (by rw [hO]; exact Nat.le_of_ble_eq_true rfl) dX5_init_1 ?_
  refine s_aload_n C 0 dX5_init_4 rfl rfl ?_
  refine s_nw C ci4 wd_1_135 wd_1_42 wd_1_2 dX5_init_5 (fun y1 => ?_)
  refine s_dup C dX5_init_8 rfl ?_
  refine s_invI_u C cy_X1_init (Or.inr ⟨_, wd_1_136⟩) rfl wd_1_44 (con_X1_init l G y1) rfl rfl (Nat.le_of_ble_eq_true rfl) (by rw [hF]; decide) (by rw [hO]; exact Nat.le_of_ble_eq_true rfl) dX5_init_9 ?_
  refine s_pF C ci8 2 (by decide) rfl rfl hm wd_1_139 dX5_init_12 rfl rfl ?_
  refine s_aload_n C 0 dX5_init_15 rfl rfl ?_
  refine s_nw C ci4 wd_1_135 wd_1_42 wd_1_2 dX5_init_16 (fun y2 => ?_)
  refine s_dup C dX5_init_19 rfl ?_
  refine s_invI_u C cy_X1_init (Or.inr ⟨_, wd_1_136⟩) rfl wd_1_44 (con_X1_init l G y2) rfl rfl (Nat.le_of_ble_eq_true rfl) (by rw [hF]; decide) (by rw [hO]; exact Nat.le_of_ble_eq_true rfl) dX5_init_20 ?_
  refine s_pF C ci8 3 (by decide) rfl rfl hm wd_1_140 dX5_init_23 rfl rfl ?_
  refine s_aload_n C 0 dX5_init_26 rfl rfl ?_
  refine s_aload_n C 1 dX5_init_27 rfl rfl ?_
  refine s_pF C ci8 0 (by decide) rfl rfl hm wd_1_137 dX5_init_28 rfl rfl ?_
  refine s_aload_n C 0 dX5_init_31 rfl rfl ?_
  refine s_aload_n C 2 dX5_init_32 rfl rfl ?_
  refine s_pF C ci8 1 (by decide) rfl rfl hm wd_1_138 dX5_init_33 rfl rfl ?_
  exact s_vret C hr rfl dX5_init_36

theorem dX5_need_0 : decode cX5_need 0 = .ok (.aload_n 0, 1) := by decide +kernel
theorem dX5_need_1 : decode cX5_need 1 = .ok (.getfield 21, 3) := by decide +kernel
theorem dX5_need_4 : decode cX5_need 4 = .ok (.getfield 29, 3) := by decide +kernel
theorem dX5_need_7 : decode cX5_need 7 = .ok (.istore_n 1, 1) := by decide +kernel
theorem dX5_need_8 : decode cX5_need 8 = .ok (.bipush 8, 2) := by decide +kernel
theorem dX5_need_10 : decode cX5_need 10 = .ok (.iconst 4, 1) := by decide +kernel
theorem dX5_need_11 : decode cX5_need 11 = .ok (.aload_n 0, 1) := by decide +kernel
theorem dX5_need_12 : decode cX5_need 12 = .ok (.getfield 21, 3) := by decide +kernel
theorem dX5_need_15 : decode cX5_need 15 = .ok (.iload_n 1, 1) := by decide +kernel
theorem dX5_need_16 : decode cX5_need 16 = .ok (.invokevirtual 35, 3) := by decide +kernel
theorem dX5_need_19 : decode cX5_need 19 = .ok (.imul, 1) := by decide +kernel
theorem dX5_need_20 : decode cX5_need 20 = .ok (.iadd, 1) := by decide +kernel
theorem dX5_need_21 : decode cX5_need 21 = .ok (.istore_n 2, 1) := by decide +kernel
theorem dX5_need_22 : decode cX5_need 22 = .ok (.iconst 0, 1) := by decide +kernel
theorem dX5_need_23 : decode cX5_need 23 = .ok (.istore_n 3, 1) := by decide +kernel
theorem dX5_need_24 : decode cX5_need 24 = .ok (.iconst (-1), 1) := by decide +kernel
theorem dX5_need_25 : decode cX5_need 25 = .ok (.istore 4, 2) := by decide +kernel
theorem dX5_need_27 : decode cX5_need 27 = .ok (.aload_n 0, 1) := by decide +kernel
theorem dX5_need_28 : decode cX5_need 28 = .ok (.getfield 25, 3) := by decide +kernel
theorem dX5_need_31 : decode cX5_need 31 = .ok (.invokevirtual 39, 3) := by decide +kernel
theorem dX5_need_34 : decode cX5_need 34 = .ok (.istore 5, 2) := by decide +kernel
theorem dX5_need_36 : decode cX5_need 36 = .ok (.iload 5, 2) := by decide +kernel
theorem dX5_need_38 : decode cX5_need 38 = .ok (.ifCond .le 91, 3) := by decide +kernel
theorem dX5_need_41 : decode cX5_need 41 = .ok (.aload_n 0, 1) := by decide +kernel
theorem dX5_need_42 : decode cX5_need 42 = .ok (.getfield 25, 3) := by decide +kernel
theorem dX5_need_45 : decode cX5_need 45 = .ok (.iload_n 1, 1) := by decide +kernel
theorem dX5_need_46 : decode cX5_need 46 = .ok (.iload 4, 2) := by decide +kernel
theorem dX5_need_48 : decode cX5_need 48 = .ok (.invokevirtual 45, 3) := by decide +kernel
theorem dX5_need_51 : decode cX5_need 51 = .ok (.istore 4, 2) := by decide +kernel
theorem dX5_need_53 : decode cX5_need 53 = .ok (.aload_n 0, 1) := by decide +kernel
theorem dX5_need_54 : decode cX5_need 54 = .ok (.getfield 25, 3) := by decide +kernel
theorem dX5_need_57 : decode cX5_need 57 = .ok (.iload 4, 2) := by decide +kernel
theorem dX5_need_59 : decode cX5_need 59 = .ok (.invokevirtual 49, 3) := by decide +kernel
theorem dX5_need_62 : decode cX5_need 62 = .ok (.astore 6, 2) := by decide +kernel
theorem dX5_need_64 : decode cX5_need 64 = .ok (.aload 6, 2) := by decide +kernel
theorem dX5_need_66 : decode cX5_need 66 = .ok (.ifnonnull 5, 3) := by decide +kernel
theorem dX5_need_69 : decode cX5_need 69 = .ok (.iload_n 2, 1) := by decide +kernel
theorem dX5_need_70 : decode cX5_need 70 = .ok (.ireturn, 1) := by decide +kernel
theorem dX5_need_71 : decode cX5_need 71 = .ok (.aload 6, 2) := by decide +kernel
theorem dX5_need_73 : decode cX5_need 73 = .ok (.invokevirtual 53, 3) := by decide +kernel
theorem dX5_need_76 : decode cX5_need 76 = .ok (.istore 7, 2) := by decide +kernel
theorem dX5_need_78 : decode cX5_need 78 = .ok (.iload_n 3, 1) := by decide +kernel
theorem dX5_need_79 : decode cX5_need 79 = .ok (.ifCond .eq 17, 3) := by decide +kernel
theorem dX5_need_82 : decode cX5_need 82 = .ok (.iload_n 3, 1) := by decide +kernel
theorem dX5_need_83 : decode cX5_need 83 = .ok (.iload 7, 2) := by decide +kernel
theorem dX5_need_85 : decode cX5_need 85 = .ok (.iadd, 1) := by decide +kernel
theorem dX5_need_86 : decode cX5_need 86 = .ok (.aload_n 0, 1) := by decide +kernel
theorem dX5_need_87 : decode cX5_need 87 = .ok (.getfield 21, 3) := by decide +kernel
theorem dX5_need_90 : decode cX5_need 90 = .ok (.getfield 58, 3) := by decide +kernel
theorem dX5_need_93 : decode cX5_need 93 = .ok (.if_icmp .le 8, 3) := by decide +kernel
theorem dX5_need_96 : decode cX5_need 96 = .ok (.iinc 2 8, 3) := by decide +kernel
theorem dX5_need_99 : decode cX5_need 99 = .ok (.iconst 0, 1) := by decide +kernel
theorem dX5_need_100 : decode cX5_need 100 = .ok (.istore_n 3, 1) := by decide +kernel
theorem dX5_need_101 : decode cX5_need 101 = .ok (.iload_n 3, 1) := by decide +kernel
theorem dX5_need_102 : decode cX5_need 102 = .ok (.iload 7, 2) := by decide +kernel
theorem dX5_need_104 : decode cX5_need 104 = .ok (.iadd, 1) := by decide +kernel
theorem dX5_need_105 : decode cX5_need 105 = .ok (.istore_n 3, 1) := by decide +kernel
theorem dX5_need_106 : decode cX5_need 106 = .ok (.iload_n 2, 1) := by decide +kernel
theorem dX5_need_107 : decode cX5_need 107 = .ok (.iload 7, 2) := by decide +kernel
theorem dX5_need_109 : decode cX5_need 109 = .ok (.bipush 14, 2) := by decide +kernel
theorem dX5_need_111 : decode cX5_need 111 = .ok (.iadd, 1) := by decide +kernel
theorem dX5_need_112 : decode cX5_need 112 = .ok (.aload 6, 2) := by decide +kernel
theorem dX5_need_114 : decode cX5_need 114 = .ok (.getfield 61, 3) := by decide +kernel
theorem dX5_need_117 : decode cX5_need 117 = .ok (.invokevirtual 64, 3) := by decide +kernel
theorem dX5_need_120 : decode cX5_need 120 = .ok (.iadd, 1) := by decide +kernel
theorem dX5_need_121 : decode cX5_need 121 = .ok (.iadd, 1) := by decide +kernel
theorem dX5_need_122 : decode cX5_need 122 = .ok (.istore_n 2, 1) := by decide +kernel
theorem dX5_need_123 : decode cX5_need 123 = .ok (.iinc 5 (-1), 3) := by decide +kernel
theorem dX5_need_126 : decode cX5_need 126 = .ok (.goto (-90), 3) := by decide +kernel
theorem dX5_need_129 : decode cX5_need 129 = .ok (.iload_n 2, 1) := by decide +kernel
theorem dX5_need_130 : decode cX5_need 130 = .ok (.ireturn, 1) := by decide +kernel
def X5_need_b101 (k36 : Nat → Int32 → Int32 → Int32 → Int32 → Int32 → M Int32)  (a0 : Nat) (i1 : Int32) (i2 : Int32) (i3 : Int32) (i4 : Int32) (i5 : Int32) (o6 : Option Nat) (i7 : Int32) : M Int32 := bd (pu (i3 + i7)) (fun x1 => nn o6 (fun y2 => bd (gR 10 0 y2) (fun y3 => bd (ck 4 y3) (fun _ => bd (X1_size y3) (fun x4 => bd (pu (i2 + ((i7 + 14) + x4))) (fun x5 => k36 a0 i1 x5 x1 i4 (i5 + (-1))))))))
def X5_need_b96 (k36 : Nat → Int32 → Int32 → Int32 → Int32 → Int32 → M Int32)  (a0 : Nat) (i1 : Int32) (i2 : Int32) (i4 : Int32) (i5 : Int32) (o6 : Option Nat) (i7 : Int32) : M Int32 := X5_need_b101 k36  a0 i1 (i2 + 8) 0 i4 i5 o6 i7
def X5_need_b36b  (k36 : Nat → Int32 → Int32 → Int32 → Int32 → Int32 → M Int32) (a0 : Nat) (i1 : Int32) (i2 : Int32) (i3 : Int32) (i4 : Int32) (i5 : Int32) : M Int32 := it (i5 ≤ 0) (pu i2) (bd (gR 8 1 a0) (fun y1 => bd (ck 5 y1) (fun _ => bd (X2_nextBelow y1 i1 i4) (fun x2 => bd (gR 8 1 a0) (fun y3 => bd (ck 5 y3) (fun _ => bd (X2_row y3 x2) (fun z4 => co z4 (pu i2) (fun y5 => bd (ck 10 y5) (fun _ => bd (X7_recordBytes y5) (fun x6 => it (i3 = 0) (X5_need_b96 k36  a0 i1 i2 x2 i5 (some y5) x6) (bd (gR 8 0 a0) (fun y7 => bd (gI 6 5 y7) (fun x8 => it ((i3 + x6) ≤ x8) (X5_need_b101 k36  a0 i1 i2 i3 x2 i5 (some y5) x6) (X5_need_b96 k36  a0 i1 i2 x2 i5 (some y5) x6))))))))))))))
def X5_need_b36  : Nat → Nat → Int32 → Int32 → Int32 → Int32 → Int32 → M Int32
  | 0 => fun _ _ _ _ _ _ => fl
  | n + 1 => fun a0 i1 i2 i3 i4 i5 => X5_need_b36b  (X5_need_b36  n) a0 i1 i2 i3 i4 i5
def X5_need (a0 : Nat) : M Int32 := bd (gR 8 0 a0) (fun y1 => bd (gI 6 6 y1) (fun x2 => bd (gR 8 0 a0) (fun y3 => bd (ck 6 y3) (fun _ => bd (X3_countData y3 x2) (fun x4 => bd (pu (8 + (4 * x4))) (fun x5 => bd (pu (-1)) (fun x6 => bd (gR 8 1 a0) (fun y7 => bd (ck 5 y7) (fun _ => bd (X2_count y7) (fun x8 => X5_need_b36  FU a0 x2 x5 0 x6 x8))))))))))
section
variable {G : Gx} {p : Program} {l : Launch} {e : Env} {R : Room} {s : State} {m : MethodId} {args : Array Value} {below : List Frame} {meth : Method} {c : Code} {h0 : Hp} {r : Int32} {h' : Hp}
set_option maxRecDepth 20000 in
theorem X5_need_b101_s (C : Cx G p R s m args meth c cX5_need 8 yX5_need.cls h0 h') (hF : R.frames = 6) (hO : R.locals = 134) (hr : meth.sig.returnType = (some .int)) (hm : meth.name = yX5_need.name) {k36 : Nat → Int32 → Int32 → Int32 → Int32 → Int32 → M Int32} (hk36 : ∀ (a0 : Nat) (i1 : Int32) (i2 : Int32) (i3 : Int32) (i4 : Int32) (i5 : Int32), Sm G (QM G rvI below args s h0 r h') p l e R s m args below meth c 8 h0 r h' 36 [(0, .ref a0), (1, .int i1), (2, .int i2), (3, .int i3), (4, .int i4), (5, .int i5)] [] (k36 a0 i1 i2 i3 i4 i5))  (a0 : Nat) (i1 : Int32) (i2 : Int32) (i3 : Int32) (i4 : Int32) (i5 : Int32) (o6 : Option Nat) (i7 : Int32) : Sm G (QM G rvI below args s h0 r h') p l e R s m args below meth c 8 h0 r h' 101 [(0, .ref a0), (1, .int i1), (2, .int i2), (3, .int i3), (4, .int i4), (5, .int i5), (6, va_rf o6), (7, .int i7)] [] (X5_need_b101 k36  a0 i1 i2 i3 i4 i5 o6 i7) := by
  refine s_iload_n C 3 dX5_need_101 rfl rfl ?_
  refine s_iload C 7 dX5_need_102 rfl ?_
  refine s_iadd C dX5_need_104 ?_
  refine s_let (fun x1 => ?_)
  refine s_istore_n (lv' := [(3, .int x1), (0, .ref a0), (1, .int i1), (2, .int i2), (4, .int i4), (5, .int i5), (6, va_rf o6), (7, .int i7)]) C dX5_need_105 rfl (by decide) rfl ?_
  refine s_iload_n C 3 dX5_need_106 rfl rfl ?_
  refine s_iload C 7 dX5_need_107 rfl ?_
  refine s_bipush (v := 14) C dX5_need_109 (by decide) ?_
  refine s_iadd C dX5_need_111 ?_
  refine s_oload C 6 dX5_need_112 rfl ?_
  refine s_nn2 (fun y2 hq => ?_)
  subst hq
  refine s_gR C ci10 0 (by decide) (Or.inr (Or.inr ⟨_, wd_5_53⟩)) dX5_need_114 (fun y3 => ?_)
  refine s_invV_i C ci4 cy_X1_size (Or.inl wd_6_29) rfl wd_2_147 wd_2_148 (con_X1_size l G y3) rfl rfl (Nat.le_of_ble_eq_true rfl) (by rw [hF]; decide) (by rw [hO]; exact Nat.le_of_ble_eq_true rfl) dX5_need_117 (fun x4 => ?_)
  refine s_iadd C dX5_need_120 ?_
  refine s_iadd C dX5_need_121 ?_
  refine s_let (fun x5 => ?_)
  refine s_istore_n (lv' := [(2, .int x5), (3, .int x1), (0, .ref a0), (1, .int i1), (4, .int i4), (5, .int i5), (6, .ref y2), (7, .int i7)]) C dX5_need_122 rfl (by decide) rfl ?_
  refine s_iincK (lv' := [(5, .int (i5 + (-1))), (2, .int x5), (3, .int x1), (0, .ref a0), (1, .int i1), (4, .int i4), (6, .ref y2), (7, .int i7)]) (w := (-1)) C 5 dX5_need_123 rfl (by decide) (by decide) rfl ?_
  refine s_goto (tgt := 36) C dX5_need_126 (by decide) ?_
  refine s_sub [3, 4, 1, 2, 5, 0] rfl ?_
  exact hk36 a0 i1 x5 x1 i4 (i5 + (-1))
set_option maxRecDepth 20000 in
theorem X5_need_b96_s (C : Cx G p R s m args meth c cX5_need 8 yX5_need.cls h0 h') (hF : R.frames = 6) (hO : R.locals = 134) (hr : meth.sig.returnType = (some .int)) (hm : meth.name = yX5_need.name) {k36 : Nat → Int32 → Int32 → Int32 → Int32 → Int32 → M Int32} (hk36 : ∀ (a0 : Nat) (i1 : Int32) (i2 : Int32) (i3 : Int32) (i4 : Int32) (i5 : Int32), Sm G (QM G rvI below args s h0 r h') p l e R s m args below meth c 8 h0 r h' 36 [(0, .ref a0), (1, .int i1), (2, .int i2), (3, .int i3), (4, .int i4), (5, .int i5)] [] (k36 a0 i1 i2 i3 i4 i5))  (a0 : Nat) (i1 : Int32) (i2 : Int32) (i4 : Int32) (i5 : Int32) (o6 : Option Nat) (i7 : Int32) : Sm G (QM G rvI below args s h0 r h') p l e R s m args below meth c 8 h0 r h' 96 [(0, .ref a0), (1, .int i1), (2, .int i2), (4, .int i4), (5, .int i5), (6, va_rf o6), (7, .int i7)] [] (X5_need_b96 k36  a0 i1 i2 i4 i5 o6 i7) := by
  refine s_iincK (lv' := [(2, .int (i2 + 8)), (0, .ref a0), (1, .int i1), (4, .int i4), (5, .int i5), (6, va_rf o6), (7, .int i7)]) (w := 8) C 2 dX5_need_96 rfl (by decide) (by decide) rfl ?_
  refine s_iconst (v := 0) C dX5_need_99 (by decide) ?_
  refine s_istore_n (lv' := [(3, .int 0), (2, .int (i2 + 8)), (0, .ref a0), (1, .int i1), (4, .int i4), (5, .int i5), (6, va_rf o6), (7, .int i7)]) C dX5_need_100 rfl (by decide) rfl ?_
  refine s_sub [2, 3, 1, 0, 4, 5, 6, 7] rfl ?_
  exact X5_need_b101_s C hF hO hr hm hk36  a0 i1 (i2 + 8) 0 i4 i5 o6 i7
set_option maxRecDepth 20000 in
theorem X5_need_b36b_s (C : Cx G p R s m args meth c cX5_need 8 yX5_need.cls h0 h') (hF : R.frames = 6) (hO : R.locals = 134) (hr : meth.sig.returnType = (some .int)) (hm : meth.name = yX5_need.name)  {k36 : Nat → Int32 → Int32 → Int32 → Int32 → Int32 → M Int32} (hk36 : ∀ (a0 : Nat) (i1 : Int32) (i2 : Int32) (i3 : Int32) (i4 : Int32) (i5 : Int32), Sm G (QM G rvI below args s h0 r h') p l e R s m args below meth c 8 h0 r h' 36 [(0, .ref a0), (1, .int i1), (2, .int i2), (3, .int i3), (4, .int i4), (5, .int i5)] [] (k36 a0 i1 i2 i3 i4 i5)) (a0 : Nat) (i1 : Int32) (i2 : Int32) (i3 : Int32) (i4 : Int32) (i5 : Int32) : Sm G (QM G rvI below args s h0 r h') p l e R s m args below meth c 8 h0 r h' 36 [(0, .ref a0), (1, .int i1), (2, .int i2), (3, .int i3), (4, .int i4), (5, .int i5)] [] (X5_need_b36b  k36 a0 i1 i2 i3 i4 i5) := by
  refine s_iload C 5 dX5_need_36 rfl ?_
  refine s_if_le (tgt := 129) C dX5_need_38 (by decide) ?_ ?_
  · refine s_iload_n C 2 dX5_need_129 rfl rfl ?_
    exact s_iret C hr rfl dX5_need_130
  refine s_aload_n C 0 dX5_need_41 rfl rfl ?_
  refine s_gR C ci8 1 (by decide) (Or.inl wd_1_138) dX5_need_42 (fun y1 => ?_)
  refine s_iload_n C 1 dX5_need_45 rfl rfl ?_
  refine s_iload C 4 dX5_need_46 rfl ?_
  refine s_invV_i C ci5 cy_X2_nextBelow (Or.inl wd_6_14) rfl wd_6_15 wd_6_16 (con_X2_nextBelow l G y1 i1 i4) rfl rfl (Nat.le_of_ble_eq_true rfl) (by rw [hF]; decide) (by rw [hO]; exact Nat.le_of_ble_eq_true rfl) dX5_need_48 (fun x2 => ?_)
  refine s_istore (lv' := [(4, .int x2), (0, .ref a0), (1, .int i1), (2, .int i2), (3, .int i3), (5, .int i5)]) C dX5_need_51 (by decide) rfl ?_
  refine s_aload_n C 1 dX5_need_53 rfl rfl ?_
  refine s_gR C ci8 1 (by decide) (Or.inl wd_1_138) dX5_need_54 (fun y3 => ?_)
  refine s_iload C 0 dX5_need_57 rfl ?_
  refine s_invV_o C ci5 cy_X2_row (Or.inl wd_6_27) rfl wd_2_159 wd_2_160 (con_X2_row l G y3 x2) rfl rfl (Nat.le_of_ble_eq_true rfl) (by rw [hF]; decide) (by rw [hO]; exact Nat.le_of_ble_eq_true rfl) dX5_need_59 (fun z4 => ?_)
  refine s_ostore (lv' := [(6, va_rf z4), (4, .int x2), (0, .ref a0), (1, .int i1), (2, .int i2), (3, .int i3), (5, .int i5)]) C dX5_need_62 (by decide) rfl ?_
  refine s_oload C 0 dX5_need_64 rfl ?_
  refine s_ifnonnull (tgt := 71) C dX5_need_66 (by decide) (fun hq => ?_) (fun y5 hq => ?_)
  · subst hq
    refine s_iload_n C 4 dX5_need_69 rfl rfl ?_
    exact s_iret C hr rfl dX5_need_70
  subst hq
  refine s_aload C 0 dX5_need_71 rfl ?_
  refine s_invV_i C ci10 cy_X7_recordBytes (Or.inl wd_6_28) rfl wd_2_209 wd_2_210 (con_X7_recordBytes l G y5) rfl rfl (Nat.le_of_ble_eq_true rfl) (by rw [hF]; decide) (by rw [hO]; exact Nat.le_of_ble_eq_true rfl) dX5_need_73 (fun x6 => ?_)
  refine s_istore (lv' := [(7, .int x6), (6, .ref y5), (4, .int x2), (0, .ref a0), (1, .int i1), (2, .int i2), (3, .int i3), (5, .int i5)]) C dX5_need_76 (by decide) rfl ?_
  refine s_iload_n C 6 dX5_need_78 rfl rfl ?_
  refine s_if_eq (tgt := 96) C dX5_need_79 (by decide) ?_ ?_
  · refine s_sub [3, 4, 5, 2, 7, 1, 0] rfl ?_
    exact X5_need_b96_s C hF hO hr hm hk36  a0 i1 i2 x2 i5 (some y5) x6
  refine s_iload_n C 6 dX5_need_82 rfl rfl ?_
  refine s_iload C 0 dX5_need_83 rfl ?_
  refine s_iadd C dX5_need_85 ?_
  refine s_aload_n C 3 dX5_need_86 rfl rfl ?_
  refine s_gR C ci8 0 (by decide) (Or.inl wd_1_137) dX5_need_87 (fun y7 => ?_)
  refine s_gI C ci6 5 (by decide) (Or.inr (Or.inr ⟨_, wd_1_94⟩)) dX5_need_90 (fun x8 => ?_)
  refine s_icmp_le (tgt := 101) C dX5_need_93 (by decide) ?_ ?_
  · refine s_sub [3, 4, 5, 6, 2, 7, 1, 0] rfl ?_
    exact X5_need_b101_s C hF hO hr hm hk36  a0 i1 i2 i3 x2 i5 (some y5) x6
  refine s_sub [3, 4, 5, 2, 7, 1, 0] rfl ?_
  exact X5_need_b96_s C hF hO hr hm hk36  a0 i1 i2 x2 i5 (some y5) x6
set_option maxRecDepth 20000 in
theorem X5_need_b36_s (C : Cx G p R s m args meth c cX5_need 8 yX5_need.cls h0 h') (hF : R.frames = 6) (hO : R.locals = 134) (hr : meth.sig.returnType = (some .int)) (hm : meth.name = yX5_need.name)  (n : Nat) : ∀ (a0 : Nat) (i1 : Int32) (i2 : Int32) (i3 : Int32) (i4 : Int32) (i5 : Int32), Sm G (QM G rvI below args s h0 r h') p l e R s m args below meth c 8 h0 r h' 36 [(0, .ref a0), (1, .int i1), (2, .int i2), (3, .int i3), (4, .int i4), (5, .int i5)] [] (X5_need_b36  n a0 i1 i2 i3 i4 i5) := by
  induction n with
  | zero => intro a0 i1 i2 i3 i4 i5; exact s_fl
  | succ n ih => intro a0 i1 i2 i3 i4 i5; exact X5_need_b36b_s C hF hO hr hm  ih a0 i1 i2 i3 i4 i5
end
set_option maxRecDepth 20000 in
theorem con_X5_need (l : Launch) (G : Gx) (a0 : Nat) : Con G rvI l yX5_need cX5_need 8 (some .int) 6 134 [.ref a0] (X5_need a0) := by
  refine con_of (lv := [(0, .ref a0)]) (by decide) (Nat.le_of_ble_eq_true rfl) rfl (fun p e R s m args below meth c h0 r h' C hF hO hr hm => ?_)
  refine s_aload_n C 0 dX5_need_0 rfl rfl ?_
  refine s_gR C ci8 0 (by decide) (Or.inl wd_1_137) dX5_need_1 (fun y1 => ?_)
  refine s_gI C ci6 6 (by decide) (Or.inr (Or.inr ⟨_, wd_1_96⟩)) dX5_need_4 (fun x2 => ?_)
  refine s_istore_n (lv' := [(1, .int x2), (0, .ref a0)]) C dX5_need_7 rfl (by decide) rfl ?_
  refine s_bipush (v := 8) C dX5_need_8 (by decide) ?_
  refine s_iconst (v := 4) C dX5_need_10 (by decide) ?_
  refine s_aload_n C 1 dX5_need_11 rfl rfl ?_
  refine s_gR C ci8 0 (by decide) (Or.inl wd_1_137) dX5_need_12 (fun y3 => ?_)
  refine s_iload_n C 0 dX5_need_15 rfl rfl ?_
  refine s_invV_i C ci6 cy_X3_countData (Or.inl wd_2_196) rfl wd_2_197 wd_2_198 (con_X3_countData l G y3 x2) rfl rfl (Nat.le_of_ble_eq_true rfl) (by rw [hF]; decide) (by rw [hO]; exact Nat.le_of_ble_eq_true rfl) dX5_need_16 (fun x4 => ?_)
  refine s_imul C dX5_need_19 ?_
  refine s_iadd C dX5_need_20 ?_
  refine s_let (fun x5 => ?_)
  refine s_istore_n (lv' := [(2, .int x5), (1, .int x2), (0, .ref a0)]) C dX5_need_21 rfl (by decide) rfl ?_
  refine s_iconst (v := 0) C dX5_need_22 (by decide) ?_
  refine s_istore_n (lv' := [(3, .int 0), (2, .int x5), (1, .int x2), (0, .ref a0)]) C dX5_need_23 rfl (by decide) rfl ?_
  refine s_iconst (v := (-1)) C dX5_need_24 (by decide) ?_
  refine s_let (fun x6 => ?_)
  refine s_istore (lv' := [(4, .int x6), (3, .int 0), (2, .int x5), (1, .int x2), (0, .ref a0)]) C dX5_need_25 (by decide) rfl ?_
  refine s_aload_n C 4 dX5_need_27 rfl rfl ?_
  refine s_gR C ci8 1 (by decide) (Or.inl wd_1_138) dX5_need_28 (fun y7 => ?_)
  refine s_invV_i C ci5 cy_X2_count (Or.inl wd_6_13) rfl wd_2_189 wd_2_190 (con_X2_count l G y7) rfl rfl (Nat.le_of_ble_eq_true rfl) (by rw [hF]; decide) (by rw [hO]; exact Nat.le_of_ble_eq_true rfl) dX5_need_31 (fun x8 => ?_)
  refine s_istore (lv' := [(5, .int x8), (4, .int x6), (3, .int 0), (2, .int x5), (1, .int x2), (0, .ref a0)]) C dX5_need_34 (by decide) rfl ?_
  refine s_sub [5, 4, 3, 2, 1, 0] rfl ?_
  exact X5_need_b36_s C hF hO hr hm  FU a0 x2 x5 0 x6 x8

theorem dX5_start_0 : decode cX5_start 0 = .ok (.aload_n 0, 1) := by decide +kernel
theorem dX5_start_1 : decode cX5_start 1 = .ok (.iconst 1, 1) := by decide +kernel
theorem dX5_start_2 : decode cX5_start 2 = .ok (.putfield 67, 3) := by decide +kernel
theorem dX5_start_5 : decode cX5_start 5 = .ok (.aload_n 0, 1) := by decide +kernel
theorem dX5_start_6 : decode cX5_start 6 = .ok (.aload_n 0, 1) := by decide +kernel
theorem dX5_start_7 : decode cX5_start 7 = .ok (.getfield 21, 3) := by decide +kernel
theorem dX5_start_10 : decode cX5_start 10 = .ok (.getfield 29, 3) := by decide +kernel
theorem dX5_start_13 : decode cX5_start 13 = .ok (.putfield 71, 3) := by decide +kernel
theorem dX5_start_16 : decode cX5_start 16 = .ok (.aload_n 0, 1) := by decide +kernel
theorem dX5_start_17 : decode cX5_start 17 = .ok (.iload_n 1, 1) := by decide +kernel
theorem dX5_start_18 : decode cX5_start 18 = .ok (.putfield 74, 3) := by decide +kernel
theorem dX5_start_21 : decode cX5_start 21 = .ok (.return_, 1) := by decide +kernel
def X5_start (a0 : Nat) (i1 : Int32) : M Unit := bd (pZ 8 4 a0 1) (fun _ => bd (gR 8 0 a0) (fun y1 => bd (gI 6 6 y1) (fun x2 => bd (pV 8 5 a0 (.int x2)) (fun _ => bd (pV 8 9 a0 (.int i1)) (fun _ => pu ())))))
section
variable {G : Gx} {p : Program} {l : Launch} {e : Env} {R : Room} {s : State} {m : MethodId} {args : Array Value} {below : List Frame} {meth : Method} {c : Code} {h0 : Hp} {r : Unit} {h' : Hp}
end
set_option maxRecDepth 20000 in
theorem con_X5_start (l : Launch) (G : Gx) (a0 : Nat) (i1 : Int32) : Con G rvU l yX5_start cX5_start 2 none 0 0 [.ref a0, .int i1] (X5_start a0 i1) := by
  refine con_of (lv := [(0, .ref a0), (1, .int i1)]) (by decide) (Nat.le_of_ble_eq_true rfl) rfl (fun p e R s m args below meth c h0 r h' C hF hO hr hm => ?_)
  refine s_aload_n C 0 dX5_start_0 rfl rfl ?_
  refine s_iconst (v := 1) C dX5_start_1 (by decide) ?_
  refine s_pZ C ci8 4 (by decide) rfl rfl (Or.inl wd_1_141) dX5_start_2 ?_
  refine s_aload_n C 0 dX5_start_5 rfl rfl ?_
  refine s_aload_n C 0 dX5_start_6 rfl rfl ?_
  refine s_gR C ci8 0 (by decide) (Or.inl wd_1_137) dX5_start_7 (fun y1 => ?_)
  refine s_gI C ci6 6 (by decide) (Or.inr (Or.inr ⟨_, wd_1_96⟩)) dX5_start_10 (fun x2 => ?_)
  refine s_pV C ci8 5 (by decide) rfl (Or.inl wd_1_143) dX5_start_13 rfl rfl ?_
  refine s_aload_n C 0 dX5_start_16 rfl rfl ?_
  refine s_iload_n C 1 dX5_start_17 rfl rfl ?_
  refine s_pV C ci8 9 (by decide) rfl (Or.inl wd_1_148) dX5_start_18 rfl rfl ?_
  exact s_vret C hr rfl dX5_start_21

theorem dX5_stop_0 : decode cX5_stop 0 = .ok (.aload_n 0, 1) := by decide +kernel
theorem dX5_stop_1 : decode cX5_stop 1 = .ok (.iconst 0, 1) := by decide +kernel
theorem dX5_stop_2 : decode cX5_stop 2 = .ok (.putfield 67, 3) := by decide +kernel
theorem dX5_stop_5 : decode cX5_stop 5 = .ok (.aload_n 0, 1) := by decide +kernel
theorem dX5_stop_6 : decode cX5_stop 6 = .ok (.iconst 0, 1) := by decide +kernel
theorem dX5_stop_7 : decode cX5_stop 7 = .ok (.putfield 71, 3) := by decide +kernel
theorem dX5_stop_10 : decode cX5_stop 10 = .ok (.aload_n 0, 1) := by decide +kernel
theorem dX5_stop_11 : decode cX5_stop 11 = .ok (.iconst (-1), 1) := by decide +kernel
theorem dX5_stop_12 : decode cX5_stop 12 = .ok (.putfield 77, 3) := by decide +kernel
theorem dX5_stop_15 : decode cX5_stop 15 = .ok (.aload_n 0, 1) := by decide +kernel
theorem dX5_stop_16 : decode cX5_stop 16 = .ok (.iconst (-1), 1) := by decide +kernel
theorem dX5_stop_17 : decode cX5_stop 17 = .ok (.putfield 80, 3) := by decide +kernel
theorem dX5_stop_20 : decode cX5_stop 20 = .ok (.aload_n 0, 1) := by decide +kernel
theorem dX5_stop_21 : decode cX5_stop 21 = .ok (.iconst 0, 1) := by decide +kernel
theorem dX5_stop_22 : decode cX5_stop 22 = .ok (.putfield 74, 3) := by decide +kernel
theorem dX5_stop_25 : decode cX5_stop 25 = .ok (.return_, 1) := by decide +kernel
def X5_stop (a0 : Nat) : M Unit := bd (pZ 8 4 a0 0) (fun _ => bd (pV 8 5 a0 (.int 0)) (fun _ => bd (pV 8 6 a0 (.int (-1))) (fun _ => bd (pV 8 7 a0 (.int (-1))) (fun _ => bd (pV 8 9 a0 (.int 0)) (fun _ => pu ())))))
section
variable {G : Gx} {p : Program} {l : Launch} {e : Env} {R : Room} {s : State} {m : MethodId} {args : Array Value} {below : List Frame} {meth : Method} {c : Code} {h0 : Hp} {r : Unit} {h' : Hp}
end
set_option maxRecDepth 20000 in
theorem con_X5_stop (l : Launch) (G : Gx) (a0 : Nat) : Con G rvU l yX5_stop cX5_stop 1 none 0 0 [.ref a0] (X5_stop a0) := by
  refine con_of (lv := [(0, .ref a0)]) (by decide) (Nat.le_of_ble_eq_true rfl) rfl (fun p e R s m args below meth c h0 r h' C hF hO hr hm => ?_)
  refine s_aload_n C 0 dX5_stop_0 rfl rfl ?_
  refine s_iconst (v := 0) C dX5_stop_1 (by decide) ?_
  refine s_pZ C ci8 4 (by decide) rfl rfl (Or.inl wd_1_141) dX5_stop_2 ?_
  refine s_aload_n C 0 dX5_stop_5 rfl rfl ?_
  refine s_iconst (v := 0) C dX5_stop_6 (by decide) ?_
  refine s_pV C ci8 5 (by decide) rfl (Or.inl wd_1_143) dX5_stop_7 rfl rfl ?_
  refine s_aload_n C 0 dX5_stop_10 rfl rfl ?_
  refine s_iconst (v := (-1)) C dX5_stop_11 (by decide) ?_
  refine s_pV C ci8 6 (by decide) rfl (Or.inl wd_1_144) dX5_stop_12 rfl rfl ?_
  refine s_aload_n C 0 dX5_stop_15 rfl rfl ?_
  refine s_iconst (v := (-1)) C dX5_stop_16 (by decide) ?_
  refine s_pV C ci8 7 (by decide) rfl (Or.inl wd_1_146) dX5_stop_17 rfl rfl ?_
  refine s_aload_n C 0 dX5_stop_20 rfl rfl ?_
  refine s_iconst (v := 0) C dX5_stop_21 (by decide) ?_
  refine s_pV C ci8 9 (by decide) rfl (Or.inl wd_1_148) dX5_stop_22 rfl rfl ?_
  exact s_vret C hr rfl dX5_stop_25

theorem dX5_unitsLeft_0 : decode cX5_unitsLeft 0 = .ok (.aload_n 0, 1) := by decide +kernel
theorem dX5_unitsLeft_1 : decode cX5_unitsLeft 1 = .ok (.getfield 67, 3) := by decide +kernel
theorem dX5_unitsLeft_4 : decode cX5_unitsLeft 4 = .ok (.ifCond .ne 5, 3) := by decide +kernel
theorem dX5_unitsLeft_7 : decode cX5_unitsLeft 7 = .ok (.iconst 0, 1) := by decide +kernel
theorem dX5_unitsLeft_8 : decode cX5_unitsLeft 8 = .ok (.ireturn, 1) := by decide +kernel
theorem dX5_unitsLeft_9 : decode cX5_unitsLeft 9 = .ok (.aload_n 0, 1) := by decide +kernel
theorem dX5_unitsLeft_10 : decode cX5_unitsLeft 10 = .ok (.getfield 21, 3) := by decide +kernel
theorem dX5_unitsLeft_13 : decode cX5_unitsLeft 13 = .ok (.aload_n 0, 1) := by decide +kernel
theorem dX5_unitsLeft_14 : decode cX5_unitsLeft 14 = .ok (.getfield 71, 3) := by decide +kernel
theorem dX5_unitsLeft_17 : decode cX5_unitsLeft 17 = .ok (.invokevirtual 35, 3) := by decide +kernel
theorem dX5_unitsLeft_20 : decode cX5_unitsLeft 20 = .ok (.iconst 1, 1) := by decide +kernel
theorem dX5_unitsLeft_21 : decode cX5_unitsLeft 21 = .ok (.iadd, 1) := by decide +kernel
theorem dX5_unitsLeft_22 : decode cX5_unitsLeft 22 = .ok (.istore_n 1, 1) := by decide +kernel
theorem dX5_unitsLeft_23 : decode cX5_unitsLeft 23 = .ok (.aload_n 0, 1) := by decide +kernel
theorem dX5_unitsLeft_24 : decode cX5_unitsLeft 24 = .ok (.getfield 80, 3) := by decide +kernel
theorem dX5_unitsLeft_27 : decode cX5_unitsLeft 27 = .ok (.iconst (-1), 1) := by decide +kernel
theorem dX5_unitsLeft_28 : decode cX5_unitsLeft 28 = .ok (.if_icmp .ne 21, 3) := by decide +kernel
theorem dX5_unitsLeft_31 : decode cX5_unitsLeft 31 = .ok (.aload_n 0, 1) := by decide +kernel
theorem dX5_unitsLeft_32 : decode cX5_unitsLeft 32 = .ok (.getfield 25, 3) := by decide +kernel
theorem dX5_unitsLeft_35 : decode cX5_unitsLeft 35 = .ok (.aload_n 0, 1) := by decide +kernel
theorem dX5_unitsLeft_36 : decode cX5_unitsLeft 36 = .ok (.getfield 71, 3) := by decide +kernel
theorem dX5_unitsLeft_39 : decode cX5_unitsLeft 39 = .ok (.invokevirtual 83, 3) := by decide +kernel
theorem dX5_unitsLeft_42 : decode cX5_unitsLeft 42 = .ok (.iconst 1, 1) := by decide +kernel
theorem dX5_unitsLeft_43 : decode cX5_unitsLeft 43 = .ok (.iadd, 1) := by decide +kernel
theorem dX5_unitsLeft_44 : decode cX5_unitsLeft 44 = .ok (.iload_n 1, 1) := by decide +kernel
theorem dX5_unitsLeft_45 : decode cX5_unitsLeft 45 = .ok (.iadd, 1) := by decide +kernel
theorem dX5_unitsLeft_46 : decode cX5_unitsLeft 46 = .ok (.goto 4, 3) := by decide +kernel
theorem dX5_unitsLeft_49 : decode cX5_unitsLeft 49 = .ok (.iload_n 1, 1) := by decide +kernel
theorem dX5_unitsLeft_50 : decode cX5_unitsLeft 50 = .ok (.ireturn, 1) := by decide +kernel
def X5_unitsLeft (a0 : Nat) : M Int32 := bd (gI 8 4 a0) (fun x1 => it (¬ x1 = 0) (bd (gR 8 0 a0) (fun y2 => bd (gI 8 5 a0) (fun x3 => bd (ck 6 y2) (fun _ => bd (X3_countData y2 x3) (fun x4 => bd (pu (x4 + 1)) (fun x5 => bd (gI 8 7 a0) (fun x6 => it (¬ x6 = (-1)) (pu x5) (bd (gR 8 1 a0) (fun y7 => bd (gI 8 5 a0) (fun x8 => bd (ck 5 y7) (fun _ => bd (X2_countBelow y7 x8) (fun x9 => pu ((x9 + 1) + x5))))))))))))) (pu 0))
section
variable {G : Gx} {p : Program} {l : Launch} {e : Env} {R : Room} {s : State} {m : MethodId} {args : Array Value} {below : List Frame} {meth : Method} {c : Code} {h0 : Hp} {r : Int32} {h' : Hp}
end
set_option maxRecDepth 20000 in
theorem con_X5_unitsLeft (l : Launch) (G : Gx) (a0 : Nat) : Con G rvI l yX5_unitsLeft cX5_unitsLeft 2 (some .int) 4 88 [.ref a0] (X5_unitsLeft a0) := by
  refine con_of (lv := [(0, .ref a0)]) (by decide) (Nat.le_of_ble_eq_true rfl) rfl (fun p e R s m args below meth c h0 r h' C hF hO hr hm => ?_)
  refine s_aload_n C 0 dX5_unitsLeft_0 rfl rfl ?_
  refine s_gI C ci8 4 (by decide) (Or.inl wd_1_141) dX5_unitsLeft_1 (fun x1 => ?_)
  refine s_if_ne (tgt := 9) C dX5_unitsLeft_4 (by decide) ?_ ?_
  · refine s_aload_n C 0 dX5_unitsLeft_9 rfl rfl ?_
    refine s_gR C ci8 0 (by decide) (Or.inl wd_1_137) dX5_unitsLeft_10 (fun y2 => ?_)
    refine s_aload_n C 0 dX5_unitsLeft_13 rfl rfl ?_
    refine s_gI C ci8 5 (by decide) (Or.inl wd_1_143) dX5_unitsLeft_14 (fun x3 => ?_)
    refine s_invV_i C ci6 cy_X3_countData (Or.inl wd_2_196) rfl wd_2_197 wd_2_198 (con_X3_countData l G y2 x3) rfl rfl (Nat.le_of_ble_eq_true rfl) (by rw [hF]; decide) (by rw [hO]; exact Nat.le_of_ble_eq_true rfl) dX5_unitsLeft_17 (fun x4 => ?_)
    refine s_iconst (v := 1) C dX5_unitsLeft_20 (by decide) ?_
    refine s_iadd C dX5_unitsLeft_21 ?_
    refine s_let (fun x5 => ?_)
    refine s_istore_n (lv' := [(1, .int x5), (0, .ref a0)]) C dX5_unitsLeft_22 rfl (by decide) rfl ?_
    refine s_aload_n C 1 dX5_unitsLeft_23 rfl rfl ?_
    refine s_gI C ci8 7 (by decide) (Or.inl wd_1_146) dX5_unitsLeft_24 (fun x6 => ?_)
    refine s_iconst (v := (-1)) C dX5_unitsLeft_27 (by decide) ?_
    refine s_icmp_ne (tgt := 49) C dX5_unitsLeft_28 (by decide) ?_ ?_
    · refine s_iload_n C 0 dX5_unitsLeft_49 rfl rfl ?_
      exact s_iret C hr rfl dX5_unitsLeft_50
    refine s_aload_n C 1 dX5_unitsLeft_31 rfl rfl ?_
    refine s_gR C ci8 1 (by decide) (Or.inl wd_1_138) dX5_unitsLeft_32 (fun y7 => ?_)
    refine s_aload_n C 1 dX5_unitsLeft_35 rfl rfl ?_
    refine s_gI C ci8 5 (by decide) (Or.inl wd_1_143) dX5_unitsLeft_36 (fun x8 => ?_)
    refine s_invV_i C ci5 cy_X2_countBelow (Or.inl wd_2_200) rfl wd_2_201 wd_2_202 (con_X2_countBelow l G y7 x8) rfl rfl (Nat.le_of_ble_eq_true rfl) (by rw [hF]; decide) (by rw [hO]; exact Nat.le_of_ble_eq_true rfl) dX5_unitsLeft_39 (fun x9 => ?_)
    refine s_iconst (v := 1) C dX5_unitsLeft_42 (by decide) ?_
    refine s_iadd C dX5_unitsLeft_43 ?_
    refine s_iload_n C 0 dX5_unitsLeft_44 rfl rfl ?_
    refine s_iadd C dX5_unitsLeft_45 ?_
    refine s_goto (tgt := 50) C dX5_unitsLeft_46 (by decide) ?_
    exact s_iret C hr rfl dX5_unitsLeft_50
  refine s_iconst (v := 0) C dX5_unitsLeft_7 (by decide) ?_
  exact s_iret C hr rfl dX5_unitsLeft_8

theorem dX5_removeNext_0 : decode cX5_removeNext 0 = .ok (.aload_n 0, 1) := by decide +kernel
theorem dX5_removeNext_1 : decode cX5_removeNext 1 = .ok (.getfield 21, 3) := by decide +kernel
theorem dX5_removeNext_4 : decode cX5_removeNext 4 = .ok (.iconst 0, 1) := by decide +kernel
theorem dX5_removeNext_5 : decode cX5_removeNext 5 = .ok (.invokevirtual 173, 3) := by decide +kernel
theorem dX5_removeNext_8 : decode cX5_removeNext 8 = .ok (.astore_n 1, 1) := by decide +kernel
theorem dX5_removeNext_9 : decode cX5_removeNext 9 = .ok (.aload_n 1, 1) := by decide +kernel
theorem dX5_removeNext_10 : decode cX5_removeNext 10 = .ok (.ifnull 14, 3) := by decide +kernel
theorem dX5_removeNext_13 : decode cX5_removeNext 13 = .ok (.aload_n 1, 1) := by decide +kernel
theorem dX5_removeNext_14 : decode cX5_removeNext 14 = .ok (.getfield 169, 3) := by decide +kernel
theorem dX5_removeNext_17 : decode cX5_removeNext 17 = .ok (.aload_n 0, 1) := by decide +kernel
theorem dX5_removeNext_18 : decode cX5_removeNext 18 = .ok (.getfield 71, 3) := by decide +kernel
theorem dX5_removeNext_21 : decode cX5_removeNext 21 = .ok (.if_icmp .lt 21, 3) := by decide +kernel
theorem dX5_removeNext_24 : decode cX5_removeNext 24 = .ok (.aload_n 0, 1) := by decide +kernel
theorem dX5_removeNext_25 : decode cX5_removeNext 25 = .ok (.getfield 21, 3) := by decide +kernel
theorem dX5_removeNext_28 : decode cX5_removeNext 28 = .ok (.aload_n 0, 1) := by decide +kernel
theorem dX5_removeNext_29 : decode cX5_removeNext 29 = .ok (.getfield 80, 3) := by decide +kernel
theorem dX5_removeNext_32 : decode cX5_removeNext 32 = .ok (.iconst 2, 1) := by decide +kernel
theorem dX5_removeNext_33 : decode cX5_removeNext 33 = .ok (.invokevirtual 176, 3) := by decide +kernel
theorem dX5_removeNext_36 : decode cX5_removeNext 36 = .ok (.pop, 1) := by decide +kernel
theorem dX5_removeNext_37 : decode cX5_removeNext 37 = .ok (.aload_n 0, 1) := by decide +kernel
theorem dX5_removeNext_38 : decode cX5_removeNext 38 = .ok (.invokevirtual 180, 3) := by decide +kernel
theorem dX5_removeNext_41 : decode cX5_removeNext 41 = .ok (.return_, 1) := by decide +kernel
theorem dX5_removeNext_42 : decode cX5_removeNext 42 = .ok (.aload_n 1, 1) := by decide +kernel
theorem dX5_removeNext_43 : decode cX5_removeNext 43 = .ok (.getfield 169, 3) := by decide +kernel
theorem dX5_removeNext_46 : decode cX5_removeNext 46 = .ok (.istore_n 2, 1) := by decide +kernel
theorem dX5_removeNext_47 : decode cX5_removeNext 47 = .ok (.aload_n 0, 1) := by decide +kernel
theorem dX5_removeNext_48 : decode cX5_removeNext 48 = .ok (.getfield 21, 3) := by decide +kernel
theorem dX5_removeNext_51 : decode cX5_removeNext 51 = .ok (.iload_n 2, 1) := by decide +kernel
theorem dX5_removeNext_52 : decode cX5_removeNext 52 = .ok (.iconst 0, 1) := by decide +kernel
theorem dX5_removeNext_53 : decode cX5_removeNext 53 = .ok (.invokevirtual 176, 3) := by decide +kernel
theorem dX5_removeNext_56 : decode cX5_removeNext 56 = .ok (.pop, 1) := by decide +kernel
theorem dX5_removeNext_57 : decode cX5_removeNext 57 = .ok (.aload_n 0, 1) := by decide +kernel
theorem dX5_removeNext_58 : decode cX5_removeNext 58 = .ok (.getfield 21, 3) := by decide +kernel
theorem dX5_removeNext_61 : decode cX5_removeNext 61 = .ok (.iload_n 2, 1) := by decide +kernel
theorem dX5_removeNext_62 : decode cX5_removeNext 62 = .ok (.iconst 1, 1) := by decide +kernel
theorem dX5_removeNext_63 : decode cX5_removeNext 63 = .ok (.invokevirtual 176, 3) := by decide +kernel
theorem dX5_removeNext_66 : decode cX5_removeNext 66 = .ok (.pop, 1) := by decide +kernel
theorem dX5_removeNext_67 : decode cX5_removeNext 67 = .ok (.return_, 1) := by decide +kernel
def X5_removeNext_b24   (a0 : Nat) : M Unit := bd (gR 8 0 a0) (fun y1 => bd (gI 8 7 a0) (fun x2 => bd (ck 6 y1) (fun _ => bd (X3_discard y1 x2 2) (fun x3 => bd (ck 8 a0) (fun _ => bd (X5_stop a0) (fun _ => pu ()))))))
def X5_removeNext (a0 : Nat) : M Unit := bd (gR 8 0 a0) (fun y1 => bd (ck 6 y1) (fun _ => bd (X3_firstOf y1 0) (fun z2 => co z2 (X5_removeNext_b24   a0) (fun y3 => bd (gI 7 1 y3) (fun x4 => bd (gI 8 5 a0) (fun x5 => it (x4 < x5) (bd (gI 7 1 y3) (fun x6 => bd (gR 8 0 a0) (fun y7 => bd (ck 6 y7) (fun _ => bd (X3_discard y7 x6 0) (fun x8 => bd (gR 8 0 a0) (fun y9 => bd (ck 6 y9) (fun _ => bd (X3_discard y9 x6 1) (fun x10 => pu ())))))))) (X5_removeNext_b24   a0)))))))
section
variable {G : Gx} {p : Program} {l : Launch} {e : Env} {R : Room} {s : State} {m : MethodId} {args : Array Value} {below : List Frame} {meth : Method} {c : Code} {h0 : Hp} {r : Unit} {h' : Hp}
set_option maxRecDepth 20000 in
theorem X5_removeNext_b24_s (C : Cx G p R s m args meth c cX5_removeNext 3 yX5_removeNext.cls h0 h') (hF : R.frames = 9) (hO : R.locals = 276) (hr : meth.sig.returnType = none) (hm : meth.name = yX5_removeNext.name)   (a0 : Nat) : Sm G (QM G rvU below args s h0 r h') p l e R s m args below meth c 3 h0 r h' 24 [(0, .ref a0)] [] (X5_removeNext_b24   a0) := by
  refine s_aload_n C 0 dX5_removeNext_24 rfl rfl ?_
  refine s_gR C ci8 0 (by decide) (Or.inl wd_1_137) dX5_removeNext_25 (fun y1 => ?_)
  refine s_aload_n C 0 dX5_removeNext_28 rfl rfl ?_
  refine s_gI C ci8 7 (by decide) (Or.inl wd_1_146) dX5_removeNext_29 (fun x2 => ?_)
  refine s_iconst (v := 2) C dX5_removeNext_32 (by decide) ?_
  refine s_invV_i C ci6 cy_X3_discard (Or.inl wd_6_54) rfl wd_5_193 wd_5_194 (con_X3_discard l G y1 x2 2) rfl rfl (Nat.le_of_ble_eq_true rfl) (by rw [hF]; decide) (by rw [hO]; exact Nat.le_of_ble_eq_true rfl) dX5_removeNext_33 (fun x3 => ?_)
  refine s_pop C dX5_removeNext_36 rfl ?_
  refine s_aload_n C 0 dX5_removeNext_37 rfl rfl ?_
  refine s_invV_u C ci8 cy_X5_stop (Or.inl wd_6_55) rfl wd_2_85 wd_2_86 (con_X5_stop l G a0) rfl rfl (Nat.le_of_ble_eq_true rfl) (by rw [hF]; decide) (by rw [hO]; exact Nat.le_of_ble_eq_true rfl) dX5_removeNext_38 ?_
  exact s_vret C hr rfl dX5_removeNext_41
end
set_option maxRecDepth 20000 in
theorem con_X5_removeNext (l : Launch) (G : Gx) (a0 : Nat) : Con G rvU l yX5_removeNext cX5_removeNext 3 none 9 276 [.ref a0] (X5_removeNext a0) := by
  refine con_of (lv := [(0, .ref a0)]) (by decide) (Nat.le_of_ble_eq_true rfl) rfl (fun p e R s m args below meth c h0 r h' C hF hO hr hm => ?_)
  refine s_aload_n C 0 dX5_removeNext_0 rfl rfl ?_
  refine s_gR C ci8 0 (by decide) (Or.inl wd_1_137) dX5_removeNext_1 (fun y1 => ?_)
  refine s_iconst (v := 0) C dX5_removeNext_4 (by decide) ?_
  refine s_invV_o C ci6 cy_X3_firstOf (Or.inl wd_6_53) rfl wd_5_173 wd_5_174 (con_X3_firstOf l G y1 0) rfl rfl (Nat.le_of_ble_eq_true rfl) (by rw [hF]; decide) (by rw [hO]; exact Nat.le_of_ble_eq_true rfl) dX5_removeNext_5 (fun z2 => ?_)
  refine s_ostore_n (lv' := [(1, va_rf z2), (0, .ref a0)]) C dX5_removeNext_8 rfl (by decide) rfl ?_
  refine s_oload_n C 0 dX5_removeNext_9 rfl rfl ?_
  refine s_ifnull (tgt := 24) C dX5_removeNext_10 (by decide) (fun hq => ?_) (fun y3 hq => ?_)
  · subst hq
    refine s_sub [1] rfl ?_
    exact X5_removeNext_b24_s C hF hO hr hm   a0
  subst hq
  refine s_aload_n C 0 dX5_removeNext_13 rfl rfl ?_
  refine s_gI C ci7 1 (by decide) (Or.inr (Or.inr ⟨_, wd_3_220⟩)) dX5_removeNext_14 (fun x4 => ?_)
  refine s_aload_n C 1 dX5_removeNext_17 rfl rfl ?_
  refine s_gI C ci8 5 (by decide) (Or.inl wd_1_143) dX5_removeNext_18 (fun x5 => ?_)
  refine s_icmp_lt (tgt := 42) C dX5_removeNext_21 (by decide) ?_ ?_
  · refine s_aload_n C 0 dX5_removeNext_42 rfl rfl ?_
    refine s_gI C ci7 1 (by decide) (Or.inr (Or.inr ⟨_, wd_3_220⟩)) dX5_removeNext_43 (fun x6 => ?_)
    refine s_istore_n (lv' := [(2, .int x6), (1, .ref y3), (0, .ref a0)]) C dX5_removeNext_46 rfl (by decide) rfl ?_
    refine s_aload_n C 2 dX5_removeNext_47 rfl rfl ?_
    refine s_gR C ci8 0 (by decide) (Or.inl wd_1_137) dX5_removeNext_48 (fun y7 => ?_)
    refine s_iload_n C 0 dX5_removeNext_51 rfl rfl ?_
    refine s_iconst (v := 0) C dX5_removeNext_52 (by decide) ?_
    refine s_invV_i C ci6 cy_X3_discard (Or.inl wd_6_54) rfl wd_5_193 wd_5_194 (con_X3_discard l G y7 x6 0) rfl rfl (Nat.le_of_ble_eq_true rfl) (by rw [hF]; decide) (by rw [hO]; exact Nat.le_of_ble_eq_true rfl) dX5_removeNext_53 (fun x8 => ?_)
    refine s_pop C dX5_removeNext_56 rfl ?_
    refine s_aload_n C 2 dX5_removeNext_57 rfl rfl ?_
    refine s_gR C ci8 0 (by decide) (Or.inl wd_1_137) dX5_removeNext_58 (fun y9 => ?_)
    refine s_iload_n C 0 dX5_removeNext_61 rfl rfl ?_
    refine s_iconst (v := 1) C dX5_removeNext_62 (by decide) ?_
    refine s_invV_i C ci6 cy_X3_discard (Or.inl wd_6_54) rfl wd_5_193 wd_5_194 (con_X3_discard l G y9 x6 1) rfl rfl (Nat.le_of_ble_eq_true rfl) (by rw [hF]; decide) (by rw [hO]; exact Nat.le_of_ble_eq_true rfl) dX5_removeNext_63 (fun x10 => ?_)
    refine s_pop C dX5_removeNext_66 rfl ?_
    exact s_vret C hr rfl dX5_removeNext_67
  refine s_sub [1] rfl ?_
  exact X5_removeNext_b24_s C hF hO hr hm   a0

theorem dX5_writeHint_0 : decode cX5_writeHint 0 = .ok (.aload_n 0, 1) := by decide +kernel
theorem dX5_writeHint_1 : decode cX5_writeHint 1 = .ok (.getfield 77, 3) := by decide +kernel
theorem dX5_writeHint_4 : decode cX5_writeHint 4 = .ok (.iconst (-1), 1) := by decide +kernel
theorem dX5_writeHint_5 : decode cX5_writeHint 5 = .ok (.if_icmp .ne 4, 3) := by decide +kernel
theorem dX5_writeHint_8 : decode cX5_writeHint 8 = .ok (.return_, 1) := by decide +kernel
theorem dX5_writeHint_9 : decode cX5_writeHint 9 = .ok (.aload_n 0, 1) := by decide +kernel
theorem dX5_writeHint_10 : decode cX5_writeHint 10 = .ok (.getfield 12, 3) := by decide +kernel
theorem dX5_writeHint_13 : decode cX5_writeHint 13 = .ok (.iconst 0, 1) := by decide +kernel
theorem dX5_writeHint_14 : decode cX5_writeHint 14 = .ok (.aload_n 0, 1) := by decide +kernel
theorem dX5_writeHint_15 : decode cX5_writeHint 15 = .ok (.getfield 137, 3) := by decide +kernel
theorem dX5_writeHint_18 : decode cX5_writeHint 18 = .ok (.invokevirtual 154, 3) := by decide +kernel
theorem dX5_writeHint_21 : decode cX5_writeHint 21 = .ok (.aload_n 0, 1) := by decide +kernel
theorem dX5_writeHint_22 : decode cX5_writeHint 22 = .ok (.getfield 12, 3) := by decide +kernel
theorem dX5_writeHint_25 : decode cX5_writeHint 25 = .ok (.aload_n 0, 1) := by decide +kernel
theorem dX5_writeHint_26 : decode cX5_writeHint 26 = .ok (.getfield 12, 3) := by decide +kernel
theorem dX5_writeHint_29 : decode cX5_writeHint 29 = .ok (.iconst 0, 1) := by decide +kernel
theorem dX5_writeHint_30 : decode cX5_writeHint 30 = .ok (.aload_n 0, 1) := by decide +kernel
theorem dX5_writeHint_31 : decode cX5_writeHint 31 = .ok (.getfield 12, 3) := by decide +kernel
theorem dX5_writeHint_34 : decode cX5_writeHint 34 = .ok (.invokevirtual 64, 3) := by decide +kernel
theorem dX5_writeHint_37 : decode cX5_writeHint 37 = .ok (.invokevirtual 158, 3) := by decide +kernel
theorem dX5_writeHint_40 : decode cX5_writeHint 40 = .ok (.invokevirtual 143, 3) := by decide +kernel
theorem dX5_writeHint_43 : decode cX5_writeHint 43 = .ok (.aload_n 0, 1) := by decide +kernel
theorem dX5_writeHint_44 : decode cX5_writeHint 44 = .ok (.getfield 21, 3) := by decide +kernel
theorem dX5_writeHint_47 : decode cX5_writeHint 47 = .ok (.aload_n 0, 1) := by decide +kernel
theorem dX5_writeHint_48 : decode cX5_writeHint 48 = .ok (.getfield 77, 3) := by decide +kernel
theorem dX5_writeHint_51 : decode cX5_writeHint 51 = .ok (.iconst 1, 1) := by decide +kernel
theorem dX5_writeHint_52 : decode cX5_writeHint 52 = .ok (.aload_n 0, 1) := by decide +kernel
theorem dX5_writeHint_53 : decode cX5_writeHint 53 = .ok (.getfield 12, 3) := by decide +kernel
theorem dX5_writeHint_56 : decode cX5_writeHint 56 = .ok (.iconst 0, 1) := by decide +kernel
theorem dX5_writeHint_57 : decode cX5_writeHint 57 = .ok (.aload_n 0, 1) := by decide +kernel
theorem dX5_writeHint_58 : decode cX5_writeHint 58 = .ok (.getfield 12, 3) := by decide +kernel
theorem dX5_writeHint_61 : decode cX5_writeHint 61 = .ok (.invokevirtual 64, 3) := by decide +kernel
theorem dX5_writeHint_64 : decode cX5_writeHint 64 = .ok (.invokevirtual 120, 3) := by decide +kernel
theorem dX5_writeHint_67 : decode cX5_writeHint 67 = .ok (.aload_n 0, 1) := by decide +kernel
theorem dX5_writeHint_68 : decode cX5_writeHint 68 = .ok (.dup, 1) := by decide +kernel
theorem dX5_writeHint_69 : decode cX5_writeHint 69 = .ok (.getfield 74, 3) := by decide +kernel
theorem dX5_writeHint_72 : decode cX5_writeHint 72 = .ok (.aload_n 0, 1) := by decide +kernel
theorem dX5_writeHint_73 : decode cX5_writeHint 73 = .ok (.getfield 12, 3) := by decide +kernel
theorem dX5_writeHint_76 : decode cX5_writeHint 76 = .ok (.invokevirtual 64, 3) := by decide +kernel
theorem dX5_writeHint_79 : decode cX5_writeHint 79 = .ok (.isub, 1) := by decide +kernel
theorem dX5_writeHint_80 : decode cX5_writeHint 80 = .ok (.putfield 74, 3) := by decide +kernel
theorem dX5_writeHint_83 : decode cX5_writeHint 83 = .ok (.return_, 1) := by decide +kernel
def X5_writeHint (a0 : Nat) : M Unit := bd (gI 8 6 a0) (fun x1 => it (¬ x1 = (-1)) (bd (gR 8 2 a0) (fun y2 => bd (gI 8 8 a0) (fun x3 => bd (ck 4 y2) (fun _ => bd (X1_changeNumber y2 0 x3) (fun _ => bd (gR 8 2 a0) (fun y4 => bd (gR 8 2 a0) (fun y5 => bd (gR 8 2 a0) (fun y6 => bd (ck 4 y6) (fun _ => bd (X1_size y6) (fun x7 => bd (ck 4 y5) (fun _ => bd (X1_sum y5 0 x7) (fun x8 => bd (ck 4 y4) (fun _ => bd (X1_addNumber y4 x8) (fun _ => bd (gR 8 0 a0) (fun y9 => bd (gI 8 6 a0) (fun x10 => bd (gR 8 2 a0) (fun y11 => bd (gR 8 2 a0) (fun y12 => bd (ck 4 y12) (fun _ => bd (X1_size y12) (fun x13 => bd (ck 6 y9) (fun _ => bd (X3_append y9 x10 1 y11 0 x13) (fun _ => bd (gI 8 9 a0) (fun x14 => bd (gR 8 2 a0) (fun y15 => bd (ck 4 y15) (fun _ => bd (X1_size y15) (fun x16 => bd (pV 8 9 a0 (.int (x14 - x16))) (fun _ => pu ()))))))))))))))))))))))))))) (pu ()))
section
variable {G : Gx} {p : Program} {l : Launch} {e : Env} {R : Room} {s : State} {m : MethodId} {args : Array Value} {below : List Frame} {meth : Method} {c : Code} {h0 : Hp} {r : Unit} {h' : Hp}
end
set_option maxRecDepth 20000 in
theorem con_X5_writeHint (l : Launch) (G : Gx) (a0 : Nat) : Con G rvU l yX5_writeHint cX5_writeHint 1 none 9 282 [.ref a0] (X5_writeHint a0) := by
  refine con_of (lv := [(0, .ref a0)]) (by decide) (Nat.le_of_ble_eq_true rfl) rfl (fun p e R s m args below meth c h0 r h' C hF hO hr hm => ?_)
  refine s_aload_n C 0 dX5_writeHint_0 rfl rfl ?_
  refine s_gI C ci8 6 (by decide) (Or.inl wd_1_144) dX5_writeHint_1 (fun x1 => ?_)
  refine s_iconst (v := (-1)) C dX5_writeHint_4 (by decide) ?_
  refine s_icmp_ne (tgt := 9) C dX5_writeHint_5 (by decide) ?_ ?_
  · refine s_aload_n C 0 dX5_writeHint_9 rfl rfl ?_
    refine s_gR C ci8 2 (by decide) (Or.inl wd_1_139) dX5_writeHint_10 (fun y2 => ?_)
    refine s_iconst (v := 0) C dX5_writeHint_13 (by decide) ?_
    refine s_aload_n C 0 dX5_writeHint_14 rfl rfl ?_
    refine s_gI C ci8 8 (by decide) (Or.inl wd_1_147) dX5_writeHint_15 (fun x3 => ?_)
    refine s_invV_u C ci4 cy_X1_changeNumber (Or.inl wd_6_65) rfl wd_3_164 wd_3_165 (con_X1_changeNumber l G y2 0 x3) rfl rfl (Nat.le_of_ble_eq_true rfl) (by rw [hF]; decide) (by rw [hO]; exact Nat.le_of_ble_eq_true rfl) dX5_writeHint_18 ?_
    refine s_aload_n C 0 dX5_writeHint_21 rfl rfl ?_
    refine s_gR C ci8 2 (by decide) (Or.inl wd_1_139) dX5_writeHint_22 (fun y4 => ?_)
    refine s_aload_n C 0 dX5_writeHint_25 rfl rfl ?_
    refine s_gR C ci8 2 (by decide) (Or.inl wd_1_139) dX5_writeHint_26 (fun y5 => ?_)
    refine s_iconst (v := 0) C dX5_writeHint_29 (by decide) ?_
    refine s_aload_n C 0 dX5_writeHint_30 rfl rfl ?_
    refine s_gR C ci8 2 (by decide) (Or.inl wd_1_139) dX5_writeHint_31 (fun y6 => ?_)
    refine s_invV_i C ci4 cy_X1_size (Or.inl wd_6_29) rfl wd_2_147 wd_2_148 (con_X1_size l G y6) rfl rfl (Nat.le_of_ble_eq_true rfl) (by rw [hF]; decide) (by rw [hO]; exact Nat.le_of_ble_eq_true rfl) dX5_writeHint_34 (fun x7 => ?_)
    refine s_invV_i C ci4 cy_X1_sum (Or.inl wd_6_66) rfl wd_3_157 wd_3_158 (con_X1_sum l G y5 0 x7) rfl rfl (Nat.le_of_ble_eq_true rfl) (by rw [hF]; decide) (by rw [hO]; exact Nat.le_of_ble_eq_true rfl) dX5_writeHint_37 (fun x8 => ?_)
    refine s_invV_u C ci4 cy_X1_addNumber (Or.inl wd_6_67) rfl wd_3_148 wd_3_149 (con_X1_addNumber l G y4 x8) rfl rfl (Nat.le_of_ble_eq_true rfl) (by rw [hF]; decide) (by rw [hO]; exact Nat.le_of_ble_eq_true rfl) dX5_writeHint_40 ?_
    refine s_aload_n C 0 dX5_writeHint_43 rfl rfl ?_
    refine s_gR C ci8 0 (by decide) (Or.inl wd_1_137) dX5_writeHint_44 (fun y9 => ?_)
    refine s_aload_n C 0 dX5_writeHint_47 rfl rfl ?_
    refine s_gI C ci8 6 (by decide) (Or.inl wd_1_144) dX5_writeHint_48 (fun x10 => ?_)
    refine s_iconst (v := 1) C dX5_writeHint_51 (by decide) ?_
    refine s_aload_n C 0 dX5_writeHint_52 rfl rfl ?_
    refine s_gR C ci8 2 (by decide) (Or.inl wd_1_139) dX5_writeHint_53 (fun y11 => ?_)
    refine s_iconst (v := 0) C dX5_writeHint_56 (by decide) ?_
    refine s_aload_n C 0 dX5_writeHint_57 rfl rfl ?_
    refine s_gR C ci8 2 (by decide) (Or.inl wd_1_139) dX5_writeHint_58 (fun y12 => ?_)
    refine s_invV_i C ci4 cy_X1_size (Or.inl wd_6_29) rfl wd_2_147 wd_2_148 (con_X1_size l G y12) rfl rfl (Nat.le_of_ble_eq_true rfl) (by rw [hF]; decide) (by rw [hO]; exact Nat.le_of_ble_eq_true rfl) dX5_writeHint_61 (fun x13 => ?_)
    refine s_invV_u C ci6 cy_X3_append (Or.inl wd_6_68) rfl wd_3_193 wd_3_194 (con_X3_append l G y9 x10 1 y11 0 x13) rfl rfl (Nat.le_of_ble_eq_true rfl) (by rw [hF]; decide) (by rw [hO]; exact Nat.le_of_ble_eq_true rfl) dX5_writeHint_64 ?_
    refine s_aload_n C 0 dX5_writeHint_67 rfl rfl ?_
    refine s_dup C dX5_writeHint_68 rfl ?_
    refine s_gI C ci8 9 (by decide) (Or.inl wd_1_148) dX5_writeHint_69 (fun x14 => ?_)
    refine s_aload_n C 0 dX5_writeHint_72 rfl rfl ?_
    refine s_gR C ci8 2 (by decide) (Or.inl wd_1_139) dX5_writeHint_73 (fun y15 => ?_)
    refine s_invV_i C ci4 cy_X1_size (Or.inl wd_6_29) rfl wd_2_147 wd_2_148 (con_X1_size l G y15) rfl rfl (Nat.le_of_ble_eq_true rfl) (by rw [hF]; decide) (by rw [hO]; exact Nat.le_of_ble_eq_true rfl) dX5_writeHint_76 (fun x16 => ?_)
    refine s_isub C dX5_writeHint_79 ?_
    refine s_pV C ci8 9 (by decide) rfl (Or.inl wd_1_148) dX5_writeHint_80 rfl rfl ?_
    exact s_vret C hr rfl dX5_writeHint_83
  exact s_vret C hr rfl dX5_writeHint_8

theorem dX5_noteForHint_0 : decode cX5_noteForHint 0 = .ok (.aload_n 1, 1) := by decide +kernel
theorem dX5_noteForHint_1 : decode cX5_noteForHint 1 = .ok (.getfield 117, 3) := by decide +kernel
theorem dX5_noteForHint_4 : decode cX5_noteForHint 4 = .ok (.ifCond .ne 23, 3) := by decide +kernel
theorem dX5_noteForHint_7 : decode cX5_noteForHint 7 = .ok (.aload_n 0, 1) := by decide +kernel
theorem dX5_noteForHint_8 : decode cX5_noteForHint 8 = .ok (.iconst 0, 1) := by decide +kernel
theorem dX5_noteForHint_9 : decode cX5_noteForHint 9 = .ok (.putfield 137, 3) := by decide +kernel
theorem dX5_noteForHint_12 : decode cX5_noteForHint 12 = .ok (.aload_n 0, 1) := by decide +kernel
theorem dX5_noteForHint_13 : decode cX5_noteForHint 13 = .ok (.getfield 12, 3) := by decide +kernel
theorem dX5_noteForHint_16 : decode cX5_noteForHint 16 = .ok (.invokevirtual 140, 3) := by decide +kernel
theorem dX5_noteForHint_19 : decode cX5_noteForHint 19 = .ok (.aload_n 0, 1) := by decide +kernel
theorem dX5_noteForHint_20 : decode cX5_noteForHint 20 = .ok (.getfield 12, 3) := by decide +kernel
theorem dX5_noteForHint_23 : decode cX5_noteForHint 23 = .ok (.iconst 0, 1) := by decide +kernel
theorem dX5_noteForHint_24 : decode cX5_noteForHint 24 = .ok (.invokevirtual 143, 3) := by decide +kernel
theorem dX5_noteForHint_27 : decode cX5_noteForHint 27 = .ok (.aload_n 0, 1) := by decide +kernel
theorem dX5_noteForHint_28 : decode cX5_noteForHint 28 = .ok (.getfield 12, 3) := by decide +kernel
theorem dX5_noteForHint_31 : decode cX5_noteForHint 31 = .ok (.aload_n 1, 1) := by decide +kernel
theorem dX5_noteForHint_32 : decode cX5_noteForHint 32 = .ok (.getfield 127, 3) := by decide +kernel
theorem dX5_noteForHint_35 : decode cX5_noteForHint 35 = .ok (.invokevirtual 143, 3) := by decide +kernel
theorem dX5_noteForHint_38 : decode cX5_noteForHint 38 = .ok (.aload_n 0, 1) := by decide +kernel
theorem dX5_noteForHint_39 : decode cX5_noteForHint 39 = .ok (.getfield 12, 3) := by decide +kernel
theorem dX5_noteForHint_42 : decode cX5_noteForHint 42 = .ok (.aload_n 1, 1) := by decide +kernel
theorem dX5_noteForHint_43 : decode cX5_noteForHint 43 = .ok (.getfield 117, 3) := by decide +kernel
theorem dX5_noteForHint_46 : decode cX5_noteForHint 46 = .ok (.invokevirtual 143, 3) := by decide +kernel
theorem dX5_noteForHint_49 : decode cX5_noteForHint 49 = .ok (.aload_n 0, 1) := by decide +kernel
theorem dX5_noteForHint_50 : decode cX5_noteForHint 50 = .ok (.getfield 12, 3) := by decide +kernel
theorem dX5_noteForHint_53 : decode cX5_noteForHint 53 = .ok (.aload_n 1, 1) := by decide +kernel
theorem dX5_noteForHint_54 : decode cX5_noteForHint 54 = .ok (.getfield 61, 3) := by decide +kernel
theorem dX5_noteForHint_57 : decode cX5_noteForHint 57 = .ok (.invokevirtual 64, 3) := by decide +kernel
theorem dX5_noteForHint_60 : decode cX5_noteForHint 60 = .ok (.invokevirtual 147, 3) := by decide +kernel
theorem dX5_noteForHint_63 : decode cX5_noteForHint 63 = .ok (.aload_n 0, 1) := by decide +kernel
theorem dX5_noteForHint_64 : decode cX5_noteForHint 64 = .ok (.getfield 12, 3) := by decide +kernel
theorem dX5_noteForHint_67 : decode cX5_noteForHint 67 = .ok (.aload_n 1, 1) := by decide +kernel
theorem dX5_noteForHint_68 : decode cX5_noteForHint 68 = .ok (.getfield 124, 3) := by decide +kernel
theorem dX5_noteForHint_71 : decode cX5_noteForHint 71 = .ok (.invokevirtual 143, 3) := by decide +kernel
theorem dX5_noteForHint_74 : decode cX5_noteForHint 74 = .ok (.aload_n 0, 1) := by decide +kernel
theorem dX5_noteForHint_75 : decode cX5_noteForHint 75 = .ok (.getfield 12, 3) := by decide +kernel
theorem dX5_noteForHint_78 : decode cX5_noteForHint 78 = .ok (.aload_n 1, 1) := by decide +kernel
theorem dX5_noteForHint_79 : decode cX5_noteForHint 79 = .ok (.getfield 61, 3) := by decide +kernel
theorem dX5_noteForHint_82 : decode cX5_noteForHint 82 = .ok (.iconst 0, 1) := by decide +kernel
theorem dX5_noteForHint_83 : decode cX5_noteForHint 83 = .ok (.aload_n 1, 1) := by decide +kernel
theorem dX5_noteForHint_84 : decode cX5_noteForHint 84 = .ok (.getfield 61, 3) := by decide +kernel
theorem dX5_noteForHint_87 : decode cX5_noteForHint 87 = .ok (.invokevirtual 64, 3) := by decide +kernel
theorem dX5_noteForHint_90 : decode cX5_noteForHint 90 = .ok (.invokevirtual 150, 3) := by decide +kernel
theorem dX5_noteForHint_93 : decode cX5_noteForHint 93 = .ok (.aload_n 0, 1) := by decide +kernel
theorem dX5_noteForHint_94 : decode cX5_noteForHint 94 = .ok (.dup, 1) := by decide +kernel
theorem dX5_noteForHint_95 : decode cX5_noteForHint 95 = .ok (.getfield 137, 3) := by decide +kernel
theorem dX5_noteForHint_98 : decode cX5_noteForHint 98 = .ok (.iconst 1, 1) := by decide +kernel
theorem dX5_noteForHint_99 : decode cX5_noteForHint 99 = .ok (.iadd, 1) := by decide +kernel
theorem dX5_noteForHint_100 : decode cX5_noteForHint 100 = .ok (.putfield 137, 3) := by decide +kernel
theorem dX5_noteForHint_103 : decode cX5_noteForHint 103 = .ok (.return_, 1) := by decide +kernel
def X5_noteForHint_b27   (a0 : Nat) (a1 : Nat) : M Unit := bd (gR 8 2 a0) (fun y1 => bd (gI 10 4 a1) (fun x2 => bd (ck 4 y1) (fun _ => bd (X1_addNumber y1 x2) (fun _ => bd (gR 8 2 a0) (fun y3 => bd (gI 10 2 a1) (fun x4 => bd (ck 4 y3) (fun _ => bd (X1_addNumber y3 x4) (fun _ => bd (gR 8 2 a0) (fun y5 => bd (gR 10 0 a1) (fun y6 => bd (ck 4 y6) (fun _ => bd (X1_size y6) (fun x7 => bd (ck 4 y5) (fun _ => bd (X1_addShort y5 x7) (fun _ => bd (gR 8 2 a0) (fun y8 => bd (gI 10 3 a1) (fun x9 => bd (ck 4 y8) (fun _ => bd (X1_addNumber y8 x9) (fun _ => bd (gR 8 2 a0) (fun y10 => bd (gR 10 0 a1) (fun y11 => bd (gR 10 0 a1) (fun y12 => bd (ck 4 y12) (fun _ => bd (X1_size y12) (fun x13 => bd (ck 4 y10) (fun _ => bd (X1_addPart y10 y11 0 x13) (fun _ => bd (gI 8 8 a0) (fun x14 => bd (pV 8 8 a0 (.int (x14 + 1))) (fun _ => pu ())))))))))))))))))))))))))))
def X5_noteForHint (a0 : Nat) (a1 : Nat) : M Unit := bd (gI 10 2 a1) (fun x1 => it (¬ x1 = 0) (X5_noteForHint_b27   a0 a1) (bd (pV 8 8 a0 (.int 0)) (fun _ => bd (gR 8 2 a0) (fun y2 => bd (ck 4 y2) (fun _ => bd (X1_clear y2) (fun _ => bd (gR 8 2 a0) (fun y3 => bd (ck 4 y3) (fun _ => bd (X1_addNumber y3 0) (fun _ => X5_noteForHint_b27   a0 a1)))))))))
section
variable {G : Gx} {p : Program} {l : Launch} {e : Env} {R : Room} {s : State} {m : MethodId} {args : Array Value} {below : List Frame} {meth : Method} {c : Code} {h0 : Hp} {r : Unit} {h' : Hp}
set_option maxRecDepth 20000 in
theorem X5_noteForHint_b27_s (C : Cx G p R s m args meth c cX5_noteForHint 2 yX5_noteForHint.cls h0 h') (hF : R.frames = 5) (hO : R.locals = 185) (hr : meth.sig.returnType = none) (hm : meth.name = yX5_noteForHint.name)   (a0 : Nat) (a1 : Nat) : Sm G (QM G rvU below args s h0 r h') p l e R s m args below meth c 2 h0 r h' 27 [(0, .ref a0), (1, .ref a1)] [] (X5_noteForHint_b27   a0 a1) := by
  refine s_aload_n C 0 dX5_noteForHint_27 rfl rfl ?_
  refine s_gR C ci8 2 (by decide) (Or.inl wd_1_139) dX5_noteForHint_28 (fun y1 => ?_)
  refine s_aload_n C 1 dX5_noteForHint_31 rfl rfl ?_
  refine s_gI C ci10 4 (by decide) (Or.inr (Or.inr ⟨_, wd_5_68⟩)) dX5_noteForHint_32 (fun x2 => ?_)
  refine s_invV_u C ci4 cy_X1_addNumber (Or.inl wd_6_67) rfl wd_3_148 wd_3_149 (con_X1_addNumber l G y1 x2) rfl rfl (Nat.le_of_ble_eq_true rfl) (by rw [hF]; decide) (by rw [hO]; exact Nat.le_of_ble_eq_true rfl) dX5_noteForHint_35 ?_
  refine s_aload_n C 0 dX5_noteForHint_38 rfl rfl ?_
  refine s_gR C ci8 2 (by decide) (Or.inl wd_1_139) dX5_noteForHint_39 (fun y3 => ?_)
  refine s_aload_n C 1 dX5_noteForHint_42 rfl rfl ?_
  refine s_gI C ci10 2 (by decide) (Or.inr (Or.inr ⟨_, wd_5_62⟩)) dX5_noteForHint_43 (fun x4 => ?_)
  refine s_invV_u C ci4 cy_X1_addNumber (Or.inl wd_6_67) rfl wd_3_148 wd_3_149 (con_X1_addNumber l G y3 x4) rfl rfl (Nat.le_of_ble_eq_true rfl) (by rw [hF]; decide) (by rw [hO]; exact Nat.le_of_ble_eq_true rfl) dX5_noteForHint_46 ?_
  refine s_aload_n C 0 dX5_noteForHint_49 rfl rfl ?_
  refine s_gR C ci8 2 (by decide) (Or.inl wd_1_139) dX5_noteForHint_50 (fun y5 => ?_)
  refine s_aload_n C 1 dX5_noteForHint_53 rfl rfl ?_
  refine s_gR C ci10 0 (by decide) (Or.inr (Or.inr ⟨_, wd_5_53⟩)) dX5_noteForHint_54 (fun y6 => ?_)
  refine s_invV_i C ci4 cy_X1_size (Or.inl wd_6_29) rfl wd_2_147 wd_2_148 (con_X1_size l G y6) rfl rfl (Nat.le_of_ble_eq_true rfl) (by rw [hF]; decide) (by rw [hO]; exact Nat.le_of_ble_eq_true rfl) dX5_noteForHint_57 (fun x7 => ?_)
  refine s_invV_u C ci4 cy_X1_addShort (Or.inl wd_6_77) rfl wd_3_153 wd_3_154 (con_X1_addShort l G y5 x7) rfl rfl (Nat.le_of_ble_eq_true rfl) (by rw [hF]; decide) (by rw [hO]; exact Nat.le_of_ble_eq_true rfl) dX5_noteForHint_60 ?_
  refine s_aload_n C 0 dX5_noteForHint_63 rfl rfl ?_
  refine s_gR C ci8 2 (by decide) (Or.inl wd_1_139) dX5_noteForHint_64 (fun y8 => ?_)
  refine s_aload_n C 1 dX5_noteForHint_67 rfl rfl ?_
  refine s_gI C ci10 3 (by decide) (Or.inr (Or.inr ⟨_, wd_5_65⟩)) dX5_noteForHint_68 (fun x9 => ?_)
  refine s_invV_u C ci4 cy_X1_addNumber (Or.inl wd_6_67) rfl wd_3_148 wd_3_149 (con_X1_addNumber l G y8 x9) rfl rfl (Nat.le_of_ble_eq_true rfl) (by rw [hF]; decide) (by rw [hO]; exact Nat.le_of_ble_eq_true rfl) dX5_noteForHint_71 ?_
  refine s_aload_n C 0 dX5_noteForHint_74 rfl rfl ?_
  refine s_gR C ci8 2 (by decide) (Or.inl wd_1_139) dX5_noteForHint_75 (fun y10 => ?_)
  refine s_aload_n C 1 dX5_noteForHint_78 rfl rfl ?_
  refine s_gR C ci10 0 (by decide) (Or.inr (Or.inr ⟨_, wd_5_53⟩)) dX5_noteForHint_79 (fun y11 => ?_)
  refine s_iconst (v := 0) C dX5_noteForHint_82 (by decide) ?_
  refine s_aload_n C 1 dX5_noteForHint_83 rfl rfl ?_
  refine s_gR C ci10 0 (by decide) (Or.inr (Or.inr ⟨_, wd_5_53⟩)) dX5_noteForHint_84 (fun y12 => ?_)
  refine s_invV_i C ci4 cy_X1_size (Or.inl wd_6_29) rfl wd_2_147 wd_2_148 (con_X1_size l G y12) rfl rfl (Nat.le_of_ble_eq_true rfl) (by rw [hF]; decide) (by rw [hO]; exact Nat.le_of_ble_eq_true rfl) dX5_noteForHint_87 (fun x13 => ?_)
  refine s_invV_u C ci4 cy_X1_addPart (Or.inl wd_6_78) rfl wd_3_115 wd_3_116 (con_X1_addPart l G y10 y11 0 x13) rfl rfl (Nat.le_of_ble_eq_true rfl) (by rw [hF]; decide) (by rw [hO]; exact Nat.le_of_ble_eq_true rfl) dX5_noteForHint_90 ?_
  refine s_aload_n C 0 dX5_noteForHint_93 rfl rfl ?_
  refine s_dup C dX5_noteForHint_94 rfl ?_
  refine s_gI C ci8 8 (by decide) (Or.inl wd_1_147) dX5_noteForHint_95 (fun x14 => ?_)
  refine s_iconst (v := 1) C dX5_noteForHint_98 (by decide) ?_
  refine s_iadd C dX5_noteForHint_99 ?_
  refine s_pV C ci8 8 (by decide) rfl (Or.inl wd_1_147) dX5_noteForHint_100 rfl rfl ?_
  exact s_vret C hr rfl dX5_noteForHint_103
end
set_option maxRecDepth 20000 in
theorem con_X5_noteForHint (l : Launch) (G : Gx) (a0 : Nat) (a1 : Nat) : Con G rvU l yX5_noteForHint cX5_noteForHint 2 none 5 185 [.ref a0, .ref a1] (X5_noteForHint a0 a1) := by
  refine con_of (lv := [(0, .ref a0), (1, .ref a1)]) (by decide) (Nat.le_of_ble_eq_true rfl) rfl (fun p e R s m args below meth c h0 r h' C hF hO hr hm => ?_)
  refine s_aload_n C 1 dX5_noteForHint_0 rfl rfl ?_
  refine s_gI C ci10 2 (by decide) (Or.inr (Or.inr ⟨_, wd_5_62⟩)) dX5_noteForHint_1 (fun x1 => ?_)
  refine s_if_ne (tgt := 27) C dX5_noteForHint_4 (by decide) ?_ ?_
  · exact X5_noteForHint_b27_s C hF hO hr hm   a0 a1
  refine s_aload_n C 0 dX5_noteForHint_7 rfl rfl ?_
  refine s_iconst (v := 0) C dX5_noteForHint_8 (by decide) ?_
  refine s_pV C ci8 8 (by decide) rfl (Or.inl wd_1_147) dX5_noteForHint_9 rfl rfl ?_
  refine s_aload_n C 0 dX5_noteForHint_12 rfl rfl ?_
  refine s_gR C ci8 2 (by decide) (Or.inl wd_1_139) dX5_noteForHint_13 (fun y2 => ?_)
  refine s_invV_u C ci4 cy_X1_clear (Or.inl wd_6_76) rfl wd_2_65 wd_2_66 (con_X1_clear l G y2) rfl rfl (Nat.le_of_ble_eq_true rfl) (by rw [hF]; decide) (by rw [hO]; exact Nat.le_of_ble_eq_true rfl) dX5_noteForHint_16 ?_
  refine s_aload_n C 0 dX5_noteForHint_19 rfl rfl ?_
  refine s_gR C ci8 2 (by decide) (Or.inl wd_1_139) dX5_noteForHint_20 (fun y3 => ?_)
  refine s_iconst (v := 0) C dX5_noteForHint_23 (by decide) ?_
  refine s_invV_u C ci4 cy_X1_addNumber (Or.inl wd_6_67) rfl wd_3_148 wd_3_149 (con_X1_addNumber l G y3 0) rfl rfl (Nat.le_of_ble_eq_true rfl) (by rw [hF]; decide) (by rw [hO]; exact Nat.le_of_ble_eq_true rfl) dX5_noteForHint_24 ?_
  exact X5_noteForHint_b27_s C hF hO hr hm   a0 a1

theorem dX5_copy_0 : decode cX5_copy 0 = .ok (.aload_n 1, 1) := by decide +kernel
theorem dX5_copy_1 : decode cX5_copy 1 = .ok (.invokevirtual 53, 3) := by decide +kernel
theorem dX5_copy_4 : decode cX5_copy 4 = .ok (.istore_n 2, 1) := by decide +kernel
theorem dX5_copy_5 : decode cX5_copy 5 = .ok (.aload_n 0, 1) := by decide +kernel
theorem dX5_copy_6 : decode cX5_copy 6 = .ok (.getfield 21, 3) := by decide +kernel
theorem dX5_copy_9 : decode cX5_copy 9 = .ok (.aload_n 0, 1) := by decide +kernel
theorem dX5_copy_10 : decode cX5_copy 10 = .ok (.getfield 77, 3) := by decide +kernel
theorem dX5_copy_13 : decode cX5_copy 13 = .ok (.iconst 0, 1) := by decide +kernel
theorem dX5_copy_14 : decode cX5_copy 14 = .ok (.invokevirtual 96, 3) := by decide +kernel
theorem dX5_copy_17 : decode cX5_copy 17 = .ok (.istore_n 3, 1) := by decide +kernel
theorem dX5_copy_18 : decode cX5_copy 18 = .ok (.aload_n 0, 1) := by decide +kernel
theorem dX5_copy_19 : decode cX5_copy 19 = .ok (.getfield 77, 3) := by decide +kernel
theorem dX5_copy_22 : decode cX5_copy 22 = .ok (.iconst (-1), 1) := by decide +kernel
theorem dX5_copy_23 : decode cX5_copy 23 = .ok (.if_icmp .eq 16, 3) := by decide +kernel
theorem dX5_copy_26 : decode cX5_copy 26 = .ok (.iload_n 3, 1) := by decide +kernel
theorem dX5_copy_27 : decode cX5_copy 27 = .ok (.iload_n 2, 1) := by decide +kernel
theorem dX5_copy_28 : decode cX5_copy 28 = .ok (.iadd, 1) := by decide +kernel
theorem dX5_copy_29 : decode cX5_copy 29 = .ok (.aload_n 0, 1) := by decide +kernel
theorem dX5_copy_30 : decode cX5_copy 30 = .ok (.getfield 21, 3) := by decide +kernel
theorem dX5_copy_33 : decode cX5_copy 33 = .ok (.getfield 58, 3) := by decide +kernel
theorem dX5_copy_36 : decode cX5_copy 36 = .ok (.if_icmp .le 20, 3) := by decide +kernel
theorem dX5_copy_39 : decode cX5_copy 39 = .ok (.aload_n 0, 1) := by decide +kernel
theorem dX5_copy_40 : decode cX5_copy 40 = .ok (.invokevirtual 99, 3) := by decide +kernel
theorem dX5_copy_43 : decode cX5_copy 43 = .ok (.aload_n 0, 1) := by decide +kernel
theorem dX5_copy_44 : decode cX5_copy 44 = .ok (.aload_n 0, 1) := by decide +kernel
theorem dX5_copy_45 : decode cX5_copy 45 = .ok (.getfield 21, 3) := by decide +kernel
theorem dX5_copy_48 : decode cX5_copy 48 = .ok (.invokevirtual 102, 3) := by decide +kernel
theorem dX5_copy_51 : decode cX5_copy 51 = .ok (.putfield 77, 3) := by decide +kernel
theorem dX5_copy_54 : decode cX5_copy 54 = .ok (.iconst 0, 1) := by decide +kernel
theorem dX5_copy_55 : decode cX5_copy 55 = .ok (.istore_n 3, 1) := by decide +kernel
theorem dX5_copy_56 : decode cX5_copy 56 = .ok (.aload_n 0, 1) := by decide +kernel
theorem dX5_copy_57 : decode cX5_copy 57 = .ok (.getfield 21, 3) := by decide +kernel
theorem dX5_copy_60 : decode cX5_copy 60 = .ok (.aload_n 1, 1) := by decide +kernel
theorem dX5_copy_61 : decode cX5_copy 61 = .ok (.getfield 105, 3) := by decide +kernel
theorem dX5_copy_64 : decode cX5_copy 64 = .ok (.iconst 0, 1) := by decide +kernel
theorem dX5_copy_65 : decode cX5_copy 65 = .ok (.invokevirtual 108, 3) := by decide +kernel
theorem dX5_copy_68 : decode cX5_copy 68 = .ok (.astore 4, 2) := by decide +kernel
theorem dX5_copy_70 : decode cX5_copy 70 = .ok (.aload 4, 2) := by decide +kernel
theorem dX5_copy_72 : decode cX5_copy 72 = .ok (.ifnull 35, 3) := by decide +kernel
theorem dX5_copy_75 : decode cX5_copy 75 = .ok (.aload_n 0, 1) := by decide +kernel
theorem dX5_copy_76 : decode cX5_copy 76 = .ok (.getfield 21, 3) := by decide +kernel
theorem dX5_copy_79 : decode cX5_copy 79 = .ok (.aload_n 0, 1) := by decide +kernel
theorem dX5_copy_80 : decode cX5_copy 80 = .ok (.getfield 77, 3) := by decide +kernel
theorem dX5_copy_83 : decode cX5_copy 83 = .ok (.iconst 0, 1) := by decide +kernel
theorem dX5_copy_84 : decode cX5_copy 84 = .ok (.aload 4, 2) := by decide +kernel
theorem dX5_copy_86 : decode cX5_copy 86 = .ok (.getfield 112, 3) := by decide +kernel
theorem dX5_copy_89 : decode cX5_copy 89 = .ok (.aload_n 1, 1) := by decide +kernel
theorem dX5_copy_90 : decode cX5_copy 90 = .ok (.getfield 117, 3) := by decide +kernel
theorem dX5_copy_93 : decode cX5_copy 93 = .ok (.iload_n 2, 1) := by decide +kernel
theorem dX5_copy_94 : decode cX5_copy 94 = .ok (.invokevirtual 120, 3) := by decide +kernel
theorem dX5_copy_97 : decode cX5_copy 97 = .ok (.aload_n 0, 1) := by decide +kernel
theorem dX5_copy_98 : decode cX5_copy 98 = .ok (.dup, 1) := by decide +kernel
theorem dX5_copy_99 : decode cX5_copy 99 = .ok (.getfield 74, 3) := by decide +kernel
theorem dX5_copy_102 : decode cX5_copy 102 = .ok (.iload_n 2, 1) := by decide +kernel
theorem dX5_copy_103 : decode cX5_copy 103 = .ok (.isub, 1) := by decide +kernel
theorem dX5_copy_104 : decode cX5_copy 104 = .ok (.putfield 74, 3) := by decide +kernel
theorem dX5_copy_107 : decode cX5_copy 107 = .ok (.aload_n 1, 1) := by decide +kernel
theorem dX5_copy_108 : decode cX5_copy 108 = .ok (.aload_n 0, 1) := by decide +kernel
theorem dX5_copy_109 : decode cX5_copy 109 = .ok (.getfield 77, 3) := by decide +kernel
theorem dX5_copy_112 : decode cX5_copy 112 = .ok (.iload_n 3, 1) := by decide +kernel
theorem dX5_copy_113 : decode cX5_copy 113 = .ok (.aload_n 1, 1) := by decide +kernel
theorem dX5_copy_114 : decode cX5_copy 114 = .ok (.getfield 124, 3) := by decide +kernel
theorem dX5_copy_117 : decode cX5_copy 117 = .ok (.aload_n 1, 1) := by decide +kernel
theorem dX5_copy_118 : decode cX5_copy 118 = .ok (.getfield 127, 3) := by decide +kernel
theorem dX5_copy_121 : decode cX5_copy 121 = .ok (.invokevirtual 130, 3) := by decide +kernel
theorem dX5_copy_124 : decode cX5_copy 124 = .ok (.aload_n 0, 1) := by decide +kernel
theorem dX5_copy_125 : decode cX5_copy 125 = .ok (.aload_n 1, 1) := by decide +kernel
theorem dX5_copy_126 : decode cX5_copy 126 = .ok (.invokevirtual 134, 3) := by decide +kernel
theorem dX5_copy_129 : decode cX5_copy 129 = .ok (.return_, 1) := by decide +kernel
def X5_copy_b107   (a0 : Nat) (a1 : Nat) (i3 : Int32) : M Unit := bd (gI 8 6 a0) (fun x1 => bd (gI 10 3 a1) (fun x2 => bd (gI 10 4 a1) (fun x3 => bd (ck 10 a1) (fun _ => bd (X7_tell a1 x1 i3 x2 x3) (fun _ => bd (ck 8 a0) (fun _ => bd (X5_noteForHint a0 a1) (fun _ => pu ())))))))
def X5_copy_b56   (a0 : Nat) (a1 : Nat) (i2 : Int32) (i3 : Int32) : M Unit := bd (gR 8 0 a0) (fun y1 => bd (gI 10 1 a1) (fun x2 => bd (ck 6 y1) (fun _ => bd (X3_find y1 x2 0) (fun z3 => co z3 (X5_copy_b107   a0 a1 i3) (fun y4 => bd (gR 8 0 a0) (fun y5 => bd (gI 8 6 a0) (fun x6 => bd (gR 7 0 y4) (fun y7 => bd (gI 10 2 a1) (fun x8 => bd (ck 6 y5) (fun _ => bd (X3_append y5 x6 0 y7 x8 i2) (fun _ => bd (gI 8 9 a0) (fun x9 => bd (pV 8 9 a0 (.int (x9 - i2))) (fun _ => X5_copy_b107   a0 a1 i3)))))))))))))
def X5_copy_b39   (a0 : Nat) (a1 : Nat) (i2 : Int32) : M Unit := bd (ck 8 a0) (fun _ => bd (X5_writeHint a0) (fun _ => bd (gR 8 0 a0) (fun y1 => bd (ck 6 y1) (fun _ => bd (X3_takeNumber y1) (fun x2 => bd (pV 8 6 a0 (.int x2)) (fun _ => X5_copy_b56   a0 a1 i2 0))))))
def X5_copy (a0 : Nat) (a1 : Nat) : M Unit := bd (ck 10 a1) (fun _ => bd (X7_recordBytes a1) (fun x1 => bd (gR 8 0 a0) (fun y2 => bd (gI 8 6 a0) (fun x3 => bd (ck 6 y2) (fun _ => bd (X3_sizeOf y2 x3 0) (fun x4 => bd (gI 8 6 a0) (fun x5 => it (x5 = (-1)) (X5_copy_b39   a0 a1 x1) (bd (gR 8 0 a0) (fun y6 => bd (gI 6 5 y6) (fun x7 => it ((x4 + x1) ≤ x7) (X5_copy_b56   a0 a1 x1 x4) (X5_copy_b39   a0 a1 x1)))))))))))
section
variable {G : Gx} {p : Program} {l : Launch} {e : Env} {R : Room} {s : State} {m : MethodId} {args : Array Value} {below : List Frame} {meth : Method} {c : Code} {h0 : Hp} {r : Unit} {h' : Hp}
set_option maxRecDepth 20000 in
theorem X5_copy_b107_s (C : Cx G p R s m args meth c cX5_copy 5 yX5_copy.cls h0 h') (hF : R.frames = 10) (hO : R.locals = 302) (hr : meth.sig.returnType = none) (hm : meth.name = yX5_copy.name)   (a0 : Nat) (a1 : Nat) (i3 : Int32) : Sm G (QM G rvU below args s h0 r h') p l e R s m args below meth c 5 h0 r h' 107 [(0, .ref a0), (1, .ref a1), (3, .int i3)] [] (X5_copy_b107   a0 a1 i3) := by
  refine s_aload_n C 1 dX5_copy_107 rfl rfl ?_
  refine s_aload_n C 0 dX5_copy_108 rfl rfl ?_
  refine s_gI C ci8 6 (by decide) (Or.inl wd_1_144) dX5_copy_109 (fun x1 => ?_)
  refine s_iload_n C 2 dX5_copy_112 rfl rfl ?_
  refine s_aload_n C 1 dX5_copy_113 rfl rfl ?_
  refine s_gI C ci10 3 (by decide) (Or.inr (Or.inr ⟨_, wd_5_65⟩)) dX5_copy_114 (fun x2 => ?_)
  refine s_aload_n C 1 dX5_copy_117 rfl rfl ?_
  refine s_gI C ci10 4 (by decide) (Or.inr (Or.inr ⟨_, wd_5_68⟩)) dX5_copy_118 (fun x3 => ?_)
  refine s_invV_u C ci10 cy_X7_tell (Or.inl wd_6_71) rfl wd_5_85 wd_5_86 (con_X7_tell l G a1 x1 i3 x2 x3) rfl rfl (Nat.le_of_ble_eq_true rfl) (by rw [hF]; decide) (by rw [hO]; exact Nat.le_of_ble_eq_true rfl) dX5_copy_121 ?_
  refine s_aload_n C 0 dX5_copy_124 rfl rfl ?_
  refine s_aload_n C 1 dX5_copy_125 rfl rfl ?_
  refine s_invV_u C ci8 cy_X5_noteForHint (Or.inl wd_6_72) rfl wd_6_74 wp_28 (con_X5_noteForHint l G a0 a1) rfl rfl (Nat.le_of_ble_eq_true rfl) (by rw [hF]; decide) (by rw [hO]; exact Nat.le_of_ble_eq_true rfl) dX5_copy_126 ?_
  exact s_vret C hr rfl dX5_copy_129
set_option maxRecDepth 20000 in
theorem X5_copy_b56_s (C : Cx G p R s m args meth c cX5_copy 5 yX5_copy.cls h0 h') (hF : R.frames = 10) (hO : R.locals = 302) (hr : meth.sig.returnType = none) (hm : meth.name = yX5_copy.name)   (a0 : Nat) (a1 : Nat) (i2 : Int32) (i3 : Int32) : Sm G (QM G rvU below args s h0 r h') p l e R s m args below meth c 5 h0 r h' 56 [(0, .ref a0), (1, .ref a1), (2, .int i2), (3, .int i3)] [] (X5_copy_b56   a0 a1 i2 i3) := by
  refine s_aload_n C 0 dX5_copy_56 rfl rfl ?_
  refine s_gR C ci8 0 (by decide) (Or.inl wd_1_137) dX5_copy_57 (fun y1 => ?_)
  refine s_aload_n C 1 dX5_copy_60 rfl rfl ?_
  refine s_gI C ci10 1 (by decide) (Or.inr (Or.inr ⟨_, wd_5_58⟩)) dX5_copy_61 (fun x2 => ?_)
  refine s_iconst (v := 0) C dX5_copy_64 (by decide) ?_
  refine s_invV_o C ci6 cy_X3_find (Or.inl wd_6_70) rfl wd_3_176 wd_3_177 (con_X3_find l G y1 x2 0) rfl rfl (Nat.le_of_ble_eq_true rfl) (by rw [hF]; decide) (by rw [hO]; exact Nat.le_of_ble_eq_true rfl) dX5_copy_65 (fun z3 => ?_)
  refine s_ostore (lv' := [(4, va_rf z3), (0, .ref a0), (1, .ref a1), (2, .int i2), (3, .int i3)]) C dX5_copy_68 (by decide) rfl ?_
  refine s_oload C 0 dX5_copy_70 rfl ?_
  refine s_ifnull (tgt := 107) C dX5_copy_72 (by decide) (fun hq => ?_) (fun y4 hq => ?_)
  · subst hq
    refine s_sub [1, 2, 4] rfl ?_
    exact X5_copy_b107_s C hF hO hr hm   a0 a1 i3
  subst hq
  refine s_aload_n C 1 dX5_copy_75 rfl rfl ?_
  refine s_gR C ci8 0 (by decide) (Or.inl wd_1_137) dX5_copy_76 (fun y5 => ?_)
  refine s_aload_n C 1 dX5_copy_79 rfl rfl ?_
  refine s_gI C ci8 6 (by decide) (Or.inl wd_1_144) dX5_copy_80 (fun x6 => ?_)
  refine s_iconst (v := 0) C dX5_copy_83 (by decide) ?_
  refine s_aload C 0 dX5_copy_84 rfl ?_
  refine s_gR C ci7 0 (by decide) (Or.inr (Or.inr ⟨_, wd_3_216⟩)) dX5_copy_86 (fun y7 => ?_)
  refine s_aload_n C 2 dX5_copy_89 rfl rfl ?_
  refine s_gI C ci10 2 (by decide) (Or.inr (Or.inr ⟨_, wd_5_62⟩)) dX5_copy_90 (fun x8 => ?_)
  refine s_iload_n C 3 dX5_copy_93 rfl rfl ?_
  refine s_invV_u C ci6 cy_X3_append (Or.inl wd_6_68) rfl wd_3_193 wd_3_194 (con_X3_append l G y5 x6 0 y7 x8 i2) rfl rfl (Nat.le_of_ble_eq_true rfl) (by rw [hF]; decide) (by rw [hO]; exact Nat.le_of_ble_eq_true rfl) dX5_copy_94 ?_
  refine s_aload_n C 1 dX5_copy_97 rfl rfl ?_
  refine s_dup C dX5_copy_98 rfl ?_
  refine s_gI C ci8 9 (by decide) (Or.inl wd_1_148) dX5_copy_99 (fun x9 => ?_)
  refine s_iload_n C 3 dX5_copy_102 rfl rfl ?_
  refine s_isub C dX5_copy_103 ?_
  refine s_pV C ci8 9 (by decide) rfl (Or.inl wd_1_148) dX5_copy_104 rfl rfl ?_
  refine s_sub [1, 2, 4] rfl ?_
  exact X5_copy_b107_s C hF hO hr hm   a0 a1 i3
set_option maxRecDepth 20000 in
theorem X5_copy_b39_s (C : Cx G p R s m args meth c cX5_copy 5 yX5_copy.cls h0 h') (hF : R.frames = 10) (hO : R.locals = 302) (hr : meth.sig.returnType = none) (hm : meth.name = yX5_copy.name)   (a0 : Nat) (a1 : Nat) (i2 : Int32) : Sm G (QM G rvU below args s h0 r h') p l e R s m args below meth c 5 h0 r h' 39 [(0, .ref a0), (1, .ref a1), (2, .int i2)] [] (X5_copy_b39   a0 a1 i2) := by
  refine s_aload_n C 0 dX5_copy_39 rfl rfl ?_
  refine s_invV_u C ci8 cy_X5_writeHint (Or.inl wd_6_61) rfl wd_6_63 wp_27 (con_X5_writeHint l G a0) rfl rfl (Nat.le_of_ble_eq_true rfl) (by rw [hF]; decide) (by rw [hO]; exact Nat.le_of_ble_eq_true rfl) dX5_copy_40 ?_
  refine s_aload_n C 0 dX5_copy_43 rfl rfl ?_
  refine s_aload_n C 0 dX5_copy_44 rfl rfl ?_
  refine s_gR C ci8 0 (by decide) (Or.inl wd_1_137) dX5_copy_45 (fun y1 => ?_)
  refine s_invV_i C ci6 cy_X3_takeNumber (Or.inl wd_6_69) rfl wd_3_189 wd_3_190 (con_X3_takeNumber l G y1) rfl rfl (Nat.le_of_ble_eq_true rfl) (by rw [hF]; decide) (by rw [hO]; exact Nat.le_of_ble_eq_true rfl) dX5_copy_48 (fun x2 => ?_)
  refine s_pV C ci8 6 (by decide) rfl (Or.inl wd_1_144) dX5_copy_51 rfl rfl ?_
  refine s_iconst (v := 0) C dX5_copy_54 (by decide) ?_
  refine s_istore_n (lv' := [(3, .int 0), (0, .ref a0), (1, .ref a1), (2, .int i2)]) C dX5_copy_55 rfl (by decide) rfl ?_
  refine s_sub [1, 2, 3, 0] rfl ?_
  exact X5_copy_b56_s C hF hO hr hm   a0 a1 i2 0
end
set_option maxRecDepth 20000 in
theorem con_X5_copy (l : Launch) (G : Gx) (a0 : Nat) (a1 : Nat) : Con G rvU l yX5_copy cX5_copy 5 none 10 302 [.ref a0, .ref a1] (X5_copy a0 a1) := by
  refine con_of (lv := [(0, .ref a0), (1, .ref a1)]) (by decide) (Nat.le_of_ble_eq_true rfl) rfl (fun p e R s m args below meth c h0 r h' C hF hO hr hm => ?_)
  refine s_aload_n C 1 dX5_copy_0 rfl rfl ?_
  refine s_invV_i C ci10 cy_X7_recordBytes (Or.inl wd_6_28) rfl wd_2_209 wd_2_210 (con_X7_recordBytes l G a1) rfl rfl (Nat.le_of_ble_eq_true rfl) (by rw [hF]; decide) (by rw [hO]; exact Nat.le_of_ble_eq_true rfl) dX5_copy_1 (fun x1 => ?_)
  refine s_istore_n (lv' := [(2, .int x1), (0, .ref a0), (1, .ref a1)]) C dX5_copy_4 rfl (by decide) rfl ?_
  refine s_aload_n C 1 dX5_copy_5 rfl rfl ?_
  refine s_gR C ci8 0 (by decide) (Or.inl wd_1_137) dX5_copy_6 (fun y2 => ?_)
  refine s_aload_n C 1 dX5_copy_9 rfl rfl ?_
  refine s_gI C ci8 6 (by decide) (Or.inl wd_1_144) dX5_copy_10 (fun x3 => ?_)
  refine s_iconst (v := 0) C dX5_copy_13 (by decide) ?_
  refine s_invV_i C ci6 cy_X3_sizeOf (Or.inl wd_6_60) rfl wd_3_172 wd_3_173 (con_X3_sizeOf l G y2 x3 0) rfl rfl (Nat.le_of_ble_eq_true rfl) (by rw [hF]; decide) (by rw [hO]; exact Nat.le_of_ble_eq_true rfl) dX5_copy_14 (fun x4 => ?_)
  refine s_istore_n (lv' := [(3, .int x4), (2, .int x1), (0, .ref a0), (1, .ref a1)]) C dX5_copy_17 rfl (by decide) rfl ?_
  refine s_aload_n C 2 dX5_copy_18 rfl rfl ?_
  refine s_gI C ci8 6 (by decide) (Or.inl wd_1_144) dX5_copy_19 (fun x5 => ?_)
  refine s_iconst (v := (-1)) C dX5_copy_22 (by decide) ?_
  refine s_icmp_eq (tgt := 39) C dX5_copy_23 (by decide) ?_ ?_
  · refine s_sub [2, 3, 1] rfl ?_
    exact X5_copy_b39_s C hF hO hr hm   a0 a1 x1
  refine s_iload_n C 0 dX5_copy_26 rfl rfl ?_
  refine s_iload_n C 1 dX5_copy_27 rfl rfl ?_
  refine s_iadd C dX5_copy_28 ?_
  refine s_aload_n C 2 dX5_copy_29 rfl rfl ?_
  refine s_gR C ci8 0 (by decide) (Or.inl wd_1_137) dX5_copy_30 (fun y6 => ?_)
  refine s_gI C ci6 5 (by decide) (Or.inr (Or.inr ⟨_, wd_1_94⟩)) dX5_copy_33 (fun x7 => ?_)
  refine s_icmp_le (tgt := 56) C dX5_copy_36 (by decide) ?_ ?_
  · refine s_sub [2, 3, 1, 0] rfl ?_
    exact X5_copy_b56_s C hF hO hr hm   a0 a1 x1 x4
  refine s_sub [2, 3, 1] rfl ?_
  exact X5_copy_b39_s C hF hO hr hm   a0 a1 x1

theorem dX5_finish_0 : decode cX5_finish 0 = .ok (.aload_n 0, 1) := by decide +kernel
theorem dX5_finish_1 : decode cX5_finish 1 = .ok (.invokevirtual 99, 3) := by decide +kernel
theorem dX5_finish_4 : decode cX5_finish 4 = .ok (.aload_n 0, 1) := by decide +kernel
theorem dX5_finish_5 : decode cX5_finish 5 = .ok (.iconst (-1), 1) := by decide +kernel
theorem dX5_finish_6 : decode cX5_finish 6 = .ok (.putfield 77, 3) := by decide +kernel
theorem dX5_finish_9 : decode cX5_finish 9 = .ok (.aload_n 0, 1) := by decide +kernel
theorem dX5_finish_10 : decode cX5_finish 10 = .ok (.getfield 18, 3) := by decide +kernel
theorem dX5_finish_13 : decode cX5_finish 13 = .ok (.invokevirtual 140, 3) := by decide +kernel
theorem dX5_finish_16 : decode cX5_finish 16 = .ok (.aload_n 0, 1) := by decide +kernel
theorem dX5_finish_17 : decode cX5_finish 17 = .ok (.getfield 18, 3) := by decide +kernel
theorem dX5_finish_20 : decode cX5_finish 20 = .ok (.aload_n 0, 1) := by decide +kernel
theorem dX5_finish_21 : decode cX5_finish 21 = .ok (.getfield 21, 3) := by decide +kernel
theorem dX5_finish_24 : decode cX5_finish 24 = .ok (.aload_n 0, 1) := by decide +kernel
theorem dX5_finish_25 : decode cX5_finish 25 = .ok (.getfield 71, 3) := by decide +kernel
theorem dX5_finish_28 : decode cX5_finish 28 = .ok (.invokevirtual 35, 3) := by decide +kernel
theorem dX5_finish_31 : decode cX5_finish 31 = .ok (.invokevirtual 143, 3) := by decide +kernel
theorem dX5_finish_34 : decode cX5_finish 34 = .ok (.iconst 0, 1) := by decide +kernel
theorem dX5_finish_35 : decode cX5_finish 35 = .ok (.istore_n 1, 1) := by decide +kernel
theorem dX5_finish_36 : decode cX5_finish 36 = .ok (.iload_n 1, 1) := by decide +kernel
theorem dX5_finish_37 : decode cX5_finish 37 = .ok (.aload_n 0, 1) := by decide +kernel
theorem dX5_finish_38 : decode cX5_finish 38 = .ok (.getfield 21, 3) := by decide +kernel
theorem dX5_finish_41 : decode cX5_finish 41 = .ok (.invokevirtual 161, 3) := by decide +kernel
theorem dX5_finish_44 : decode cX5_finish 44 = .ok (.if_icmp .ge 51, 3) := by decide +kernel
theorem dX5_finish_47 : decode cX5_finish 47 = .ok (.aload_n 0, 1) := by decide +kernel
theorem dX5_finish_48 : decode cX5_finish 48 = .ok (.getfield 21, 3) := by decide +kernel
theorem dX5_finish_51 : decode cX5_finish 51 = .ok (.iload_n 1, 1) := by decide +kernel
theorem dX5_finish_52 : decode cX5_finish 52 = .ok (.invokevirtual 162, 3) := by decide +kernel
theorem dX5_finish_55 : decode cX5_finish 55 = .ok (.astore_n 2, 1) := by decide +kernel
theorem dX5_finish_56 : decode cX5_finish 56 = .ok (.aload_n 2, 1) := by decide +kernel
theorem dX5_finish_57 : decode cX5_finish 57 = .ok (.ifnull 32, 3) := by decide +kernel
theorem dX5_finish_60 : decode cX5_finish 60 = .ok (.aload_n 2, 1) := by decide +kernel
theorem dX5_finish_61 : decode cX5_finish 61 = .ok (.getfield 166, 3) := by decide +kernel
theorem dX5_finish_64 : decode cX5_finish 64 = .ok (.ifCond .ne 25, 3) := by decide +kernel
theorem dX5_finish_67 : decode cX5_finish 67 = .ok (.aload_n 2, 1) := by decide +kernel
theorem dX5_finish_68 : decode cX5_finish 68 = .ok (.getfield 169, 3) := by decide +kernel
theorem dX5_finish_71 : decode cX5_finish 71 = .ok (.aload_n 0, 1) := by decide +kernel
theorem dX5_finish_72 : decode cX5_finish 72 = .ok (.getfield 71, 3) := by decide +kernel
theorem dX5_finish_75 : decode cX5_finish 75 = .ok (.if_icmp .ge 14, 3) := by decide +kernel
theorem dX5_finish_78 : decode cX5_finish 78 = .ok (.aload_n 0, 1) := by decide +kernel
theorem dX5_finish_79 : decode cX5_finish 79 = .ok (.getfield 18, 3) := by decide +kernel
theorem dX5_finish_82 : decode cX5_finish 82 = .ok (.aload_n 2, 1) := by decide +kernel
theorem dX5_finish_83 : decode cX5_finish 83 = .ok (.getfield 169, 3) := by decide +kernel
theorem dX5_finish_86 : decode cX5_finish 86 = .ok (.invokevirtual 143, 3) := by decide +kernel
theorem dX5_finish_89 : decode cX5_finish 89 = .ok (.iinc 1 1, 3) := by decide +kernel
theorem dX5_finish_92 : decode cX5_finish 92 = .ok (.goto (-56), 3) := by decide +kernel
theorem dX5_finish_95 : decode cX5_finish 95 = .ok (.aload_n 0, 1) := by decide +kernel
theorem dX5_finish_96 : decode cX5_finish 96 = .ok (.getfield 18, 3) := by decide +kernel
theorem dX5_finish_99 : decode cX5_finish 99 = .ok (.aload_n 0, 1) := by decide +kernel
theorem dX5_finish_100 : decode cX5_finish 100 = .ok (.getfield 18, 3) := by decide +kernel
theorem dX5_finish_103 : decode cX5_finish 103 = .ok (.iconst 0, 1) := by decide +kernel
theorem dX5_finish_104 : decode cX5_finish 104 = .ok (.aload_n 0, 1) := by decide +kernel
theorem dX5_finish_105 : decode cX5_finish 105 = .ok (.getfield 18, 3) := by decide +kernel
theorem dX5_finish_108 : decode cX5_finish 108 = .ok (.invokevirtual 64, 3) := by decide +kernel
theorem dX5_finish_111 : decode cX5_finish 111 = .ok (.invokevirtual 158, 3) := by decide +kernel
theorem dX5_finish_114 : decode cX5_finish 114 = .ok (.invokevirtual 143, 3) := by decide +kernel
theorem dX5_finish_117 : decode cX5_finish 117 = .ok (.aload_n 0, 1) := by decide +kernel
theorem dX5_finish_118 : decode cX5_finish 118 = .ok (.aload_n 0, 1) := by decide +kernel
theorem dX5_finish_119 : decode cX5_finish 119 = .ok (.getfield 21, 3) := by decide +kernel
theorem dX5_finish_122 : decode cX5_finish 122 = .ok (.invokevirtual 102, 3) := by decide +kernel
theorem dX5_finish_125 : decode cX5_finish 125 = .ok (.putfield 80, 3) := by decide +kernel
theorem dX5_finish_128 : decode cX5_finish 128 = .ok (.aload_n 0, 1) := by decide +kernel
theorem dX5_finish_129 : decode cX5_finish 129 = .ok (.getfield 21, 3) := by decide +kernel
theorem dX5_finish_132 : decode cX5_finish 132 = .ok (.aload_n 0, 1) := by decide +kernel
theorem dX5_finish_133 : decode cX5_finish 133 = .ok (.getfield 80, 3) := by decide +kernel
theorem dX5_finish_136 : decode cX5_finish 136 = .ok (.iconst 2, 1) := by decide +kernel
theorem dX5_finish_137 : decode cX5_finish 137 = .ok (.aload_n 0, 1) := by decide +kernel
theorem dX5_finish_138 : decode cX5_finish 138 = .ok (.getfield 18, 3) := by decide +kernel
theorem dX5_finish_141 : decode cX5_finish 141 = .ok (.iconst 0, 1) := by decide +kernel
theorem dX5_finish_142 : decode cX5_finish 142 = .ok (.aload_n 0, 1) := by decide +kernel
theorem dX5_finish_143 : decode cX5_finish 143 = .ok (.getfield 18, 3) := by decide +kernel
theorem dX5_finish_146 : decode cX5_finish 146 = .ok (.invokevirtual 64, 3) := by decide +kernel
theorem dX5_finish_149 : decode cX5_finish 149 = .ok (.invokevirtual 120, 3) := by decide +kernel
theorem dX5_finish_152 : decode cX5_finish 152 = .ok (.aload_n 0, 1) := by decide +kernel
theorem dX5_finish_153 : decode cX5_finish 153 = .ok (.getfield 21, 3) := by decide +kernel
theorem dX5_finish_156 : decode cX5_finish 156 = .ok (.invokevirtual 170, 3) := by decide +kernel
theorem dX5_finish_159 : decode cX5_finish 159 = .ok (.aload_n 0, 1) := by decide +kernel
theorem dX5_finish_160 : decode cX5_finish 160 = .ok (.iconst 0, 1) := by decide +kernel
theorem dX5_finish_161 : decode cX5_finish 161 = .ok (.putfield 74, 3) := by decide +kernel
theorem dX5_finish_164 : decode cX5_finish 164 = .ok (.return_, 1) := by decide +kernel
def X5_finish_b89 (k36 : Nat → Int32 → M Unit)  (a0 : Nat) (i1 : Int32) : M Unit := k36 a0 (i1 + 1)
def X5_finish_b36b  (k36 : Nat → Int32 → M Unit) (a0 : Nat) (i1 : Int32) : M Unit := bd (gR 8 0 a0) (fun y1 => bd (ck 6 y1) (fun _ => bd (X3_count y1) (fun x2 => it (x2 ≤ i1) (bd (gR 8 3 a0) (fun y3 => bd (gR 8 3 a0) (fun y4 => bd (gR 8 3 a0) (fun y5 => bd (ck 4 y5) (fun _ => bd (X1_size y5) (fun x6 => bd (ck 4 y4) (fun _ => bd (X1_sum y4 0 x6) (fun x7 => bd (ck 4 y3) (fun _ => bd (X1_addNumber y3 x7) (fun _ => bd (gR 8 0 a0) (fun y8 => bd (ck 6 y8) (fun _ => bd (X3_takeNumber y8) (fun x9 => bd (pV 8 7 a0 (.int x9)) (fun _ => bd (gR 8 0 a0) (fun y10 => bd (gI 8 7 a0) (fun x11 => bd (gR 8 3 a0) (fun y12 => bd (gR 8 3 a0) (fun y13 => bd (ck 4 y13) (fun _ => bd (X1_size y13) (fun x14 => bd (ck 6 y10) (fun _ => bd (X3_append y10 x11 2 y12 0 x14) (fun _ => bd (gR 8 0 a0) (fun y15 => bd (ck 6 y15) (fun _ => bd (X3_settle y15) (fun _ => bd (pV 8 9 a0 (.int 0)) (fun _ => pu ())))))))))))))))))))))))))) (bd (gR 8 0 a0) (fun y16 => bd (ck 6 y16) (fun _ => bd (X3_at y16 i1) (fun z17 => co z17 (X5_finish_b89 k36  a0 i1) (fun y18 => bd (gI 7 2 y18) (fun x19 => it (¬ x19 = 0) (X5_finish_b89 k36  a0 i1) (bd (gI 7 1 y18) (fun x20 => bd (gI 8 5 a0) (fun x21 => it (x21 ≤ x20) (X5_finish_b89 k36  a0 i1) (bd (gR 8 3 a0) (fun y22 => bd (gI 7 1 y18) (fun x23 => bd (ck 4 y22) (fun _ => bd (X1_addNumber y22 x23) (fun _ => X5_finish_b89 k36  a0 i1)))))))))))))))))
def X5_finish_b36  : Nat → Nat → Int32 → M Unit
  | 0 => fun _ _ => fl
  | n + 1 => fun a0 i1 => X5_finish_b36b  (X5_finish_b36  n) a0 i1
def X5_finish (a0 : Nat) : M Unit := bd (ck 8 a0) (fun _ => bd (X5_writeHint a0) (fun _ => bd (pV 8 6 a0 (.int (-1))) (fun _ => bd (gR 8 3 a0) (fun y1 => bd (ck 4 y1) (fun _ => bd (X1_clear y1) (fun _ => bd (gR 8 3 a0) (fun y2 => bd (gR 8 0 a0) (fun y3 => bd (gI 8 5 a0) (fun x4 => bd (ck 6 y3) (fun _ => bd (X3_countData y3 x4) (fun x5 => bd (ck 4 y2) (fun _ => bd (X1_addNumber y2 x5) (fun _ => X5_finish_b36  FU a0 0)))))))))))))
section
variable {G : Gx} {p : Program} {l : Launch} {e : Env} {R : Room} {s : State} {m : MethodId} {args : Array Value} {below : List Frame} {meth : Method} {c : Code} {h0 : Hp} {r : Unit} {h' : Hp}
set_option maxRecDepth 20000 in
theorem X5_finish_b89_s (C : Cx G p R s m args meth c cX5_finish 3 yX5_finish.cls h0 h') (hF : R.frames = 10) (hO : R.locals = 302) (hr : meth.sig.returnType = none) (hm : meth.name = yX5_finish.name) {k36 : Nat → Int32 → M Unit} (hk36 : ∀ (a0 : Nat) (i1 : Int32), Sm G (QM G rvU below args s h0 r h') p l e R s m args below meth c 3 h0 r h' 36 [(0, .ref a0), (1, .int i1)] [] (k36 a0 i1))  (a0 : Nat) (i1 : Int32) : Sm G (QM G rvU below args s h0 r h') p l e R s m args below meth c 3 h0 r h' 89 [(0, .ref a0), (1, .int i1)] [] (X5_finish_b89 k36  a0 i1) := by
  refine s_iincK (lv' := [(1, .int (i1 + 1)), (0, .ref a0)]) (w := 1) C 1 dX5_finish_89 rfl (by decide) (by decide) rfl ?_
  refine s_goto (tgt := 36) C dX5_finish_92 (by decide) ?_
  refine s_sub [1, 0] rfl ?_
  exact hk36 a0 (i1 + 1)
set_option maxRecDepth 20000 in
theorem X5_finish_b36b_s (C : Cx G p R s m args meth c cX5_finish 3 yX5_finish.cls h0 h') (hF : R.frames = 10) (hO : R.locals = 302) (hr : meth.sig.returnType = none) (hm : meth.name = yX5_finish.name)  {k36 : Nat → Int32 → M Unit} (hk36 : ∀ (a0 : Nat) (i1 : Int32), Sm G (QM G rvU below args s h0 r h') p l e R s m args below meth c 3 h0 r h' 36 [(0, .ref a0), (1, .int i1)] [] (k36 a0 i1)) (a0 : Nat) (i1 : Int32) : Sm G (QM G rvU below args s h0 r h') p l e R s m args below meth c 3 h0 r h' 36 [(0, .ref a0), (1, .int i1)] [] (X5_finish_b36b  k36 a0 i1) := by
  refine s_iload_n C 1 dX5_finish_36 rfl rfl ?_
  refine s_aload_n C 0 dX5_finish_37 rfl rfl ?_
  refine s_gR C ci8 0 (by decide) (Or.inl wd_1_137) dX5_finish_38 (fun y1 => ?_)
  refine s_invV_i C ci6 cy_X3_count (Or.inl wd_6_83) rfl wd_2_172 wd_2_173 (con_X3_count l G y1) rfl rfl (Nat.le_of_ble_eq_true rfl) (by rw [hF]; decide) (by rw [hO]; exact Nat.le_of_ble_eq_true rfl) dX5_finish_41 (fun x2 => ?_)
  refine s_icmp_ge (tgt := 95) C dX5_finish_44 (by decide) ?_ ?_
  · refine s_aload_n C 0 dX5_finish_95 rfl rfl ?_
    refine s_gR C ci8 3 (by decide) (Or.inl wd_1_140) dX5_finish_96 (fun y3 => ?_)
    refine s_aload_n C 0 dX5_finish_99 rfl rfl ?_
    refine s_gR C ci8 3 (by decide) (Or.inl wd_1_140) dX5_finish_100 (fun y4 => ?_)
    refine s_iconst (v := 0) C dX5_finish_103 (by decide) ?_
    refine s_aload_n C 0 dX5_finish_104 rfl rfl ?_
    refine s_gR C ci8 3 (by decide) (Or.inl wd_1_140) dX5_finish_105 (fun y5 => ?_)
    refine s_invV_i C ci4 cy_X1_size (Or.inl wd_6_29) rfl wd_2_147 wd_2_148 (con_X1_size l G y5) rfl rfl (Nat.le_of_ble_eq_true rfl) (by rw [hF]; decide) (by rw [hO]; exact Nat.le_of_ble_eq_true rfl) dX5_finish_108 (fun x6 => ?_)
    refine s_invV_i C ci4 cy_X1_sum (Or.inl wd_6_66) rfl wd_3_157 wd_3_158 (con_X1_sum l G y4 0 x6) rfl rfl (Nat.le_of_ble_eq_true rfl) (by rw [hF]; decide) (by rw [hO]; exact Nat.le_of_ble_eq_true rfl) dX5_finish_111 (fun x7 => ?_)
    refine s_invV_u C ci4 cy_X1_addNumber (Or.inl wd_6_67) rfl wd_3_148 wd_3_149 (con_X1_addNumber l G y3 x7) rfl rfl (Nat.le_of_ble_eq_true rfl) (by rw [hF]; decide) (by rw [hO]; exact Nat.le_of_ble_eq_true rfl) dX5_finish_114 ?_
    refine s_aload_n C 0 dX5_finish_117 rfl rfl ?_
    refine s_aload_n C 0 dX5_finish_118 rfl rfl ?_
    refine s_gR C ci8 0 (by decide) (Or.inl wd_1_137) dX5_finish_119 (fun y8 => ?_)
    refine s_invV_i C ci6 cy_X3_takeNumber (Or.inl wd_6_69) rfl wd_3_189 wd_3_190 (con_X3_takeNumber l G y8) rfl rfl (Nat.le_of_ble_eq_true rfl) (by rw [hF]; decide) (by rw [hO]; exact Nat.le_of_ble_eq_true rfl) dX5_finish_122 (fun x9 => ?_)
    refine s_pV C ci8 7 (by decide) rfl (Or.inl wd_1_146) dX5_finish_125 rfl rfl ?_
    refine s_aload_n C 0 dX5_finish_128 rfl rfl ?_
    refine s_gR C ci8 0 (by decide) (Or.inl wd_1_137) dX5_finish_129 (fun y10 => ?_)
    refine s_aload_n C 0 dX5_finish_132 rfl rfl ?_
    refine s_gI C ci8 7 (by decide) (Or.inl wd_1_146) dX5_finish_133 (fun x11 => ?_)
    refine s_iconst (v := 2) C dX5_finish_136 (by decide) ?_
    refine s_aload_n C 0 dX5_finish_137 rfl rfl ?_
    refine s_gR C ci8 3 (by decide) (Or.inl wd_1_140) dX5_finish_138 (fun y12 => ?_)
    refine s_iconst (v := 0) C dX5_finish_141 (by decide) ?_
    refine s_aload_n C 0 dX5_finish_142 rfl rfl ?_
    refine s_gR C ci8 3 (by decide) (Or.inl wd_1_140) dX5_finish_143 (fun y13 => ?_)
    refine s_invV_i C ci4 cy_X1_size (Or.inl wd_6_29) rfl wd_2_147 wd_2_148 (con_X1_size l G y13) rfl rfl (Nat.le_of_ble_eq_true rfl) (by rw [hF]; decide) (by rw [hO]; exact Nat.le_of_ble_eq_true rfl) dX5_finish_146 (fun x14 => ?_)
    refine s_invV_u C ci6 cy_X3_append (Or.inl wd_6_68) rfl wd_3_193 wd_3_194 (con_X3_append l G y10 x11 2 y12 0 x14) rfl rfl (Nat.le_of_ble_eq_true rfl) (by rw [hF]; decide) (by rw [hO]; exact Nat.le_of_ble_eq_true rfl) dX5_finish_149 ?_
    refine s_aload_n C 0 dX5_finish_152 rfl rfl ?_
    refine s_gR C ci8 0 (by decide) (Or.inl wd_1_137) dX5_finish_153 (fun y15 => ?_)
    refine s_invV_u C ci6 cy_X3_settle (Or.inl wd_6_85) rfl wd_5_130 wd_5_131 (con_X3_settle l G y15) rfl rfl (Nat.le_of_ble_eq_true rfl) (by rw [hF]; decide) (by rw [hO]; exact Nat.le_of_ble_eq_true rfl) dX5_finish_156 ?_
    refine s_aload_n C 0 dX5_finish_159 rfl rfl ?_
    refine s_iconst (v := 0) C dX5_finish_160 (by decide) ?_
    refine s_pV C ci8 9 (by decide) rfl (Or.inl wd_1_148) dX5_finish_161 rfl rfl ?_
    exact s_vret C hr rfl dX5_finish_164
  refine s_aload_n C 0 dX5_finish_47 rfl rfl ?_
  refine s_gR C ci8 0 (by decide) (Or.inl wd_1_137) dX5_finish_48 (fun y16 => ?_)
  refine s_iload_n C 1 dX5_finish_51 rfl rfl ?_
  refine s_invV_o C ci6 cy_X3_at (Or.inl wd_6_84) rfl wd_2_135 wd_2_136 (con_X3_at l G y16 i1) rfl rfl (Nat.le_of_ble_eq_true rfl) (by rw [hF]; decide) (by rw [hO]; exact Nat.le_of_ble_eq_true rfl) dX5_finish_52 (fun z17 => ?_)
  refine s_ostore_n (lv' := [(2, va_rf z17), (0, .ref a0), (1, .int i1)]) C dX5_finish_55 rfl (by decide) rfl ?_
  refine s_oload_n C 0 dX5_finish_56 rfl rfl ?_
  refine s_ifnull (tgt := 89) C dX5_finish_57 (by decide) (fun hq => ?_) (fun y18 hq => ?_)
  · subst hq
    refine s_sub [1, 2] rfl ?_
    exact X5_finish_b89_s C hF hO hr hm hk36  a0 i1
  subst hq
  refine s_aload_n C 0 dX5_finish_60 rfl rfl ?_
  refine s_gI C ci7 2 (by decide) (Or.inr (Or.inr ⟨_, wd_3_225⟩)) dX5_finish_61 (fun x19 => ?_)
  refine s_if_ne (tgt := 89) C dX5_finish_64 (by decide) ?_ ?_
  · refine s_sub [1, 2] rfl ?_
    exact X5_finish_b89_s C hF hO hr hm hk36  a0 i1
  refine s_aload_n C 0 dX5_finish_67 rfl rfl ?_
  refine s_gI C ci7 1 (by decide) (Or.inr (Or.inr ⟨_, wd_3_220⟩)) dX5_finish_68 (fun x20 => ?_)
  refine s_aload_n C 1 dX5_finish_71 rfl rfl ?_
  refine s_gI C ci8 5 (by decide) (Or.inl wd_1_143) dX5_finish_72 (fun x21 => ?_)
  refine s_icmp_ge (tgt := 89) C dX5_finish_75 (by decide) ?_ ?_
  · refine s_sub [1, 2] rfl ?_
    exact X5_finish_b89_s C hF hO hr hm hk36  a0 i1
  refine s_aload_n C 1 dX5_finish_78 rfl rfl ?_
  refine s_gR C ci8 3 (by decide) (Or.inl wd_1_140) dX5_finish_79 (fun y22 => ?_)
  refine s_aload_n C 0 dX5_finish_82 rfl rfl ?_
  refine s_gI C ci7 1 (by decide) (Or.inr (Or.inr ⟨_, wd_3_220⟩)) dX5_finish_83 (fun x23 => ?_)
  refine s_invV_u C ci4 cy_X1_addNumber (Or.inl wd_6_67) rfl wd_3_148 wd_3_149 (con_X1_addNumber l G y22 x23) rfl rfl (Nat.le_of_ble_eq_true rfl) (by rw [hF]; decide) (by rw [hO]; exact Nat.le_of_ble_eq_true rfl) dX5_finish_86 ?_
  refine s_sub [1, 2] rfl ?_
  exact X5_finish_b89_s C hF hO hr hm hk36  a0 i1
set_option maxRecDepth 20000 in
theorem X5_finish_b36_s (C : Cx G p R s m args meth c cX5_finish 3 yX5_finish.cls h0 h') (hF : R.frames = 10) (hO : R.locals = 302) (hr : meth.sig.returnType = none) (hm : meth.name = yX5_finish.name)  (n : Nat) : ∀ (a0 : Nat) (i1 : Int32), Sm G (QM G rvU below args s h0 r h') p l e R s m args below meth c 3 h0 r h' 36 [(0, .ref a0), (1, .int i1)] [] (X5_finish_b36  n a0 i1) := by
  induction n with
  | zero => intro a0 i1; exact s_fl
  | succ n ih => intro a0 i1; exact X5_finish_b36b_s C hF hO hr hm  ih a0 i1
end
set_option maxRecDepth 20000 in
theorem con_X5_finish (l : Launch) (G : Gx) (a0 : Nat) : Con G rvU l yX5_finish cX5_finish 3 none 10 302 [.ref a0] (X5_finish a0) := by
  refine con_of (lv := [(0, .ref a0)]) (by decide) (Nat.le_of_ble_eq_true rfl) rfl (fun p e R s m args below meth c h0 r h' C hF hO hr hm => ?_)
  refine s_aload_n C 0 dX5_finish_0 rfl rfl ?_
  refine s_invV_u C ci8 cy_X5_writeHint (Or.inl wd_6_61) rfl wd_6_63 wp_27 (con_X5_writeHint l G a0) rfl rfl (Nat.le_of_ble_eq_true rfl) (by rw [hF]; decide) (by rw [hO]; exact Nat.le_of_ble_eq_true rfl) dX5_finish_1 ?_
  refine s_aload_n C 0 dX5_finish_4 rfl rfl ?_
  refine s_iconst (v := (-1)) C dX5_finish_5 (by decide) ?_
  refine s_pV C ci8 6 (by decide) rfl (Or.inl wd_1_144) dX5_finish_6 rfl rfl ?_
  refine s_aload_n C 0 dX5_finish_9 rfl rfl ?_
  refine s_gR C ci8 3 (by decide) (Or.inl wd_1_140) dX5_finish_10 (fun y1 => ?_)
  refine s_invV_u C ci4 cy_X1_clear (Or.inl wd_6_76) rfl wd_2_65 wd_2_66 (con_X1_clear l G y1) rfl rfl (Nat.le_of_ble_eq_true rfl) (by rw [hF]; decide) (by rw [hO]; exact Nat.le_of_ble_eq_true rfl) dX5_finish_13 ?_
  refine s_aload_n C 0 dX5_finish_16 rfl rfl ?_
  refine s_gR C ci8 3 (by decide) (Or.inl wd_1_140) dX5_finish_17 (fun y2 => ?_)
  refine s_aload_n C 0 dX5_finish_20 rfl rfl ?_
  refine s_gR C ci8 0 (by decide) (Or.inl wd_1_137) dX5_finish_21 (fun y3 => ?_)
  refine s_aload_n C 0 dX5_finish_24 rfl rfl ?_
  refine s_gI C ci8 5 (by decide) (Or.inl wd_1_143) dX5_finish_25 (fun x4 => ?_)
  refine s_invV_i C ci6 cy_X3_countData (Or.inl wd_2_196) rfl wd_2_197 wd_2_198 (con_X3_countData l G y3 x4) rfl rfl (Nat.le_of_ble_eq_true rfl) (by rw [hF]; decide) (by rw [hO]; exact Nat.le_of_ble_eq_true rfl) dX5_finish_28 (fun x5 => ?_)
  refine s_invV_u C ci4 cy_X1_addNumber (Or.inl wd_6_67) rfl wd_3_148 wd_3_149 (con_X1_addNumber l G y2 x5) rfl rfl (Nat.le_of_ble_eq_true rfl) (by rw [hF]; decide) (by rw [hO]; exact Nat.le_of_ble_eq_true rfl) dX5_finish_31 ?_
  refine s_iconst (v := 0) C dX5_finish_34 (by decide) ?_
  refine s_istore_n (lv' := [(1, .int 0), (0, .ref a0)]) C dX5_finish_35 rfl (by decide) rfl ?_
  refine s_sub [1, 0] rfl ?_
  exact X5_finish_b36_s C hF hO hr hm  FU a0 0

theorem dX5_doUnit_0 : decode cX5_doUnit 0 = .ok (.aload_n 0, 1) := by decide +kernel
theorem dX5_doUnit_1 : decode cX5_doUnit 1 = .ok (.getfield 80, 3) := by decide +kernel
theorem dX5_doUnit_4 : decode cX5_doUnit 4 = .ok (.iconst (-1), 1) := by decide +kernel
theorem dX5_doUnit_5 : decode cX5_doUnit 5 = .ok (.if_icmp .eq 8, 3) := by decide +kernel
theorem dX5_doUnit_8 : decode cX5_doUnit 8 = .ok (.aload_n 0, 1) := by decide +kernel
theorem dX5_doUnit_9 : decode cX5_doUnit 9 = .ok (.invokevirtual 86, 3) := by decide +kernel
theorem dX5_doUnit_12 : decode cX5_doUnit 12 = .ok (.return_, 1) := by decide +kernel
theorem dX5_doUnit_13 : decode cX5_doUnit 13 = .ok (.aload_n 0, 1) := by decide +kernel
theorem dX5_doUnit_14 : decode cX5_doUnit 14 = .ok (.getfield 25, 3) := by decide +kernel
theorem dX5_doUnit_17 : decode cX5_doUnit 17 = .ok (.aload_n 0, 1) := by decide +kernel
theorem dX5_doUnit_18 : decode cX5_doUnit 18 = .ok (.getfield 25, 3) := by decide +kernel
theorem dX5_doUnit_21 : decode cX5_doUnit 21 = .ok (.aload_n 0, 1) := by decide +kernel
theorem dX5_doUnit_22 : decode cX5_doUnit 22 = .ok (.getfield 71, 3) := by decide +kernel
theorem dX5_doUnit_25 : decode cX5_doUnit 25 = .ok (.iconst (-1), 1) := by decide +kernel
theorem dX5_doUnit_26 : decode cX5_doUnit 26 = .ok (.invokevirtual 45, 3) := by decide +kernel
theorem dX5_doUnit_29 : decode cX5_doUnit 29 = .ok (.invokevirtual 49, 3) := by decide +kernel
theorem dX5_doUnit_32 : decode cX5_doUnit 32 = .ok (.astore_n 1, 1) := by decide +kernel
theorem dX5_doUnit_33 : decode cX5_doUnit 33 = .ok (.aload_n 1, 1) := by decide +kernel
theorem dX5_doUnit_34 : decode cX5_doUnit 34 = .ok (.ifnull 11, 3) := by decide +kernel
theorem dX5_doUnit_37 : decode cX5_doUnit 37 = .ok (.aload_n 0, 1) := by decide +kernel
theorem dX5_doUnit_38 : decode cX5_doUnit 38 = .ok (.aload_n 1, 1) := by decide +kernel
theorem dX5_doUnit_39 : decode cX5_doUnit 39 = .ok (.invokevirtual 89, 3) := by decide +kernel
theorem dX5_doUnit_42 : decode cX5_doUnit 42 = .ok (.goto 7, 3) := by decide +kernel
theorem dX5_doUnit_45 : decode cX5_doUnit 45 = .ok (.aload_n 0, 1) := by decide +kernel
theorem dX5_doUnit_46 : decode cX5_doUnit 46 = .ok (.invokevirtual 93, 3) := by decide +kernel
theorem dX5_doUnit_49 : decode cX5_doUnit 49 = .ok (.return_, 1) := by decide +kernel
def X5_doUnit (a0 : Nat) : M Unit := bd (gI 8 7 a0) (fun x1 => it (x1 = (-1)) (bd (gR 8 1 a0) (fun y2 => bd (gR 8 1 a0) (fun y3 => bd (gI 8 5 a0) (fun x4 => bd (ck 5 y3) (fun _ => bd (X2_nextBelow y3 x4 (-1)) (fun x5 => bd (ck 5 y2) (fun _ => bd (X2_row y2 x5) (fun z6 => co z6 (bd (ck 8 a0) (fun _ => bd (X5_finish a0) (fun _ => pu ()))) (fun y7 => bd (ck 8 a0) (fun _ => bd (X5_copy a0 y7) (fun _ => pu ()))))))))))) (bd (ck 8 a0) (fun _ => bd (X5_removeNext a0) (fun _ => pu ()))))
section
variable {G : Gx} {p : Program} {l : Launch} {e : Env} {R : Room} {s : State} {m : MethodId} {args : Array Value} {below : List Frame} {meth : Method} {c : Code} {h0 : Hp} {r : Unit} {h' : Hp}
end
set_option maxRecDepth 20000 in
theorem con_X5_doUnit (l : Launch) (G : Gx) (a0 : Nat) : Con G rvU l yX5_doUnit cX5_doUnit 2 none 11 326 [.ref a0] (X5_doUnit a0) := by
  refine con_of (lv := [(0, .ref a0)]) (by decide) (Nat.le_of_ble_eq_true rfl) rfl (fun p e R s m args below meth c h0 r h' C hF hO hr hm => ?_)
  refine s_aload_n C 0 dX5_doUnit_0 rfl rfl ?_
  refine s_gI C ci8 7 (by decide) (Or.inl wd_1_146) dX5_doUnit_1 (fun x1 => ?_)
  refine s_iconst (v := (-1)) C dX5_doUnit_4 (by decide) ?_
  refine s_icmp_eq (tgt := 13) C dX5_doUnit_5 (by decide) ?_ ?_
  · refine s_aload_n C 0 dX5_doUnit_13 rfl rfl ?_
    refine s_gR C ci8 1 (by decide) (Or.inl wd_1_138) dX5_doUnit_14 (fun y2 => ?_)
    refine s_aload_n C 0 dX5_doUnit_17 rfl rfl ?_
    refine s_gR C ci8 1 (by decide) (Or.inl wd_1_138) dX5_doUnit_18 (fun y3 => ?_)
    refine s_aload_n C 0 dX5_doUnit_21 rfl rfl ?_
    refine s_gI C ci8 5 (by decide) (Or.inl wd_1_143) dX5_doUnit_22 (fun x4 => ?_)
    refine s_iconst (v := (-1)) C dX5_doUnit_25 (by decide) ?_
    refine s_invV_i C ci5 cy_X2_nextBelow (Or.inl wd_6_14) rfl wd_6_15 wd_6_16 (con_X2_nextBelow l G y3 x4 (-1)) rfl rfl (Nat.le_of_ble_eq_true rfl) (by rw [hF]; decide) (by rw [hO]; exact Nat.le_of_ble_eq_true rfl) dX5_doUnit_26 (fun x5 => ?_)
    refine s_invV_o C ci5 cy_X2_row (Or.inl wd_6_27) rfl wd_2_159 wd_2_160 (con_X2_row l G y2 x5) rfl rfl (Nat.le_of_ble_eq_true rfl) (by rw [hF]; decide) (by rw [hO]; exact Nat.le_of_ble_eq_true rfl) dX5_doUnit_29 (fun z6 => ?_)
    refine s_ostore_n (lv' := [(1, va_rf z6), (0, .ref a0)]) C dX5_doUnit_32 rfl (by decide) rfl ?_
    refine s_oload_n C 0 dX5_doUnit_33 rfl rfl ?_
    refine s_ifnull (tgt := 45) C dX5_doUnit_34 (by decide) (fun hq => ?_) (fun y7 hq => ?_)
    · subst hq
      refine s_aload_n C 1 dX5_doUnit_45 rfl rfl ?_
      refine s_invV_u C ci8 cy_X5_finish (Or.inl wd_6_79) rfl wd_6_81 wp_29 (con_X5_finish l G a0) rfl rfl (Nat.le_of_ble_eq_true rfl) (by rw [hF]; decide) (by rw [hO]; exact Nat.le_of_ble_eq_true rfl) dX5_doUnit_46 ?_
      exact s_vret C hr rfl dX5_doUnit_49
    subst hq
    refine s_aload_n C 1 dX5_doUnit_37 rfl rfl ?_
    refine s_aload_n C 0 dX5_doUnit_38 rfl rfl ?_
    refine s_invV_u C ci8 cy_X5_copy (Or.inl wd_6_56) rfl wd_6_58 wp_26 (con_X5_copy l G a0 y7) rfl rfl (Nat.le_of_ble_eq_true rfl) (by rw [hF]; decide) (by rw [hO]; exact Nat.le_of_ble_eq_true rfl) dX5_doUnit_39 ?_
    refine s_goto (tgt := 49) C dX5_doUnit_42 (by decide) ?_
    exact s_vret C hr rfl dX5_doUnit_49
  refine s_aload_n C 0 dX5_doUnit_8 rfl rfl ?_
  refine s_invV_u C ci8 cy_X5_removeNext (Or.inl wd_6_49) rfl wd_6_51 wp_25 (con_X5_removeNext l G a0) rfl rfl (Nat.le_of_ble_eq_true rfl) (by rw [hF]; decide) (by rw [hO]; exact Nat.le_of_ble_eq_true rfl) dX5_doUnit_9 ?_
  exact s_vret C hr rfl dX5_doUnit_12
