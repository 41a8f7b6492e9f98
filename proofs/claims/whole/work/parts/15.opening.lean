theorem dX6_init_0 : decode cX6_init 0 = .ok (.aload_n 0, 1) := by decide +kernel
theorem dX6_init_1 : decode cX6_init 1 = .ok (.invokespecial 3, 3) := by decide +kernel
theorem dX6_init_4 : decode cX6_init 4 = .ok (.aload_n 0, 1) := by decide +kernel
theorem dX6_init_5 : decode cX6_init 5 = .ok (.aload_n 1, 1) := by decide +kernel
theorem dX6_init_6 : decode cX6_init 6 = .ok (.putfield 9, 3) := by decide +kernel
theorem dX6_init_9 : decode cX6_init 9 = .ok (.aload_n 0, 1) := by decide +kernel
theorem dX6_init_10 : decode cX6_init 10 = .ok (.aload_n 2, 1) := by decide +kernel
theorem dX6_init_11 : decode cX6_init 11 = .ok (.putfield 15, 3) := by decide +kernel
theorem dX6_init_14 : decode cX6_init 14 = .ok (.return_, 1) := by decide +kernel
def X6_init (a0 : Nat) (a1 : Nat) (a2 : Nat) : M Unit := bd (pV 9 0 a0 (.ref a1)) (fun _ => bd (pV 9 1 a0 (.ref a2)) (fun _ => pu ()))
section
variable {G : Gx} {p : Program} {l : Launch} {e : Env} {R : Room} {s : State} {m : MethodId} {args : Array Value} {below : List Frame} {meth : Method} {c : Code} {h0 : Hp} {r : Unit} {h' : Hp}
end
set_option maxRecDepth 20000 in
theorem con_X6_init (l : Launch) (G : Gx) (a0 : Nat) (a1 : Nat) (a2 : Nat) : Con G rvU l yX6_init cX6_init 3 none 1 30 [.ref a0, .ref a1, .ref a2] (X6_init a0 a1 a2) := by
  refine con_of (lv := [(0, .ref a0), (1, .ref a1), (2, .ref a2)]) (by decide) (Nat.le_of_ble_eq_true rfl) rfl (fun p e R s m args below meth c h0 r h' C hF hO hr hm => ?_)
  refine s_aload_n C 0 dX6_init_0 rfl rfl ?_
  refine s_obj C wd_1_176 wd_1_39 wd_1_40 (by rw [hF]; decide) (by rw [hO]; exact Nat.le_of_ble_eq_true rfl) dX6_init_1 ?_
  refine s_aload_n C 0 dX6_init_4 rfl rfl ?_
  refine s_aload_n C 1 dX6_init_5 rfl rfl ?_
  refine s_pF C ci9 0 (by decide) rfl rfl hm wd_1_177 dX6_init_6 rfl rfl ?_
  refine s_aload_n C 0 dX6_init_9 rfl rfl ?_
  refine s_aload_n C 2 dX6_init_10 rfl rfl ?_
  refine s_pF C ci9 1 (by decide) rfl rfl hm wd_1_178 dX6_init_11 rfl rfl ?_
  exact s_vret C hr rfl dX6_init_14

theorem dX6_clear_0 : decode cX6_clear 0 = .ok (.aload_n 0, 1) := by decide +kernel
theorem dX6_clear_1 : decode cX6_clear 1 = .ok (.iconst 0, 1) := by decide +kernel
theorem dX6_clear_2 : decode cX6_clear 2 = .ok (.putfield 19, 3) := by decide +kernel
theorem dX6_clear_5 : decode cX6_clear 5 = .ok (.aload_n 0, 1) := by decide +kernel
theorem dX6_clear_6 : decode cX6_clear 6 = .ok (.iconst 0, 1) := by decide +kernel
theorem dX6_clear_7 : decode cX6_clear 7 = .ok (.putfield 23, 3) := by decide +kernel
theorem dX6_clear_10 : decode cX6_clear 10 = .ok (.aload_n 0, 1) := by decide +kernel
theorem dX6_clear_11 : decode cX6_clear 11 = .ok (.iconst 0, 1) := by decide +kernel
theorem dX6_clear_12 : decode cX6_clear 12 = .ok (.putfield 26, 3) := by decide +kernel
theorem dX6_clear_15 : decode cX6_clear 15 = .ok (.aload_n 0, 1) := by decide +kernel
theorem dX6_clear_16 : decode cX6_clear 16 = .ok (.iconst 0, 1) := by decide +kernel
theorem dX6_clear_17 : decode cX6_clear 17 = .ok (.putfield 29, 3) := by decide +kernel
theorem dX6_clear_20 : decode cX6_clear 20 = .ok (.aload_n 0, 1) := by decide +kernel
theorem dX6_clear_21 : decode cX6_clear 21 = .ok (.iconst 0, 1) := by decide +kernel
theorem dX6_clear_22 : decode cX6_clear 22 = .ok (.putfield 32, 3) := by decide +kernel
theorem dX6_clear_25 : decode cX6_clear 25 = .ok (.return_, 1) := by decide +kernel
def X6_clear (a0 : Nat) : M Unit := bd (pV 9 2 a0 (.int 0)) (fun _ => bd (pV 9 3 a0 (.int 0)) (fun _ => bd (pV 9 4 a0 (.int 0)) (fun _ => bd (pV 9 5 a0 (.int 0)) (fun _ => bd (pV 9 6 a0 (.int 0)) (fun _ => pu ())))))
section
variable {G : Gx} {p : Program} {l : Launch} {e : Env} {R : Room} {s : State} {m : MethodId} {args : Array Value} {below : List Frame} {meth : Method} {c : Code} {h0 : Hp} {r : Unit} {h' : Hp}
end
set_option maxRecDepth 20000 in
theorem con_X6_clear (l : Launch) (G : Gx) (a0 : Nat) : Con G rvU l yX6_clear cX6_clear 1 none 0 0 [.ref a0] (X6_clear a0) := by
  refine con_of (lv := [(0, .ref a0)]) (by decide) (Nat.le_of_ble_eq_true rfl) rfl (fun p e R s m args below meth c h0 r h' C hF hO hr hm => ?_)
  refine s_aload_n C 0 dX6_clear_0 rfl rfl ?_
  refine s_iconst (v := 0) C dX6_clear_1 (by decide) ?_
  refine s_pV C ci9 2 (by decide) rfl (Or.inl wd_1_179) dX6_clear_2 rfl rfl ?_
  refine s_aload_n C 0 dX6_clear_5 rfl rfl ?_
  refine s_iconst (v := 0) C dX6_clear_6 (by decide) ?_
  refine s_pV C ci9 3 (by decide) rfl (Or.inl wd_1_181) dX6_clear_7 rfl rfl ?_
  refine s_aload_n C 0 dX6_clear_10 rfl rfl ?_
  refine s_iconst (v := 0) C dX6_clear_11 (by decide) ?_
  refine s_pV C ci9 4 (by decide) rfl (Or.inl wd_1_183) dX6_clear_12 rfl rfl ?_
  refine s_aload_n C 0 dX6_clear_15 rfl rfl ?_
  refine s_iconst (v := 0) C dX6_clear_16 (by decide) ?_
  refine s_pV C ci9 5 (by decide) rfl (Or.inl wd_1_185) dX6_clear_17 rfl rfl ?_
  refine s_aload_n C 0 dX6_clear_20 rfl rfl ?_
  refine s_iconst (v := 0) C dX6_clear_21 (by decide) ?_
  refine s_pV C ci9 6 (by decide) rfl (Or.inl wd_1_187) dX6_clear_22 rfl rfl ?_
  exact s_vret C hr rfl dX6_clear_25

theorem dX6_isGoodMark_0 : decode cX6_isGoodMark 0 = .ok (.aload_n 0, 1) := by decide +kernel
theorem dX6_isGoodMark_1 : decode cX6_isGoodMark 1 = .ok (.invokevirtual 76, 3) := by decide +kernel
theorem dX6_isGoodMark_4 : decode cX6_isGoodMark 4 = .ok (.iconst 4, 1) := by decide +kernel
theorem dX6_isGoodMark_5 : decode cX6_isGoodMark 5 = .ok (.isub, 1) := by decide +kernel
theorem dX6_isGoodMark_6 : decode cX6_isGoodMark 6 = .ok (.istore_n 1, 1) := by decide +kernel
theorem dX6_isGoodMark_7 : decode cX6_isGoodMark 7 = .ok (.iload_n 1, 1) := by decide +kernel
theorem dX6_isGoodMark_8 : decode cX6_isGoodMark 8 = .ok (.iconst 4, 1) := by decide +kernel
theorem dX6_isGoodMark_9 : decode cX6_isGoodMark 9 = .ok (.if_icmp .lt 44, 3) := by decide +kernel
theorem dX6_isGoodMark_12 : decode cX6_isGoodMark 12 = .ok (.aload_n 0, 1) := by decide +kernel
theorem dX6_isGoodMark_13 : decode cX6_isGoodMark 13 = .ok (.invokevirtual 76, 3) := by decide +kernel
theorem dX6_isGoodMark_16 : decode cX6_isGoodMark 16 = .ok (.i2l, 1) := by decide +kernel
theorem dX6_isGoodMark_17 : decode cX6_isGoodMark 17 = .ok (.ldc2_w 137, 3) := by decide +kernel
theorem dX6_isGoodMark_20 : decode cX6_isGoodMark 20 = .ok (.aload_n 0, 1) := by decide +kernel
theorem dX6_isGoodMark_21 : decode cX6_isGoodMark 21 = .ok (.iconst 0, 1) := by decide +kernel
theorem dX6_isGoodMark_22 : decode cX6_isGoodMark 22 = .ok (.invokevirtual 102, 3) := by decide +kernel
theorem dX6_isGoodMark_25 : decode cX6_isGoodMark 25 = .ok (.i2l, 1) := by decide +kernel
theorem dX6_isGoodMark_26 : decode cX6_isGoodMark 26 = .ok (.lmul, 1) := by decide +kernel
theorem dX6_isGoodMark_27 : decode cX6_isGoodMark 27 = .ok (.ldc2_w 139, 3) := by decide +kernel
theorem dX6_isGoodMark_30 : decode cX6_isGoodMark 30 = .ok (.ladd, 1) := by decide +kernel
theorem dX6_isGoodMark_31 : decode cX6_isGoodMark 31 = .ok (.lcmp, 1) := by decide +kernel
theorem dX6_isGoodMark_32 : decode cX6_isGoodMark 32 = .ok (.ifCond .ne 21, 3) := by decide +kernel
theorem dX6_isGoodMark_35 : decode cX6_isGoodMark 35 = .ok (.aload_n 0, 1) := by decide +kernel
theorem dX6_isGoodMark_36 : decode cX6_isGoodMark 36 = .ok (.iload_n 1, 1) := by decide +kernel
theorem dX6_isGoodMark_37 : decode cX6_isGoodMark 37 = .ok (.invokevirtual 102, 3) := by decide +kernel
theorem dX6_isGoodMark_40 : decode cX6_isGoodMark 40 = .ok (.aload_n 0, 1) := by decide +kernel
theorem dX6_isGoodMark_41 : decode cX6_isGoodMark 41 = .ok (.iconst 0, 1) := by decide +kernel
theorem dX6_isGoodMark_42 : decode cX6_isGoodMark 42 = .ok (.iload_n 1, 1) := by decide +kernel
theorem dX6_isGoodMark_43 : decode cX6_isGoodMark 43 = .ok (.invokevirtual 141, 3) := by decide +kernel
theorem dX6_isGoodMark_46 : decode cX6_isGoodMark 46 = .ok (.if_icmp .ne 7, 3) := by decide +kernel
theorem dX6_isGoodMark_49 : decode cX6_isGoodMark 49 = .ok (.iconst 1, 1) := by decide +kernel
theorem dX6_isGoodMark_50 : decode cX6_isGoodMark 50 = .ok (.goto 4, 3) := by decide +kernel
theorem dX6_isGoodMark_53 : decode cX6_isGoodMark 53 = .ok (.iconst 0, 1) := by decide +kernel
theorem dX6_isGoodMark_54 : decode cX6_isGoodMark 54 = .ok (.ireturn, 1) := by decide +kernel
def X6_isGoodMark (a0 : Nat) : M Int32 := bd (ck 4 a0) (fun _ => bd (X1_size a0) (fun x1 => bd (pu (x1 - 4)) (fun x2 => it (x2 < 4) (pu 0) (bd (ck 4 a0) (fun _ => bd (X1_size a0) (fun x3 => bd (ck 4 a0) (fun _ => bd (X1_numberAt a0 0) (fun x4 => it (¬ (lg_cmp ((x3 : Int32).toInt64) ((4 * ((x4 : Int32).toInt64)) + 8)) = 0) (pu 0) (bd (ck 4 a0) (fun _ => bd (X1_numberAt a0 x2) (fun x5 => bd (ck 4 a0) (fun _ => bd (X1_sum a0 0 x2) (fun x6 => it (¬ x5 = x6) (pu 0) (pu 1))))))))))))))
section
variable {G : Gx} {p : Program} {l : Launch} {e : Env} {R : Room} {s : State} {m : MethodId} {args : Array Value} {below : List Frame} {meth : Method} {c : Code} {h0 : Hp} {r : Int32} {h' : Hp}
end
set_option maxRecDepth 20000 in
theorem con_X6_isGoodMark (l : Launch) (G : Gx) (a0 : Nat) : Con G rvI l yX6_isGoodMark cX6_isGoodMark 2 (some .boolean) 3 63 [.ref a0] (X6_isGoodMark a0) := by
  refine con_of (lv := [(0, .ref a0)]) (by decide) (Nat.le_of_ble_eq_true rfl) rfl (fun p e R s m args below meth c h0 r h' C hF hO hr hm => ?_)
  refine s_aload_n C 0 dX6_isGoodMark_0 rfl rfl ?_
  refine s_invV_i C ci4 cy_X1_size (Or.inl wd_5_179) rfl wd_2_147 wd_2_148 (con_X1_size l G a0) rfl rfl (Nat.le_of_ble_eq_true rfl) (by rw [hF]; decide) (by rw [hO]; exact Nat.le_of_ble_eq_true rfl) dX6_isGoodMark_1 (fun x1 => ?_)
  refine s_iconst (v := 4) C dX6_isGoodMark_4 (by decide) ?_
  refine s_isub C dX6_isGoodMark_5 ?_
  refine s_let (fun x2 => ?_)
  refine s_istore_n (lv' := [(1, .int x2), (0, .ref a0)]) C dX6_isGoodMark_6 rfl (by decide) rfl ?_
  refine s_iload_n C 0 dX6_isGoodMark_7 rfl rfl ?_
  refine s_iconst (v := 4) C dX6_isGoodMark_8 (by decide) ?_
  refine s_icmp_lt (tgt := 53) C dX6_isGoodMark_9 (by decide) ?_ ?_
  · refine s_iconst (v := 0) C dX6_isGoodMark_53 (by decide) ?_
    exact s_zret C hr rfl (Or.inl rfl) dX6_isGoodMark_54
  refine s_aload_n C 1 dX6_isGoodMark_12 rfl rfl ?_
  refine s_invV_i C ci4 cy_X1_size (Or.inl wd_5_179) rfl wd_2_147 wd_2_148 (con_X1_size l G a0) rfl rfl (Nat.le_of_ble_eq_true rfl) (by rw [hF]; decide) (by rw [hO]; exact Nat.le_of_ble_eq_true rfl) dX6_isGoodMark_13 (fun x3 => ?_)
  refine s_i2l C dX6_isGoodMark_16 ?_
  refine s_ldc2 C dX6_isGoodMark_17 wd_5_180 ?_
  refine s_aload_n C 1 dX6_isGoodMark_20 rfl rfl ?_
  refine s_iconst (v := 0) C dX6_isGoodMark_21 (by decide) ?_
  refine s_invV_i C ci4 cy_X1_numberAt (Or.inl wd_5_181) rfl wd_5_113 wd_5_114 (con_X1_numberAt l G a0 0) rfl rfl (Nat.le_of_ble_eq_true rfl) (by rw [hF]; decide) (by rw [hO]; exact Nat.le_of_ble_eq_true rfl) dX6_isGoodMark_22 (fun x4 => ?_)
  refine s_i2l C dX6_isGoodMark_25 ?_
  refine s_lmul C dX6_isGoodMark_26 ?_
  refine s_ldc2 C dX6_isGoodMark_27 wd_5_182 ?_
  refine s_ladd C dX6_isGoodMark_30 ?_
  refine s_lcmp C dX6_isGoodMark_31 ?_
  refine s_if_ne (tgt := 53) C dX6_isGoodMark_32 (by decide) ?_ ?_
  · refine s_iconst (v := 0) C dX6_isGoodMark_53 (by decide) ?_
    exact s_zret C hr rfl (Or.inl rfl) dX6_isGoodMark_54
  refine s_aload_n C 1 dX6_isGoodMark_35 rfl rfl ?_
  refine s_iload_n C 0 dX6_isGoodMark_36 rfl rfl ?_
  refine s_invV_i C ci4 cy_X1_numberAt (Or.inl wd_5_181) rfl wd_5_113 wd_5_114 (con_X1_numberAt l G a0 x2) rfl rfl (Nat.le_of_ble_eq_true rfl) (by rw [hF]; decide) (by rw [hO]; exact Nat.le_of_ble_eq_true rfl) dX6_isGoodMark_37 (fun x5 => ?_)
  refine s_aload_n C 1 dX6_isGoodMark_40 rfl rfl ?_
  refine s_iconst (v := 0) C dX6_isGoodMark_41 (by decide) ?_
  refine s_iload_n C 0 dX6_isGoodMark_42 rfl rfl ?_
  refine s_invV_i C ci4 cy_X1_sum (Or.inl wd_5_183) rfl wd_3_157 wd_3_158 (con_X1_sum l G a0 0 x2) rfl rfl (Nat.le_of_ble_eq_true rfl) (by rw [hF]; decide) (by rw [hO]; exact Nat.le_of_ble_eq_true rfl) dX6_isGoodMark_43 (fun x6 => ?_)
  refine s_icmp_ne (tgt := 53) C dX6_isGoodMark_46 (by decide) ?_ ?_
  · refine s_iconst (v := 0) C dX6_isGoodMark_53 (by decide) ?_
    exact s_zret C hr rfl (Or.inl rfl) dX6_isGoodMark_54
  refine s_iconst (v := 1) C dX6_isGoodMark_49 (by decide) ?_
  refine s_goto (tgt := 54) C dX6_isGoodMark_50 (by decide) ?_
  exact s_zret C hr rfl (Or.inr rfl) dX6_isGoodMark_54

theorem dX6_discard_0 : decode cX6_discard 0 = .ok (.aload_n 0, 1) := by decide +kernel
theorem dX6_discard_1 : decode cX6_discard 1 = .ok (.getfield 9, 3) := by decide +kernel
theorem dX6_discard_4 : decode cX6_discard 4 = .ok (.iload_n 1, 1) := by decide +kernel
theorem dX6_discard_5 : decode cX6_discard 5 = .ok (.iload_n 2, 1) := by decide +kernel
theorem dX6_discard_6 : decode cX6_discard 6 = .ok (.invokevirtual 134, 3) := by decide +kernel
theorem dX6_discard_9 : decode cX6_discard 9 = .ok (.ifCond .eq 13, 3) := by decide +kernel
theorem dX6_discard_12 : decode cX6_discard 12 = .ok (.aload_n 0, 1) := by decide +kernel
theorem dX6_discard_13 : decode cX6_discard 13 = .ok (.dup, 1) := by decide +kernel
theorem dX6_discard_14 : decode cX6_discard 14 = .ok (.getfield 29, 3) := by decide +kernel
theorem dX6_discard_17 : decode cX6_discard 17 = .ok (.iconst 1, 1) := by decide +kernel
theorem dX6_discard_18 : decode cX6_discard 18 = .ok (.iadd, 1) := by decide +kernel
theorem dX6_discard_19 : decode cX6_discard 19 = .ok (.putfield 29, 3) := by decide +kernel
theorem dX6_discard_22 : decode cX6_discard 22 = .ok (.return_, 1) := by decide +kernel
def X6_discard (a0 : Nat) (i1 : Int32) (i2 : Int32) : M Unit := bd (gR 9 0 a0) (fun y1 => bd (ck 6 y1) (fun _ => bd (X3_discard y1 i1 i2) (fun x2 => it (x2 = 0) (pu ()) (bd (gI 9 5 a0) (fun x3 => bd (pV 9 5 a0 (.int (x3 + 1))) (fun _ => pu ()))))))
section
variable {G : Gx} {p : Program} {l : Launch} {e : Env} {R : Room} {s : State} {m : MethodId} {args : Array Value} {below : List Frame} {meth : Method} {c : Code} {h0 : Hp} {r : Unit} {h' : Hp}
end
set_option maxRecDepth 20000 in
theorem con_X6_discard (l : Launch) (G : Gx) (a0 : Nat) (i1 : Int32) (i2 : Int32) : Con G rvU l yX6_discard cX6_discard 3 none 9 276 [.ref a0, .int i1, .int i2] (X6_discard a0 i1 i2) := by
  refine con_of (lv := [(0, .ref a0), (1, .int i1), (2, .int i2)]) (by decide) (Nat.le_of_ble_eq_true rfl) rfl (fun p e R s m args below meth c h0 r h' C hF hO hr hm => ?_)
  refine s_aload_n C 0 dX6_discard_0 rfl rfl ?_
  refine s_gR C ci9 0 (by decide) (Or.inl wd_1_177) dX6_discard_1 (fun y1 => ?_)
  refine s_iload_n C 1 dX6_discard_4 rfl rfl ?_
  refine s_iload_n C 2 dX6_discard_5 rfl rfl ?_
  refine s_invV_i C ci6 cy_X3_discard (Or.inl wd_5_192) rfl wd_5_193 wd_5_194 (con_X3_discard l G y1 i1 i2) rfl rfl (Nat.le_of_ble_eq_true rfl) (by rw [hF]; decide) (by rw [hO]; exact Nat.le_of_ble_eq_true rfl) dX6_discard_6 (fun x2 => ?_)
  refine s_if_eq (tgt := 22) C dX6_discard_9 (by decide) ?_ ?_
  · exact s_vret C hr rfl dX6_discard_22
  refine s_aload_n C 0 dX6_discard_12 rfl rfl ?_
  refine s_dup C dX6_discard_13 rfl ?_
  refine s_gI C ci9 5 (by decide) (Or.inl wd_1_185) dX6_discard_14 (fun x3 => ?_)
  refine s_iconst (v := 1) C dX6_discard_17 (by decide) ?_
  refine s_iadd C dX6_discard_18 ?_
  refine s_pV C ci9 5 (by decide) rfl (Or.inl wd_1_185) dX6_discard_19 rfl rfl ?_
  exact s_vret C hr rfl dX6_discard_22

theorem dX6_removeNamed_0 : decode cX6_removeNamed 0 = .ok (.aload_n 1, 1) := by decide +kernel
theorem dX6_removeNamed_1 : decode cX6_removeNamed 1 = .ok (.invokevirtual 76, 3) := by decide +kernel
theorem dX6_removeNamed_4 : decode cX6_removeNamed 4 = .ok (.iconst 4, 1) := by decide +kernel
theorem dX6_removeNamed_5 : decode cX6_removeNamed 5 = .ok (.isub, 1) := by decide +kernel
theorem dX6_removeNamed_6 : decode cX6_removeNamed 6 = .ok (.istore_n 2, 1) := by decide +kernel
theorem dX6_removeNamed_7 : decode cX6_removeNamed 7 = .ok (.iconst 4, 1) := by decide +kernel
theorem dX6_removeNamed_8 : decode cX6_removeNamed 8 = .ok (.istore_n 3, 1) := by decide +kernel
theorem dX6_removeNamed_9 : decode cX6_removeNamed 9 = .ok (.iload_n 3, 1) := by decide +kernel
theorem dX6_removeNamed_10 : decode cX6_removeNamed 10 = .ok (.iload_n 2, 1) := by decide +kernel
theorem dX6_removeNamed_11 : decode cX6_removeNamed 11 = .ok (.if_icmp .ge 30, 3) := by decide +kernel
theorem dX6_removeNamed_14 : decode cX6_removeNamed 14 = .ok (.aload_n 1, 1) := by decide +kernel
theorem dX6_removeNamed_15 : decode cX6_removeNamed 15 = .ok (.iload_n 3, 1) := by decide +kernel
theorem dX6_removeNamed_16 : decode cX6_removeNamed 16 = .ok (.invokevirtual 102, 3) := by decide +kernel
theorem dX6_removeNamed_19 : decode cX6_removeNamed 19 = .ok (.istore 4, 2) := by decide +kernel
theorem dX6_removeNamed_21 : decode cX6_removeNamed 21 = .ok (.aload_n 0, 1) := by decide +kernel
theorem dX6_removeNamed_22 : decode cX6_removeNamed 22 = .ok (.iload 4, 2) := by decide +kernel
theorem dX6_removeNamed_24 : decode cX6_removeNamed 24 = .ok (.iconst 0, 1) := by decide +kernel
theorem dX6_removeNamed_25 : decode cX6_removeNamed 25 = .ok (.invokevirtual 62, 3) := by decide +kernel
theorem dX6_removeNamed_28 : decode cX6_removeNamed 28 = .ok (.aload_n 0, 1) := by decide +kernel
theorem dX6_removeNamed_29 : decode cX6_removeNamed 29 = .ok (.iload 4, 2) := by decide +kernel
theorem dX6_removeNamed_31 : decode cX6_removeNamed 31 = .ok (.iconst 1, 1) := by decide +kernel
theorem dX6_removeNamed_32 : decode cX6_removeNamed 32 = .ok (.invokevirtual 62, 3) := by decide +kernel
theorem dX6_removeNamed_35 : decode cX6_removeNamed 35 = .ok (.iinc 3 4, 3) := by decide +kernel
theorem dX6_removeNamed_38 : decode cX6_removeNamed 38 = .ok (.goto (-29), 3) := by decide +kernel
theorem dX6_removeNamed_41 : decode cX6_removeNamed 41 = .ok (.return_, 1) := by decide +kernel
def X6_removeNamed_b9b  (k9 : Nat → Nat → Int32 → Int32 → M Unit) (a0 : Nat) (a1 : Nat) (i2 : Int32) (i3 : Int32) : M Unit := it (i2 ≤ i3) (pu ()) (bd (ck 4 a1) (fun _ => bd (X1_numberAt a1 i3) (fun x1 => bd (ck 9 a0) (fun _ => bd (X6_discard a0 x1 0) (fun _ => bd (ck 9 a0) (fun _ => bd (X6_discard a0 x1 1) (fun _ => k9 a0 a1 i2 (i3 + 4))))))))
def X6_removeNamed_b9  : Nat → Nat → Nat → Int32 → Int32 → M Unit
  | 0 => fun _ _ _ _ => fl
  | n + 1 => fun a0 a1 i2 i3 => X6_removeNamed_b9b  (X6_removeNamed_b9  n) a0 a1 i2 i3
def X6_removeNamed (a0 : Nat) (a1 : Nat) : M Unit := bd (ck 4 a1) (fun _ => bd (X1_size a1) (fun x1 => bd (pu (x1 - 4)) (fun x2 => X6_removeNamed_b9  FU a0 a1 x2 4)))
section
variable {G : Gx} {p : Program} {l : Launch} {e : Env} {R : Room} {s : State} {m : MethodId} {args : Array Value} {below : List Frame} {meth : Method} {c : Code} {h0 : Hp} {r : Unit} {h' : Hp}
set_option maxRecDepth 20000 in
theorem X6_removeNamed_b9b_s (C : Cx G p R s m args meth c cX6_removeNamed 5 yX6_removeNamed.cls h0 h') (hF : R.frames = 10) (hO : R.locals = 298) (hr : meth.sig.returnType = none) (hm : meth.name = yX6_removeNamed.name)  {k9 : Nat → Nat → Int32 → Int32 → M Unit} (hk9 : ∀ (a0 : Nat) (a1 : Nat) (i2 : Int32) (i3 : Int32), Sm G (QM G rvU below args s h0 r h') p l e R s m args below meth c 5 h0 r h' 9 [(0, .ref a0), (1, .ref a1), (2, .int i2), (3, .int i3)] [] (k9 a0 a1 i2 i3)) (a0 : Nat) (a1 : Nat) (i2 : Int32) (i3 : Int32) : Sm G (QM G rvU below args s h0 r h') p l e R s m args below meth c 5 h0 r h' 9 [(0, .ref a0), (1, .ref a1), (2, .int i2), (3, .int i3)] [] (X6_removeNamed_b9b  k9 a0 a1 i2 i3) := by
  refine s_iload_n C 3 dX6_removeNamed_9 rfl rfl ?_
  refine s_iload_n C 2 dX6_removeNamed_10 rfl rfl ?_
  refine s_icmp_ge (tgt := 41) C dX6_removeNamed_11 (by decide) ?_ ?_
  · exact s_vret C hr rfl dX6_removeNamed_41
  refine s_aload_n C 1 dX6_removeNamed_14 rfl rfl ?_
  refine s_iload_n C 3 dX6_removeNamed_15 rfl rfl ?_
  refine s_invV_i C ci4 cy_X1_numberAt (Or.inl wd_5_181) rfl wd_5_113 wd_5_114 (con_X1_numberAt l G a1 i3) rfl rfl (Nat.le_of_ble_eq_true rfl) (by rw [hF]; decide) (by rw [hO]; exact Nat.le_of_ble_eq_true rfl) dX6_removeNamed_16 (fun x1 => ?_)
  refine s_istore (lv' := [(4, .int x1), (0, .ref a0), (1, .ref a1), (2, .int i2), (3, .int i3)]) C dX6_removeNamed_19 (by decide) rfl ?_
  refine s_aload_n C 1 dX6_removeNamed_21 rfl rfl ?_
  refine s_iload C 0 dX6_removeNamed_22 rfl ?_
  refine s_iconst (v := 0) C dX6_removeNamed_24 (by decide) ?_
  refine s_invV_u C ci9 cy_X6_discard (Or.inl wd_5_188) rfl wd_5_190 wp_20 (con_X6_discard l G a0 x1 0) rfl rfl (Nat.le_of_ble_eq_true rfl) (by rw [hF]; decide) (by rw [hO]; exact Nat.le_of_ble_eq_true rfl) dX6_removeNamed_25 ?_
  refine s_aload_n C 1 dX6_removeNamed_28 rfl rfl ?_
  refine s_iload C 0 dX6_removeNamed_29 rfl ?_
  refine s_iconst (v := 1) C dX6_removeNamed_31 (by decide) ?_
  refine s_invV_u C ci9 cy_X6_discard (Or.inl wd_5_188) rfl wd_5_190 wp_20 (con_X6_discard l G a0 x1 1) rfl rfl (Nat.le_of_ble_eq_true rfl) (by rw [hF]; decide) (by rw [hO]; exact Nat.le_of_ble_eq_true rfl) dX6_removeNamed_32 ?_
  refine s_iincK (lv' := [(3, .int (i3 + 4)), (4, .int x1), (0, .ref a0), (1, .ref a1), (2, .int i2)]) (w := 4) C 4 dX6_removeNamed_35 rfl (by decide) (by decide) rfl ?_
  refine s_goto (tgt := 9) C dX6_removeNamed_38 (by decide) ?_
  refine s_sub [2, 3, 4, 0] rfl ?_
  exact hk9 a0 a1 i2 (i3 + 4)
set_option maxRecDepth 20000 in
theorem X6_removeNamed_b9_s (C : Cx G p R s m args meth c cX6_removeNamed 5 yX6_removeNamed.cls h0 h') (hF : R.frames = 10) (hO : R.locals = 298) (hr : meth.sig.returnType = none) (hm : meth.name = yX6_removeNamed.name)  (n : Nat) : ∀ (a0 : Nat) (a1 : Nat) (i2 : Int32) (i3 : Int32), Sm G (QM G rvU below args s h0 r h') p l e R s m args below meth c 5 h0 r h' 9 [(0, .ref a0), (1, .ref a1), (2, .int i2), (3, .int i3)] [] (X6_removeNamed_b9  n a0 a1 i2 i3) := by
  induction n with
  | zero => intro a0 a1 i2 i3; exact s_fl
  | succ n ih => intro a0 a1 i2 i3; exact X6_removeNamed_b9b_s C hF hO hr hm  ih a0 a1 i2 i3
end
set_option maxRecDepth 20000 in
theorem con_X6_removeNamed (l : Launch) (G : Gx) (a0 : Nat) (a1 : Nat) : Con G rvU l yX6_removeNamed cX6_removeNamed 5 none 10 298 [.ref a0, .ref a1] (X6_removeNamed a0 a1) := by
  refine con_of (lv := [(0, .ref a0), (1, .ref a1)]) (by decide) (Nat.le_of_ble_eq_true rfl) rfl (fun p e R s m args below meth c h0 r h' C hF hO hr hm => ?_)
  refine s_aload_n C 1 dX6_removeNamed_0 rfl rfl ?_
  refine s_invV_i C ci4 cy_X1_size (Or.inl wd_5_179) rfl wd_2_147 wd_2_148 (con_X1_size l G a1) rfl rfl (Nat.le_of_ble_eq_true rfl) (by rw [hF]; decide) (by rw [hO]; exact Nat.le_of_ble_eq_true rfl) dX6_removeNamed_1 (fun x1 => ?_)
  refine s_iconst (v := 4) C dX6_removeNamed_4 (by decide) ?_
  refine s_isub C dX6_removeNamed_5 ?_
  refine s_let (fun x2 => ?_)
  refine s_istore_n (lv' := [(2, .int x2), (0, .ref a0), (1, .ref a1)]) C dX6_removeNamed_6 rfl (by decide) rfl ?_
  refine s_iconst (v := 4) C dX6_removeNamed_7 (by decide) ?_
  refine s_istore_n (lv' := [(3, .int 4), (2, .int x2), (0, .ref a0), (1, .ref a1)]) C dX6_removeNamed_8 rfl (by decide) rfl ?_
  refine s_sub [2, 3, 1, 0] rfl ?_
  exact X6_removeNamed_b9_s C hF hO hr hm  FU a0 a1 x2 4

theorem dX6_obeyMarks_0 : decode cX6_obeyMarks 0 = .ok (.aload_n 0, 1) := by decide +kernel
theorem dX6_obeyMarks_1 : decode cX6_obeyMarks 1 = .ok (.getfield 9, 3) := by decide +kernel
theorem dX6_obeyMarks_4 : decode cX6_obeyMarks 4 = .ok (.invokevirtual 35, 3) := by decide +kernel
theorem dX6_obeyMarks_7 : decode cX6_obeyMarks 7 = .ok (.istore_n 1, 1) := by decide +kernel
theorem dX6_obeyMarks_8 : decode cX6_obeyMarks 8 = .ok (.iload_n 1, 1) := by decide +kernel
theorem dX6_obeyMarks_9 : decode cX6_obeyMarks 9 = .ok (.ifCond .le 50, 3) := by decide +kernel
theorem dX6_obeyMarks_12 : decode cX6_obeyMarks 12 = .ok (.aload_n 0, 1) := by decide +kernel
theorem dX6_obeyMarks_13 : decode cX6_obeyMarks 13 = .ok (.getfield 9, 3) := by decide +kernel
theorem dX6_obeyMarks_16 : decode cX6_obeyMarks 16 = .ok (.iconst 2, 1) := by decide +kernel
theorem dX6_obeyMarks_17 : decode cX6_obeyMarks 17 = .ok (.invokevirtual 41, 3) := by decide +kernel
theorem dX6_obeyMarks_20 : decode cX6_obeyMarks 20 = .ok (.astore_n 2, 1) := by decide +kernel
theorem dX6_obeyMarks_21 : decode cX6_obeyMarks 21 = .ok (.aload_n 2, 1) := by decide +kernel
theorem dX6_obeyMarks_22 : decode cX6_obeyMarks 22 = .ok (.ifnonnull 4, 3) := by decide +kernel
theorem dX6_obeyMarks_25 : decode cX6_obeyMarks 25 = .ok (.return_, 1) := by decide +kernel
theorem dX6_obeyMarks_26 : decode cX6_obeyMarks 26 = .ok (.aload_n 2, 1) := by decide +kernel
theorem dX6_obeyMarks_27 : decode cX6_obeyMarks 27 = .ok (.getfield 45, 3) := by decide +kernel
theorem dX6_obeyMarks_30 : decode cX6_obeyMarks 30 = .ok (.invokestatic 51, 3) := by decide +kernel
theorem dX6_obeyMarks_33 : decode cX6_obeyMarks 33 = .ok (.ifCond .eq 11, 3) := by decide +kernel
theorem dX6_obeyMarks_36 : decode cX6_obeyMarks 36 = .ok (.aload_n 0, 1) := by decide +kernel
theorem dX6_obeyMarks_37 : decode cX6_obeyMarks 37 = .ok (.aload_n 2, 1) := by decide +kernel
theorem dX6_obeyMarks_38 : decode cX6_obeyMarks 38 = .ok (.getfield 45, 3) := by decide +kernel
theorem dX6_obeyMarks_41 : decode cX6_obeyMarks 41 = .ok (.invokevirtual 55, 3) := by decide +kernel
theorem dX6_obeyMarks_44 : decode cX6_obeyMarks 44 = .ok (.aload_n 0, 1) := by decide +kernel
theorem dX6_obeyMarks_45 : decode cX6_obeyMarks 45 = .ok (.aload_n 2, 1) := by decide +kernel
theorem dX6_obeyMarks_46 : decode cX6_obeyMarks 46 = .ok (.getfield 59, 3) := by decide +kernel
theorem dX6_obeyMarks_49 : decode cX6_obeyMarks 49 = .ok (.iconst 2, 1) := by decide +kernel
theorem dX6_obeyMarks_50 : decode cX6_obeyMarks 50 = .ok (.invokevirtual 62, 3) := by decide +kernel
theorem dX6_obeyMarks_53 : decode cX6_obeyMarks 53 = .ok (.iinc 1 (-1), 3) := by decide +kernel
theorem dX6_obeyMarks_56 : decode cX6_obeyMarks 56 = .ok (.goto (-48), 3) := by decide +kernel
theorem dX6_obeyMarks_59 : decode cX6_obeyMarks 59 = .ok (.return_, 1) := by decide +kernel
def X6_obeyMarks_b44 (k8 : Nat → Int32 → M Unit)  (a0 : Nat) (i1 : Int32) (o2 : Option Nat) : M Unit := nn o2 (fun y1 => bd (gI 7 1 y1) (fun x2 => bd (ck 9 a0) (fun _ => bd (X6_discard a0 x2 2) (fun _ => k8 a0 (i1 + (-1))))))
def X6_obeyMarks_b8b  (k8 : Nat → Int32 → M Unit) (a0 : Nat) (i1 : Int32) : M Unit := it (i1 ≤ 0) (pu ()) (bd (gR 9 0 a0) (fun y1 => bd (ck 6 y1) (fun _ => bd (X3_firstOf y1 2) (fun z2 => co z2 (pu ()) (fun y3 => bd (gR 7 0 y3) (fun y4 => bd (X6_isGoodMark y4) (fun x5 => it (x5 = 0) (X6_obeyMarks_b44 k8  a0 i1 (some y3)) (bd (gR 7 0 y3) (fun y6 => bd (ck 9 a0) (fun _ => bd (X6_removeNamed a0 y6) (fun _ => X6_obeyMarks_b44 k8  a0 i1 (some y3))))))))))))
def X6_obeyMarks_b8  : Nat → Nat → Int32 → M Unit
  | 0 => fun _ _ => fl
  | n + 1 => fun a0 i1 => X6_obeyMarks_b8b  (X6_obeyMarks_b8  n) a0 i1
def X6_obeyMarks (a0 : Nat) : M Unit := bd (gR 9 0 a0) (fun y1 => bd (ck 6 y1) (fun _ => bd (X3_count y1) (fun x2 => X6_obeyMarks_b8  FU a0 x2)))
section
variable {G : Gx} {p : Program} {l : Launch} {e : Env} {R : Room} {s : State} {m : MethodId} {args : Array Value} {below : List Frame} {meth : Method} {c : Code} {h0 : Hp} {r : Unit} {h' : Hp}
set_option maxRecDepth 20000 in
theorem X6_obeyMarks_b44_s (C : Cx G p R s m args meth c cX6_obeyMarks 3 yX6_obeyMarks.cls h0 h') (hF : R.frames = 11) (hO : R.locals = 322) (hr : meth.sig.returnType = none) (hm : meth.name = yX6_obeyMarks.name) {k8 : Nat → Int32 → M Unit} (hk8 : ∀ (a0 : Nat) (i1 : Int32), Sm G (QM G rvU below args s h0 r h') p l e R s m args below meth c 3 h0 r h' 8 [(0, .ref a0), (1, .int i1)] [] (k8 a0 i1))  (a0 : Nat) (i1 : Int32) (o2 : Option Nat) : Sm G (QM G rvU below args s h0 r h') p l e R s m args below meth c 3 h0 r h' 44 [(0, .ref a0), (1, .int i1), (2, va_rf o2)] [] (X6_obeyMarks_b44 k8  a0 i1 o2) := by
  refine s_aload_n C 0 dX6_obeyMarks_44 rfl rfl ?_
  refine s_oload_n C 2 dX6_obeyMarks_45 rfl rfl ?_
  refine s_nn2 (fun y1 hq => ?_)
  subst hq
  refine s_gI C ci7 1 (by decide) (Or.inr (Or.inr ⟨_, wd_3_218⟩)) dX6_obeyMarks_46 (fun x2 => ?_)
  refine s_iconst (v := 2) C dX6_obeyMarks_49 (by decide) ?_
  refine s_invV_u C ci9 cy_X6_discard (Or.inl wd_5_188) rfl wd_5_190 wp_20 (con_X6_discard l G a0 x2 2) rfl rfl (Nat.le_of_ble_eq_true rfl) (by rw [hF]; decide) (by rw [hO]; exact Nat.le_of_ble_eq_true rfl) dX6_obeyMarks_50 ?_
  refine s_iincK (lv' := [(1, .int (i1 + (-1))), (0, .ref a0), (2, .ref y1)]) (w := (-1)) C 1 dX6_obeyMarks_53 rfl (by decide) (by decide) rfl ?_
  refine s_goto (tgt := 8) C dX6_obeyMarks_56 (by decide) ?_
  refine s_sub [1, 0] rfl ?_
  exact hk8 a0 (i1 + (-1))
set_option maxRecDepth 20000 in
theorem X6_obeyMarks_b8b_s (C : Cx G p R s m args meth c cX6_obeyMarks 3 yX6_obeyMarks.cls h0 h') (hF : R.frames = 11) (hO : R.locals = 322) (hr : meth.sig.returnType = none) (hm : meth.name = yX6_obeyMarks.name)  {k8 : Nat → Int32 → M Unit} (hk8 : ∀ (a0 : Nat) (i1 : Int32), Sm G (QM G rvU below args s h0 r h') p l e R s m args below meth c 3 h0 r h' 8 [(0, .ref a0), (1, .int i1)] [] (k8 a0 i1)) (a0 : Nat) (i1 : Int32) : Sm G (QM G rvU below args s h0 r h') p l e R s m args below meth c 3 h0 r h' 8 [(0, .ref a0), (1, .int i1)] [] (X6_obeyMarks_b8b  k8 a0 i1) := by
  refine s_iload_n C 1 dX6_obeyMarks_8 rfl rfl ?_
  refine s_if_le (tgt := 59) C dX6_obeyMarks_9 (by decide) ?_ ?_
  · exact s_vret C hr rfl dX6_obeyMarks_59
  refine s_aload_n C 0 dX6_obeyMarks_12 rfl rfl ?_
  refine s_gR C ci9 0 (by decide) (Or.inl wd_1_177) dX6_obeyMarks_13 (fun y1 => ?_)
  refine s_iconst (v := 2) C dX6_obeyMarks_16 (by decide) ?_
  refine s_invV_o C ci6 cy_X3_firstOf (Or.inl wd_5_172) rfl wd_5_173 wd_5_174 (con_X3_firstOf l G y1 2) rfl rfl (Nat.le_of_ble_eq_true rfl) (by rw [hF]; decide) (by rw [hO]; exact Nat.le_of_ble_eq_true rfl) dX6_obeyMarks_17 (fun z2 => ?_)
  refine s_ostore_n (lv' := [(2, va_rf z2), (0, .ref a0), (1, .int i1)]) C dX6_obeyMarks_20 rfl (by decide) rfl ?_
  refine s_oload_n C 0 dX6_obeyMarks_21 rfl rfl ?_
  refine s_ifnonnull (tgt := 26) C dX6_obeyMarks_22 (by decide) (fun hq => ?_) (fun y3 hq => ?_)
  · subst hq
    exact s_vret C hr rfl dX6_obeyMarks_25
  subst hq
  refine s_aload_n C 0 dX6_obeyMarks_26 rfl rfl ?_
  refine s_gR C ci7 0 (by decide) (Or.inr (Or.inr ⟨_, wd_3_213⟩)) dX6_obeyMarks_27 (fun y4 => ?_)
  refine s_invS_i C cy_X6_isGoodMark (Or.inl wd_5_176) wd_5_177 (con_X6_isGoodMark l G y4) rfl rfl (Nat.le_of_ble_eq_true rfl) (by rw [hF]; decide) (by rw [hO]; exact Nat.le_of_ble_eq_true rfl) dX6_obeyMarks_30 (fun x5 => ?_)
  refine s_if_eq (tgt := 44) C dX6_obeyMarks_33 (by decide) ?_ ?_
  · refine s_sub [1, 2, 0] rfl ?_
    exact X6_obeyMarks_b44_s C hF hO hr hm hk8  a0 i1 (some y3)
  refine s_aload_n C 1 dX6_obeyMarks_36 rfl rfl ?_
  refine s_aload_n C 0 dX6_obeyMarks_37 rfl rfl ?_
  refine s_gR C ci7 0 (by decide) (Or.inr (Or.inr ⟨_, wd_3_213⟩)) dX6_obeyMarks_38 (fun y6 => ?_)
  refine s_invV_u C ci9 cy_X6_removeNamed (Or.inl wd_5_184) rfl wd_5_186 wp_19 (con_X6_removeNamed l G a0 y6) rfl rfl (Nat.le_of_ble_eq_true rfl) (by rw [hF]; decide) (by rw [hO]; exact Nat.le_of_ble_eq_true rfl) dX6_obeyMarks_41 ?_
  refine s_sub [1, 2, 0] rfl ?_
  exact X6_obeyMarks_b44_s C hF hO hr hm hk8  a0 i1 (some y3)
set_option maxRecDepth 20000 in
theorem X6_obeyMarks_b8_s (C : Cx G p R s m args meth c cX6_obeyMarks 3 yX6_obeyMarks.cls h0 h') (hF : R.frames = 11) (hO : R.locals = 322) (hr : meth.sig.returnType = none) (hm : meth.name = yX6_obeyMarks.name)  (n : Nat) : ∀ (a0 : Nat) (i1 : Int32), Sm G (QM G rvU below args s h0 r h') p l e R s m args below meth c 3 h0 r h' 8 [(0, .ref a0), (1, .int i1)] [] (X6_obeyMarks_b8  n a0 i1) := by
  induction n with
  | zero => intro a0 i1; exact s_fl
  | succ n ih => intro a0 i1; exact X6_obeyMarks_b8b_s C hF hO hr hm  ih a0 i1
end
set_option maxRecDepth 20000 in
theorem con_X6_obeyMarks (l : Launch) (G : Gx) (a0 : Nat) : Con G rvU l yX6_obeyMarks cX6_obeyMarks 3 none 11 322 [.ref a0] (X6_obeyMarks a0) := by
  refine con_of (lv := [(0, .ref a0)]) (by decide) (Nat.le_of_ble_eq_true rfl) rfl (fun p e R s m args below meth c h0 r h' C hF hO hr hm => ?_)
  refine s_aload_n C 0 dX6_obeyMarks_0 rfl rfl ?_
  refine s_gR C ci9 0 (by decide) (Or.inl wd_1_177) dX6_obeyMarks_1 (fun y1 => ?_)
  refine s_invV_i C ci6 cy_X3_count (Or.inl wd_5_171) rfl wd_2_172 wd_2_173 (con_X3_count l G y1) rfl rfl (Nat.le_of_ble_eq_true rfl) (by rw [hF]; decide) (by rw [hO]; exact Nat.le_of_ble_eq_true rfl) dX6_obeyMarks_4 (fun x2 => ?_)
  refine s_istore_n (lv' := [(1, .int x2), (0, .ref a0)]) C dX6_obeyMarks_7 rfl (by decide) rfl ?_
  refine s_sub [1, 0] rfl ?_
  exact X6_obeyMarks_b8_s C hF hO hr hm  FU a0 x2

theorem dX6_dropLoneHints_0 : decode cX6_dropLoneHints 0 = .ok (.aload_n 0, 1) := by decide +kernel
theorem dX6_dropLoneHints_1 : decode cX6_dropLoneHints 1 = .ok (.getfield 9, 3) := by decide +kernel
theorem dX6_dropLoneHints_4 : decode cX6_dropLoneHints 4 = .ok (.invokevirtual 35, 3) := by decide +kernel
theorem dX6_dropLoneHints_7 : decode cX6_dropLoneHints 7 = .ok (.iconst 1, 1) := by decide +kernel
theorem dX6_dropLoneHints_8 : decode cX6_dropLoneHints 8 = .ok (.isub, 1) := by decide +kernel
theorem dX6_dropLoneHints_9 : decode cX6_dropLoneHints 9 = .ok (.istore_n 1, 1) := by decide +kernel
theorem dX6_dropLoneHints_10 : decode cX6_dropLoneHints 10 = .ok (.iload_n 1, 1) := by decide +kernel
theorem dX6_dropLoneHints_11 : decode cX6_dropLoneHints 11 = .ok (.ifCond .lt 54, 3) := by decide +kernel
theorem dX6_dropLoneHints_14 : decode cX6_dropLoneHints 14 = .ok (.aload_n 0, 1) := by decide +kernel
theorem dX6_dropLoneHints_15 : decode cX6_dropLoneHints 15 = .ok (.getfield 9, 3) := by decide +kernel
theorem dX6_dropLoneHints_18 : decode cX6_dropLoneHints 18 = .ok (.iload_n 1, 1) := by decide +kernel
theorem dX6_dropLoneHints_19 : decode cX6_dropLoneHints 19 = .ok (.invokevirtual 66, 3) := by decide +kernel
theorem dX6_dropLoneHints_22 : decode cX6_dropLoneHints 22 = .ok (.astore_n 2, 1) := by decide +kernel
theorem dX6_dropLoneHints_23 : decode cX6_dropLoneHints 23 = .ok (.aload_n 2, 1) := by decide +kernel
theorem dX6_dropLoneHints_24 : decode cX6_dropLoneHints 24 = .ok (.ifnull 35, 3) := by decide +kernel
theorem dX6_dropLoneHints_27 : decode cX6_dropLoneHints 27 = .ok (.aload_n 2, 1) := by decide +kernel
theorem dX6_dropLoneHints_28 : decode cX6_dropLoneHints 28 = .ok (.getfield 69, 3) := by decide +kernel
theorem dX6_dropLoneHints_31 : decode cX6_dropLoneHints 31 = .ok (.iconst 1, 1) := by decide +kernel
theorem dX6_dropLoneHints_32 : decode cX6_dropLoneHints 32 = .ok (.if_icmp .ne 27, 3) := by decide +kernel
theorem dX6_dropLoneHints_35 : decode cX6_dropLoneHints 35 = .ok (.aload_n 0, 1) := by decide +kernel
theorem dX6_dropLoneHints_36 : decode cX6_dropLoneHints 36 = .ok (.getfield 9, 3) := by decide +kernel
theorem dX6_dropLoneHints_39 : decode cX6_dropLoneHints 39 = .ok (.aload_n 2, 1) := by decide +kernel
theorem dX6_dropLoneHints_40 : decode cX6_dropLoneHints 40 = .ok (.getfield 59, 3) := by decide +kernel
theorem dX6_dropLoneHints_43 : decode cX6_dropLoneHints 43 = .ok (.iconst 0, 1) := by decide +kernel
theorem dX6_dropLoneHints_44 : decode cX6_dropLoneHints 44 = .ok (.invokevirtual 72, 3) := by decide +kernel
theorem dX6_dropLoneHints_47 : decode cX6_dropLoneHints 47 = .ok (.ifnonnull 12, 3) := by decide +kernel
theorem dX6_dropLoneHints_50 : decode cX6_dropLoneHints 50 = .ok (.aload_n 0, 1) := by decide +kernel
theorem dX6_dropLoneHints_51 : decode cX6_dropLoneHints 51 = .ok (.aload_n 2, 1) := by decide +kernel
theorem dX6_dropLoneHints_52 : decode cX6_dropLoneHints 52 = .ok (.getfield 59, 3) := by decide +kernel
theorem dX6_dropLoneHints_55 : decode cX6_dropLoneHints 55 = .ok (.iconst 1, 1) := by decide +kernel
theorem dX6_dropLoneHints_56 : decode cX6_dropLoneHints 56 = .ok (.invokevirtual 62, 3) := by decide +kernel
theorem dX6_dropLoneHints_59 : decode cX6_dropLoneHints 59 = .ok (.iinc 1 (-1), 3) := by decide +kernel
theorem dX6_dropLoneHints_62 : decode cX6_dropLoneHints 62 = .ok (.goto (-52), 3) := by decide +kernel
theorem dX6_dropLoneHints_65 : decode cX6_dropLoneHints 65 = .ok (.return_, 1) := by decide +kernel
def X6_dropLoneHints_b59 (k10 : Nat → Int32 → M Unit)  (a0 : Nat) (i1 : Int32) : M Unit := k10 a0 (i1 + (-1))
def X6_dropLoneHints_b10b  (k10 : Nat → Int32 → M Unit) (a0 : Nat) (i1 : Int32) : M Unit := it (i1 < 0) (pu ()) (bd (gR 9 0 a0) (fun y1 => bd (ck 6 y1) (fun _ => bd (X3_at y1 i1) (fun z2 => co z2 (X6_dropLoneHints_b59 k10  a0 i1) (fun y3 => bd (gI 7 2 y3) (fun x4 => it (¬ x4 = 1) (X6_dropLoneHints_b59 k10  a0 i1) (bd (gR 9 0 a0) (fun y5 => bd (gI 7 1 y3) (fun x6 => bd (ck 6 y5) (fun _ => bd (X3_find y5 x6 0) (fun z7 => co z7 (bd (gI 7 1 y3) (fun x9 => bd (ck 9 a0) (fun _ => bd (X6_discard a0 x9 1) (fun _ => X6_dropLoneHints_b59 k10  a0 i1)))) (fun y8 => X6_dropLoneHints_b59 k10  a0 i1))))))))))))
def X6_dropLoneHints_b10  : Nat → Nat → Int32 → M Unit
  | 0 => fun _ _ => fl
  | n + 1 => fun a0 i1 => X6_dropLoneHints_b10b  (X6_dropLoneHints_b10  n) a0 i1
def X6_dropLoneHints (a0 : Nat) : M Unit := bd (gR 9 0 a0) (fun y1 => bd (ck 6 y1) (fun _ => bd (X3_count y1) (fun x2 => bd (pu (x2 - 1)) (fun x3 => X6_dropLoneHints_b10  FU a0 x3))))
section
variable {G : Gx} {p : Program} {l : Launch} {e : Env} {R : Room} {s : State} {m : MethodId} {args : Array Value} {below : List Frame} {meth : Method} {c : Code} {h0 : Hp} {r : Unit} {h' : Hp}
set_option maxRecDepth 20000 in
theorem X6_dropLoneHints_b59_s (C : Cx G p R s m args meth c cX6_dropLoneHints 3 yX6_dropLoneHints.cls h0 h') (hF : R.frames = 10) (hO : R.locals = 298) (hr : meth.sig.returnType = none) (hm : meth.name = yX6_dropLoneHints.name) {k10 : Nat → Int32 → M Unit} (hk10 : ∀ (a0 : Nat) (i1 : Int32), Sm G (QM G rvU below args s h0 r h') p l e R s m args below meth c 3 h0 r h' 10 [(0, .ref a0), (1, .int i1)] [] (k10 a0 i1))  (a0 : Nat) (i1 : Int32) : Sm G (QM G rvU below args s h0 r h') p l e R s m args below meth c 3 h0 r h' 59 [(0, .ref a0), (1, .int i1)] [] (X6_dropLoneHints_b59 k10  a0 i1) := by
  refine s_iincK (lv' := [(1, .int (i1 + (-1))), (0, .ref a0)]) (w := (-1)) C 1 dX6_dropLoneHints_59 rfl (by decide) (by decide) rfl ?_
  refine s_goto (tgt := 10) C dX6_dropLoneHints_62 (by decide) ?_
  refine s_sub [1, 0] rfl ?_
  exact hk10 a0 (i1 + (-1))
set_option maxRecDepth 20000 in
theorem X6_dropLoneHints_b10b_s (C : Cx G p R s m args meth c cX6_dropLoneHints 3 yX6_dropLoneHints.cls h0 h') (hF : R.frames = 10) (hO : R.locals = 298) (hr : meth.sig.returnType = none) (hm : meth.name = yX6_dropLoneHints.name)  {k10 : Nat → Int32 → M Unit} (hk10 : ∀ (a0 : Nat) (i1 : Int32), Sm G (QM G rvU below args s h0 r h') p l e R s m args below meth c 3 h0 r h' 10 [(0, .ref a0), (1, .int i1)] [] (k10 a0 i1)) (a0 : Nat) (i1 : Int32) : Sm G (QM G rvU below args s h0 r h') p l e R s m args below meth c 3 h0 r h' 10 [(0, .ref a0), (1, .int i1)] [] (X6_dropLoneHints_b10b  k10 a0 i1) := by
  refine s_iload_n C 1 dX6_dropLoneHints_10 rfl rfl ?_
  refine s_if_lt (tgt := 65) C dX6_dropLoneHints_11 (by decide) ?_ ?_
  · exact s_vret C hr rfl dX6_dropLoneHints_65
  refine s_aload_n C 0 dX6_dropLoneHints_14 rfl rfl ?_
  refine s_gR C ci9 0 (by decide) (Or.inl wd_1_177) dX6_dropLoneHints_15 (fun y1 => ?_)
  refine s_iload_n C 1 dX6_dropLoneHints_18 rfl rfl ?_
  refine s_invV_o C ci6 cy_X3_at (Or.inl wd_5_200) rfl wd_2_135 wd_2_136 (con_X3_at l G y1 i1) rfl rfl (Nat.le_of_ble_eq_true rfl) (by rw [hF]; decide) (by rw [hO]; exact Nat.le_of_ble_eq_true rfl) dX6_dropLoneHints_19 (fun z2 => ?_)
  refine s_ostore_n (lv' := [(2, va_rf z2), (0, .ref a0), (1, .int i1)]) C dX6_dropLoneHints_22 rfl (by decide) rfl ?_
  refine s_oload_n C 0 dX6_dropLoneHints_23 rfl rfl ?_
  refine s_ifnull (tgt := 59) C dX6_dropLoneHints_24 (by decide) (fun hq => ?_) (fun y3 hq => ?_)
  · subst hq
    refine s_sub [1, 2] rfl ?_
    exact X6_dropLoneHints_b59_s C hF hO hr hm hk10  a0 i1
  subst hq
  refine s_aload_n C 0 dX6_dropLoneHints_27 rfl rfl ?_
  refine s_gI C ci7 2 (by decide) (Or.inr (Or.inr ⟨_, wd_3_223⟩)) dX6_dropLoneHints_28 (fun x4 => ?_)
  refine s_iconst (v := 1) C dX6_dropLoneHints_31 (by decide) ?_
  refine s_icmp_ne (tgt := 59) C dX6_dropLoneHints_32 (by decide) ?_ ?_
  · refine s_sub [1, 2] rfl ?_
    exact X6_dropLoneHints_b59_s C hF hO hr hm hk10  a0 i1
  refine s_aload_n C 1 dX6_dropLoneHints_35 rfl rfl ?_
  refine s_gR C ci9 0 (by decide) (Or.inl wd_1_177) dX6_dropLoneHints_36 (fun y5 => ?_)
  refine s_aload_n C 0 dX6_dropLoneHints_39 rfl rfl ?_
  refine s_gI C ci7 1 (by decide) (Or.inr (Or.inr ⟨_, wd_3_218⟩)) dX6_dropLoneHints_40 (fun x6 => ?_)
  refine s_iconst (v := 0) C dX6_dropLoneHints_43 (by decide) ?_
  refine s_invV_o C ci6 cy_X3_find (Or.inl wd_5_201) rfl wd_3_176 wd_3_177 (con_X3_find l G y5 x6 0) rfl rfl (Nat.le_of_ble_eq_true rfl) (by rw [hF]; decide) (by rw [hO]; exact Nat.le_of_ble_eq_true rfl) dX6_dropLoneHints_44 (fun z7 => ?_)
  refine s_ifnonnull (tgt := 59) C dX6_dropLoneHints_47 (by decide) (fun hq => ?_) (fun y8 hq => ?_)
  · subst hq
    refine s_aload_n C 1 dX6_dropLoneHints_50 rfl rfl ?_
    refine s_aload_n C 0 dX6_dropLoneHints_51 rfl rfl ?_
    refine s_gI C ci7 1 (by decide) (Or.inr (Or.inr ⟨_, wd_3_218⟩)) dX6_dropLoneHints_52 (fun x9 => ?_)
    refine s_iconst (v := 1) C dX6_dropLoneHints_55 (by decide) ?_
    refine s_invV_u C ci9 cy_X6_discard (Or.inl wd_5_188) rfl wd_5_190 wp_20 (con_X6_discard l G a0 x9 1) rfl rfl (Nat.le_of_ble_eq_true rfl) (by rw [hF]; decide) (by rw [hO]; exact Nat.le_of_ble_eq_true rfl) dX6_dropLoneHints_56 ?_
    refine s_sub [1, 2] rfl ?_
    exact X6_dropLoneHints_b59_s C hF hO hr hm hk10  a0 i1
  subst hq
  refine s_sub [1, 2] rfl ?_
  exact X6_dropLoneHints_b59_s C hF hO hr hm hk10  a0 i1
set_option maxRecDepth 20000 in
theorem X6_dropLoneHints_b10_s (C : Cx G p R s m args meth c cX6_dropLoneHints 3 yX6_dropLoneHints.cls h0 h') (hF : R.frames = 10) (hO : R.locals = 298) (hr : meth.sig.returnType = none) (hm : meth.name = yX6_dropLoneHints.name)  (n : Nat) : ∀ (a0 : Nat) (i1 : Int32), Sm G (QM G rvU below args s h0 r h') p l e R s m args below meth c 3 h0 r h' 10 [(0, .ref a0), (1, .int i1)] [] (X6_dropLoneHints_b10  n a0 i1) := by
  induction n with
  | zero => intro a0 i1; exact s_fl
  | succ n ih => intro a0 i1; exact X6_dropLoneHints_b10b_s C hF hO hr hm  ih a0 i1
end
set_option maxRecDepth 20000 in
theorem con_X6_dropLoneHints (l : Launch) (G : Gx) (a0 : Nat) : Con G rvU l yX6_dropLoneHints cX6_dropLoneHints 3 none 10 298 [.ref a0] (X6_dropLoneHints a0) := by
  refine con_of (lv := [(0, .ref a0)]) (by decide) (Nat.le_of_ble_eq_true rfl) rfl (fun p e R s m args below meth c h0 r h' C hF hO hr hm => ?_)
  refine s_aload_n C 0 dX6_dropLoneHints_0 rfl rfl ?_
  refine s_gR C ci9 0 (by decide) (Or.inl wd_1_177) dX6_dropLoneHints_1 (fun y1 => ?_)
  refine s_invV_i C ci6 cy_X3_count (Or.inl wd_5_171) rfl wd_2_172 wd_2_173 (con_X3_count l G y1) rfl rfl (Nat.le_of_ble_eq_true rfl) (by rw [hF]; decide) (by rw [hO]; exact Nat.le_of_ble_eq_true rfl) dX6_dropLoneHints_4 (fun x2 => ?_)
  refine s_iconst (v := 1) C dX6_dropLoneHints_7 (by decide) ?_
  refine s_isub C dX6_dropLoneHints_8 ?_
  refine s_let (fun x3 => ?_)
  refine s_istore_n (lv' := [(1, .int x3), (0, .ref a0)]) C dX6_dropLoneHints_9 rfl (by decide) rfl ?_
  refine s_sub [1, 0] rfl ?_
  exact X6_dropLoneHints_b10_s C hF hO hr hm  FU a0 x3

theorem dX8_isTold_0 : decode cX8_isTold 0 = .ok (.iload_n 0, 1) := by decide +kernel
theorem dX8_isTold_1 : decode cX8_isTold 1 = .ok (.iconst 1, 1) := by decide +kernel
theorem dX8_isTold_2 : decode cX8_isTold 2 = .ok (.if_icmp .lt 36, 3) := by decide +kernel
theorem dX8_isTold_5 : decode cX8_isTold 5 = .ok (.iload_n 0, 1) := by decide +kernel
theorem dX8_isTold_6 : decode cX8_isTold 6 = .ok (.ldc_w 311, 3) := by decide +kernel
theorem dX8_isTold_9 : decode cX8_isTold 9 = .ok (.if_icmp .gt 29, 3) := by decide +kernel
theorem dX8_isTold_12 : decode cX8_isTold 12 = .ok (.iload_n 1, 1) := by decide +kernel
theorem dX8_isTold_13 : decode cX8_isTold 13 = .ok (.iconst 1, 1) := by decide +kernel
theorem dX8_isTold_14 : decode cX8_isTold 14 = .ok (.if_icmp .lt 24, 3) := by decide +kernel
theorem dX8_isTold_17 : decode cX8_isTold 17 = .ok (.iload_n 1, 1) := by decide +kernel
theorem dX8_isTold_18 : decode cX8_isTold 18 = .ok (.bipush 16, 2) := by decide +kernel
theorem dX8_isTold_20 : decode cX8_isTold 20 = .ok (.if_icmp .gt 18, 3) := by decide +kernel
theorem dX8_isTold_23 : decode cX8_isTold 23 = .ok (.iload_n 2, 1) := by decide +kernel
theorem dX8_isTold_24 : decode cX8_isTold 24 = .ok (.iconst (-1), 1) := by decide +kernel
theorem dX8_isTold_25 : decode cX8_isTold 25 = .ok (.if_icmp .lt 13, 3) := by decide +kernel
theorem dX8_isTold_28 : decode cX8_isTold 28 = .ok (.iload_n 2, 1) := by decide +kernel
theorem dX8_isTold_29 : decode cX8_isTold 29 = .ok (.bipush 64, 2) := by decide +kernel
theorem dX8_isTold_31 : decode cX8_isTold 31 = .ok (.if_icmp .gt 7, 3) := by decide +kernel
theorem dX8_isTold_34 : decode cX8_isTold 34 = .ok (.iconst 1, 1) := by decide +kernel
theorem dX8_isTold_35 : decode cX8_isTold 35 = .ok (.goto 4, 3) := by decide +kernel
theorem dX8_isTold_38 : decode cX8_isTold 38 = .ok (.iconst 0, 1) := by decide +kernel
theorem dX8_isTold_39 : decode cX8_isTold 39 = .ok (.ireturn, 1) := by decide +kernel
def X8_isTold (i0 : Int32) (i1 : Int32) (i2 : Int32) : M Int32 := it (i0 < 1) (pu 0) (it (1000000000 < i0) (pu 0) (it (i1 < 1) (pu 0) (it (16 < i1) (pu 0) (it (i2 < (-1)) (pu 0) (it (64 < i2) (pu 0) (pu 1))))))
section
variable {G : Gx} {p : Program} {l : Launch} {e : Env} {R : Room} {s : State} {m : MethodId} {args : Array Value} {below : List Frame} {meth : Method} {c : Code} {h0 : Hp} {r : Int32} {h' : Hp}
end
set_option maxRecDepth 20000 in
theorem con_X8_isTold (l : Launch) (G : Gx) (i0 : Int32) (i1 : Int32) (i2 : Int32) : Con G rvI l yX8_isTold cX8_isTold 3 (some .boolean) 0 0 [.int i0, .int i1, .int i2] (X8_isTold i0 i1 i2) := by
  refine con_of (lv := [(0, .int i0), (1, .int i1), (2, .int i2)]) (by decide) (Nat.le_of_ble_eq_true rfl) rfl (fun p e R s m args below meth c h0 r h' C hF hO hr hm => ?_)
  refine s_iload_n C 0 dX8_isTold_0 rfl rfl ?_
  refine s_iconst (v := 1) C dX8_isTold_1 (by decide) ?_
  refine s_icmp_lt (tgt := 38) C dX8_isTold_2 (by decide) ?_ ?_
  · refine s_iconst (v := 0) C dX8_isTold_38 (by decide) ?_
    exact s_zret C hr rfl (Or.inl rfl) dX8_isTold_39
  refine s_iload_n C 0 dX8_isTold_5 rfl rfl ?_
  refine s_ldcw C dX8_isTold_6 wd_3_141 ?_
  refine s_icmp_gt (tgt := 38) C dX8_isTold_9 (by decide) ?_ ?_
  · refine s_iconst (v := 0) C dX8_isTold_38 (by decide) ?_
    exact s_zret C hr rfl (Or.inl rfl) dX8_isTold_39
  refine s_iload_n C 1 dX8_isTold_12 rfl rfl ?_
  refine s_iconst (v := 1) C dX8_isTold_13 (by decide) ?_
  refine s_icmp_lt (tgt := 38) C dX8_isTold_14 (by decide) ?_ ?_
  · refine s_iconst (v := 0) C dX8_isTold_38 (by decide) ?_
    exact s_zret C hr rfl (Or.inl rfl) dX8_isTold_39
  refine s_iload_n C 1 dX8_isTold_17 rfl rfl ?_
  refine s_bipush (v := 16) C dX8_isTold_18 (by decide) ?_
  refine s_icmp_gt (tgt := 38) C dX8_isTold_20 (by decide) ?_ ?_
  · refine s_iconst (v := 0) C dX8_isTold_38 (by decide) ?_
    exact s_zret C hr rfl (Or.inl rfl) dX8_isTold_39
  refine s_iload_n C 2 dX8_isTold_23 rfl rfl ?_
  refine s_iconst (v := (-1)) C dX8_isTold_24 (by decide) ?_
  refine s_icmp_lt (tgt := 38) C dX8_isTold_25 (by decide) ?_ ?_
  · refine s_iconst (v := 0) C dX8_isTold_38 (by decide) ?_
    exact s_zret C hr rfl (Or.inl rfl) dX8_isTold_39
  refine s_iload_n C 2 dX8_isTold_28 rfl rfl ?_
  refine s_bipush (v := 64) C dX8_isTold_29 (by decide) ?_
  refine s_icmp_gt (tgt := 38) C dX8_isTold_31 (by decide) ?_ ?_
  · refine s_iconst (v := 0) C dX8_isTold_38 (by decide) ?_
    exact s_zret C hr rfl (Or.inl rfl) dX8_isTold_39
  refine s_iconst (v := 1) C dX8_isTold_34 (by decide) ?_
  refine s_goto (tgt := 39) C dX8_isTold_35 (by decide) ?_
  exact s_zret C hr rfl (Or.inr rfl) dX8_isTold_39

theorem dX6_isGoodEntry_0 : decode cX6_isGoodEntry 0 = .ok (.iload_n 1, 1) := by decide +kernel
theorem dX6_isGoodEntry_1 : decode cX6_isGoodEntry 1 = .ok (.bipush 14, 2) := by decide +kernel
theorem dX6_isGoodEntry_3 : decode cX6_isGoodEntry 3 = .ok (.iadd, 1) := by decide +kernel
theorem dX6_isGoodEntry_4 : decode cX6_isGoodEntry 4 = .ok (.iload_n 2, 1) := by decide +kernel
theorem dX6_isGoodEntry_5 : decode cX6_isGoodEntry 5 = .ok (.if_icmp .le 5, 3) := by decide +kernel
theorem dX6_isGoodEntry_8 : decode cX6_isGoodEntry 8 = .ok (.iconst 0, 1) := by decide +kernel
theorem dX6_isGoodEntry_9 : decode cX6_isGoodEntry 9 = .ok (.ireturn, 1) := by decide +kernel
theorem dX6_isGoodEntry_10 : decode cX6_isGoodEntry 10 = .ok (.aload_n 0, 1) := by decide +kernel
theorem dX6_isGoodEntry_11 : decode cX6_isGoodEntry 11 = .ok (.iload_n 1, 1) := by decide +kernel
theorem dX6_isGoodEntry_12 : decode cX6_isGoodEntry 12 = .ok (.iconst 4, 1) := by decide +kernel
theorem dX6_isGoodEntry_13 : decode cX6_isGoodEntry 13 = .ok (.iadd, 1) := by decide +kernel
theorem dX6_isGoodEntry_14 : decode cX6_isGoodEntry 14 = .ok (.invokevirtual 102, 3) := by decide +kernel
theorem dX6_isGoodEntry_17 : decode cX6_isGoodEntry 17 = .ok (.istore 4, 2) := by decide +kernel
theorem dX6_isGoodEntry_19 : decode cX6_isGoodEntry 19 = .ok (.aload_n 0, 1) := by decide +kernel
theorem dX6_isGoodEntry_20 : decode cX6_isGoodEntry 20 = .ok (.iload_n 1, 1) := by decide +kernel
theorem dX6_isGoodEntry_21 : decode cX6_isGoodEntry 21 = .ok (.bipush 8, 2) := by decide +kernel
theorem dX6_isGoodEntry_23 : decode cX6_isGoodEntry 23 = .ok (.iadd, 1) := by decide +kernel
theorem dX6_isGoodEntry_24 : decode cX6_isGoodEntry 24 = .ok (.invokevirtual 92, 3) := by decide +kernel
theorem dX6_isGoodEntry_27 : decode cX6_isGoodEntry 27 = .ok (.istore 5, 2) := by decide +kernel
theorem dX6_isGoodEntry_29 : decode cX6_isGoodEntry 29 = .ok (.aload_n 0, 1) := by decide +kernel
theorem dX6_isGoodEntry_30 : decode cX6_isGoodEntry 30 = .ok (.iload_n 1, 1) := by decide +kernel
theorem dX6_isGoodEntry_31 : decode cX6_isGoodEntry 31 = .ok (.bipush 10, 2) := by decide +kernel
theorem dX6_isGoodEntry_33 : decode cX6_isGoodEntry 33 = .ok (.iadd, 1) := by decide +kernel
theorem dX6_isGoodEntry_34 : decode cX6_isGoodEntry 34 = .ok (.invokevirtual 102, 3) := by decide +kernel
theorem dX6_isGoodEntry_37 : decode cX6_isGoodEntry 37 = .ok (.istore 6, 2) := by decide +kernel
theorem dX6_isGoodEntry_39 : decode cX6_isGoodEntry 39 = .ok (.aload_n 0, 1) := by decide +kernel
theorem dX6_isGoodEntry_40 : decode cX6_isGoodEntry 40 = .ok (.iload_n 1, 1) := by decide +kernel
theorem dX6_isGoodEntry_41 : decode cX6_isGoodEntry 41 = .ok (.invokevirtual 102, 3) := by decide +kernel
theorem dX6_isGoodEntry_44 : decode cX6_isGoodEntry 44 = .ok (.iload 5, 2) := by decide +kernel
theorem dX6_isGoodEntry_46 : decode cX6_isGoodEntry 46 = .ok (.iload 6, 2) := by decide +kernel
theorem dX6_isGoodEntry_48 : decode cX6_isGoodEntry 48 = .ok (.invokestatic 148, 3) := by decide +kernel
theorem dX6_isGoodEntry_51 : decode cX6_isGoodEntry 51 = .ok (.ifCond .eq 37, 3) := by decide +kernel
theorem dX6_isGoodEntry_54 : decode cX6_isGoodEntry 54 = .ok (.iload_n 1, 1) := by decide +kernel
theorem dX6_isGoodEntry_55 : decode cX6_isGoodEntry 55 = .ok (.bipush 14, 2) := by decide +kernel
theorem dX6_isGoodEntry_57 : decode cX6_isGoodEntry 57 = .ok (.iadd, 1) := by decide +kernel
theorem dX6_isGoodEntry_58 : decode cX6_isGoodEntry 58 = .ok (.iload 5, 2) := by decide +kernel
theorem dX6_isGoodEntry_60 : decode cX6_isGoodEntry 60 = .ok (.iadd, 1) := by decide +kernel
theorem dX6_isGoodEntry_61 : decode cX6_isGoodEntry 61 = .ok (.iload_n 2, 1) := by decide +kernel
theorem dX6_isGoodEntry_62 : decode cX6_isGoodEntry 62 = .ok (.if_icmp .gt 26, 3) := by decide +kernel
theorem dX6_isGoodEntry_65 : decode cX6_isGoodEntry 65 = .ok (.iload 4, 2) := by decide +kernel
theorem dX6_isGoodEntry_67 : decode cX6_isGoodEntry 67 = .ok (.ifCond .lt 21, 3) := by decide +kernel
theorem dX6_isGoodEntry_70 : decode cX6_isGoodEntry 70 = .ok (.iload 4, 2) := by decide +kernel
theorem dX6_isGoodEntry_72 : decode cX6_isGoodEntry 72 = .ok (.iload_n 3, 1) := by decide +kernel
theorem dX6_isGoodEntry_73 : decode cX6_isGoodEntry 73 = .ok (.iload 5, 2) := by decide +kernel
theorem dX6_isGoodEntry_75 : decode cX6_isGoodEntry 75 = .ok (.iload 6, 2) := by decide +kernel
theorem dX6_isGoodEntry_77 : decode cX6_isGoodEntry 77 = .ok (.invokestatic 112, 3) := by decide +kernel
theorem dX6_isGoodEntry_80 : decode cX6_isGoodEntry 80 = .ok (.isub, 1) := by decide +kernel
theorem dX6_isGoodEntry_81 : decode cX6_isGoodEntry 81 = .ok (.if_icmp .gt 7, 3) := by decide +kernel
theorem dX6_isGoodEntry_84 : decode cX6_isGoodEntry 84 = .ok (.iconst 1, 1) := by decide +kernel
theorem dX6_isGoodEntry_85 : decode cX6_isGoodEntry 85 = .ok (.goto 4, 3) := by decide +kernel
theorem dX6_isGoodEntry_88 : decode cX6_isGoodEntry 88 = .ok (.iconst 0, 1) := by decide +kernel
theorem dX6_isGoodEntry_89 : decode cX6_isGoodEntry 89 = .ok (.ireturn, 1) := by decide +kernel
def X6_isGoodEntry (a0 : Nat) (i1 : Int32) (i2 : Int32) (i3 : Int32) : M Int32 := it ((i1 + 14) ≤ i2) (bd (ck 4 a0) (fun _ => bd (X1_numberAt a0 (i1 + 4)) (fun x1 => bd (ck 4 a0) (fun _ => bd (X1_shortAt a0 (i1 + 8)) (fun x2 => bd (ck 4 a0) (fun _ => bd (X1_numberAt a0 (i1 + 10)) (fun x3 => bd (ck 4 a0) (fun _ => bd (X1_numberAt a0 i1) (fun x4 => bd (X8_isTold x4 x2 x3) (fun x5 => it (x5 = 0) (pu 0) (it (i2 < ((i1 + 14) + x2)) (pu 0) (it (x1 < 0) (pu 0) (bd (X8_recordSize x2 x3) (fun x6 => it ((i3 - x6) < x1) (pu 0) (pu 1))))))))))))))) (pu 0)
section
variable {G : Gx} {p : Program} {l : Launch} {e : Env} {R : Room} {s : State} {m : MethodId} {args : Array Value} {below : List Frame} {meth : Method} {c : Code} {h0 : Hp} {r : Int32} {h' : Hp}
end
set_option maxRecDepth 20000 in
theorem con_X6_isGoodEntry (l : Launch) (G : Gx) (a0 : Nat) (i1 : Int32) (i2 : Int32) (i3 : Int32) : Con G rvI l yX6_isGoodEntry cX6_isGoodEntry 7 (some .boolean) 3 63 [.ref a0, .int i1, .int i2, .int i3] (X6_isGoodEntry a0 i1 i2 i3) := by
  refine con_of (lv := [(0, .ref a0), (1, .int i1), (2, .int i2), (3, .int i3)]) (by decide) (Nat.le_of_ble_eq_true rfl) rfl (fun p e R s m args below meth c h0 r h' C hF hO hr hm => ?_)
  refine s_iload_n C 1 dX6_isGoodEntry_0 rfl rfl ?_
  refine s_bipush (v := 14) C dX6_isGoodEntry_1 (by decide) ?_
  refine s_iadd C dX6_isGoodEntry_3 ?_
  refine s_iload_n C 2 dX6_isGoodEntry_4 rfl rfl ?_
  refine s_icmp_le (tgt := 10) C dX6_isGoodEntry_5 (by decide) ?_ ?_
  · refine s_aload_n C 0 dX6_isGoodEntry_10 rfl rfl ?_
    refine s_iload_n C 1 dX6_isGoodEntry_11 rfl rfl ?_
    refine s_iconst (v := 4) C dX6_isGoodEntry_12 (by decide) ?_
    refine s_iadd C dX6_isGoodEntry_13 ?_
    refine s_invV_i C ci4 cy_X1_numberAt (Or.inl wd_5_181) rfl wd_5_113 wd_5_114 (con_X1_numberAt l G a0 (i1 + 4)) rfl rfl (Nat.le_of_ble_eq_true rfl) (by rw [hF]; decide) (by rw [hO]; exact Nat.le_of_ble_eq_true rfl) dX6_isGoodEntry_14 (fun x1 => ?_)
    refine s_istore (lv' := [(4, .int x1), (0, .ref a0), (1, .int i1), (2, .int i2), (3, .int i3)]) C dX6_isGoodEntry_17 (by decide) rfl ?_
    refine s_aload_n C 1 dX6_isGoodEntry_19 rfl rfl ?_
    refine s_iload_n C 2 dX6_isGoodEntry_20 rfl rfl ?_
    refine s_bipush (v := 8) C dX6_isGoodEntry_21 (by decide) ?_
    refine s_iadd C dX6_isGoodEntry_23 ?_
    refine s_invV_i C ci4 cy_X1_shortAt (Or.inl wd_5_212) rfl wd_5_117 wd_5_118 (con_X1_shortAt l G a0 (i1 + 8)) rfl rfl (Nat.le_of_ble_eq_true rfl) (by rw [hF]; decide) (by rw [hO]; exact Nat.le_of_ble_eq_true rfl) dX6_isGoodEntry_24 (fun x2 => ?_)
    refine s_istore (lv' := [(5, .int x2), (4, .int x1), (0, .ref a0), (1, .int i1), (2, .int i2), (3, .int i3)]) C dX6_isGoodEntry_27 (by decide) rfl ?_
    refine s_aload_n C 2 dX6_isGoodEntry_29 rfl rfl ?_
    refine s_iload_n C 3 dX6_isGoodEntry_30 rfl rfl ?_
    refine s_bipush (v := 10) C dX6_isGoodEntry_31 (by decide) ?_
    refine s_iadd C dX6_isGoodEntry_33 ?_
    refine s_invV_i C ci4 cy_X1_numberAt (Or.inl wd_5_181) rfl wd_5_113 wd_5_114 (con_X1_numberAt l G a0 (i1 + 10)) rfl rfl (Nat.le_of_ble_eq_true rfl) (by rw [hF]; decide) (by rw [hO]; exact Nat.le_of_ble_eq_true rfl) dX6_isGoodEntry_34 (fun x3 => ?_)
    refine s_istore (lv' := [(6, .int x3), (5, .int x2), (4, .int x1), (0, .ref a0), (1, .int i1), (2, .int i2), (3, .int i3)]) C dX6_isGoodEntry_37 (by decide) rfl ?_
    refine s_aload_n C 3 dX6_isGoodEntry_39 rfl rfl ?_
    refine s_iload_n C 4 dX6_isGoodEntry_40 rfl rfl ?_
    refine s_invV_i C ci4 cy_X1_numberAt (Or.inl wd_5_181) rfl wd_5_113 wd_5_114 (con_X1_numberAt l G a0 i1) rfl rfl (Nat.le_of_ble_eq_true rfl) (by rw [hF]; decide) (by rw [hO]; exact Nat.le_of_ble_eq_true rfl) dX6_isGoodEntry_41 (fun x4 => ?_)
    refine s_iload C 1 dX6_isGoodEntry_44 rfl ?_
    refine s_iload C 0 dX6_isGoodEntry_46 rfl ?_
    refine s_invS_i C cy_X8_isTold (Or.inr ⟨_, wd_5_213⟩) wd_5_214 (con_X8_isTold l G x4 x2 x3) rfl rfl (Nat.le_of_ble_eq_true rfl) (by rw [hF]; decide) (by rw [hO]; exact Nat.le_of_ble_eq_true rfl) dX6_isGoodEntry_48 (fun x5 => ?_)
    refine s_if_eq (tgt := 88) C dX6_isGoodEntry_51 (by decide) ?_ ?_
    · refine s_iconst (v := 0) C dX6_isGoodEntry_88 (by decide) ?_
      exact s_zret C hr rfl (Or.inl rfl) dX6_isGoodEntry_89
    refine s_iload_n C 4 dX6_isGoodEntry_54 rfl rfl ?_
    refine s_bipush (v := 14) C dX6_isGoodEntry_55 (by decide) ?_
    refine s_iadd C dX6_isGoodEntry_57 ?_
    refine s_iload C 1 dX6_isGoodEntry_58 rfl ?_
    refine s_iadd C dX6_isGoodEntry_60 ?_
    refine s_iload_n C 5 dX6_isGoodEntry_61 rfl rfl ?_
    refine s_icmp_gt (tgt := 88) C dX6_isGoodEntry_62 (by decide) ?_ ?_
    · refine s_iconst (v := 0) C dX6_isGoodEntry_88 (by decide) ?_
      exact s_zret C hr rfl (Or.inl rfl) dX6_isGoodEntry_89
    refine s_iload C 2 dX6_isGoodEntry_65 rfl ?_
    refine s_if_lt (tgt := 88) C dX6_isGoodEntry_67 (by decide) ?_ ?_
    · refine s_iconst (v := 0) C dX6_isGoodEntry_88 (by decide) ?_
      exact s_zret C hr rfl (Or.inl rfl) dX6_isGoodEntry_89
    refine s_iload C 2 dX6_isGoodEntry_70 rfl ?_
    refine s_iload_n C 6 dX6_isGoodEntry_72 rfl rfl ?_
    refine s_iload C 1 dX6_isGoodEntry_73 rfl ?_
    refine s_iload C 0 dX6_isGoodEntry_75 rfl ?_
    refine s_invS_i C cy_X8_recordSize (Or.inr ⟨_, wd_5_216⟩) wd_2_214 (con_X8_recordSize l G x2 x3) rfl rfl (Nat.le_of_ble_eq_true rfl) (by rw [hF]; decide) (by rw [hO]; exact Nat.le_of_ble_eq_true rfl) dX6_isGoodEntry_77 (fun x6 => ?_)
    refine s_isub C dX6_isGoodEntry_80 ?_
    refine s_icmp_gt (tgt := 88) C dX6_isGoodEntry_81 (by decide) ?_ ?_
    · refine s_iconst (v := 0) C dX6_isGoodEntry_88 (by decide) ?_
      exact s_zret C hr rfl (Or.inl rfl) dX6_isGoodEntry_89
    refine s_iconst (v := 1) C dX6_isGoodEntry_84 (by decide) ?_
    refine s_goto (tgt := 89) C dX6_isGoodEntry_85 (by decide) ?_
    exact s_zret C hr rfl (Or.inr rfl) dX6_isGoodEntry_89
  refine s_iconst (v := 0) C dX6_isGoodEntry_8 (by decide) ?_
  exact s_zret C hr rfl (Or.inl rfl) dX6_isGoodEntry_9

theorem dX6_isGoodHint_0 : decode cX6_isGoodHint 0 = .ok (.aload_n 0, 1) := by decide +kernel
theorem dX6_isGoodHint_1 : decode cX6_isGoodHint 1 = .ok (.invokevirtual 76, 3) := by decide +kernel
theorem dX6_isGoodHint_4 : decode cX6_isGoodHint 4 = .ok (.iconst 4, 1) := by decide +kernel
theorem dX6_isGoodHint_5 : decode cX6_isGoodHint 5 = .ok (.isub, 1) := by decide +kernel
theorem dX6_isGoodHint_6 : decode cX6_isGoodHint 6 = .ok (.istore_n 2, 1) := by decide +kernel
theorem dX6_isGoodHint_7 : decode cX6_isGoodHint 7 = .ok (.iload_n 2, 1) := by decide +kernel
theorem dX6_isGoodHint_8 : decode cX6_isGoodHint 8 = .ok (.iconst 4, 1) := by decide +kernel
theorem dX6_isGoodHint_9 : decode cX6_isGoodHint 9 = .ok (.if_icmp .lt 17, 3) := by decide +kernel
theorem dX6_isGoodHint_12 : decode cX6_isGoodHint 12 = .ok (.aload_n 0, 1) := by decide +kernel
theorem dX6_isGoodHint_13 : decode cX6_isGoodHint 13 = .ok (.iload_n 2, 1) := by decide +kernel
theorem dX6_isGoodHint_14 : decode cX6_isGoodHint 14 = .ok (.invokevirtual 102, 3) := by decide +kernel
theorem dX6_isGoodHint_17 : decode cX6_isGoodHint 17 = .ok (.aload_n 0, 1) := by decide +kernel
theorem dX6_isGoodHint_18 : decode cX6_isGoodHint 18 = .ok (.iconst 0, 1) := by decide +kernel
theorem dX6_isGoodHint_19 : decode cX6_isGoodHint 19 = .ok (.iload_n 2, 1) := by decide +kernel
theorem dX6_isGoodHint_20 : decode cX6_isGoodHint 20 = .ok (.invokevirtual 141, 3) := by decide +kernel
theorem dX6_isGoodHint_23 : decode cX6_isGoodHint 23 = .ok (.if_icmp .eq 5, 3) := by decide +kernel
theorem dX6_isGoodHint_26 : decode cX6_isGoodHint 26 = .ok (.iconst 0, 1) := by decide +kernel
theorem dX6_isGoodHint_27 : decode cX6_isGoodHint 27 = .ok (.ireturn, 1) := by decide +kernel
theorem dX6_isGoodHint_28 : decode cX6_isGoodHint 28 = .ok (.iconst 0, 1) := by decide +kernel
theorem dX6_isGoodHint_29 : decode cX6_isGoodHint 29 = .ok (.istore_n 3, 1) := by decide +kernel
theorem dX6_isGoodHint_30 : decode cX6_isGoodHint 30 = .ok (.iconst 4, 1) := by decide +kernel
theorem dX6_isGoodHint_31 : decode cX6_isGoodHint 31 = .ok (.istore 4, 2) := by decide +kernel
theorem dX6_isGoodHint_33 : decode cX6_isGoodHint 33 = .ok (.iload 4, 2) := by decide +kernel
theorem dX6_isGoodHint_35 : decode cX6_isGoodHint 35 = .ok (.iload_n 2, 1) := by decide +kernel
theorem dX6_isGoodHint_36 : decode cX6_isGoodHint 36 = .ok (.if_icmp .ge 39, 3) := by decide +kernel
theorem dX6_isGoodHint_39 : decode cX6_isGoodHint 39 = .ok (.aload_n 0, 1) := by decide +kernel
theorem dX6_isGoodHint_40 : decode cX6_isGoodHint 40 = .ok (.iload 4, 2) := by decide +kernel
theorem dX6_isGoodHint_42 : decode cX6_isGoodHint 42 = .ok (.iload_n 2, 1) := by decide +kernel
theorem dX6_isGoodHint_43 : decode cX6_isGoodHint 43 = .ok (.iload_n 1, 1) := by decide +kernel
theorem dX6_isGoodHint_44 : decode cX6_isGoodHint 44 = .ok (.invokestatic 144, 3) := by decide +kernel
theorem dX6_isGoodHint_47 : decode cX6_isGoodHint 47 = .ok (.ifCond .ne 5, 3) := by decide +kernel
theorem dX6_isGoodHint_50 : decode cX6_isGoodHint 50 = .ok (.iconst 0, 1) := by decide +kernel
theorem dX6_isGoodHint_51 : decode cX6_isGoodHint 51 = .ok (.ireturn, 1) := by decide +kernel
theorem dX6_isGoodHint_52 : decode cX6_isGoodHint 52 = .ok (.iinc 3 1, 3) := by decide +kernel
theorem dX6_isGoodHint_55 : decode cX6_isGoodHint 55 = .ok (.iload 4, 2) := by decide +kernel
theorem dX6_isGoodHint_57 : decode cX6_isGoodHint 57 = .ok (.bipush 14, 2) := by decide +kernel
theorem dX6_isGoodHint_59 : decode cX6_isGoodHint 59 = .ok (.aload_n 0, 1) := by decide +kernel
theorem dX6_isGoodHint_60 : decode cX6_isGoodHint 60 = .ok (.iload 4, 2) := by decide +kernel
theorem dX6_isGoodHint_62 : decode cX6_isGoodHint 62 = .ok (.bipush 8, 2) := by decide +kernel
theorem dX6_isGoodHint_64 : decode cX6_isGoodHint 64 = .ok (.iadd, 1) := by decide +kernel
theorem dX6_isGoodHint_65 : decode cX6_isGoodHint 65 = .ok (.invokevirtual 92, 3) := by decide +kernel
theorem dX6_isGoodHint_68 : decode cX6_isGoodHint 68 = .ok (.iadd, 1) := by decide +kernel
theorem dX6_isGoodHint_69 : decode cX6_isGoodHint 69 = .ok (.iadd, 1) := by decide +kernel
theorem dX6_isGoodHint_70 : decode cX6_isGoodHint 70 = .ok (.istore 4, 2) := by decide +kernel
theorem dX6_isGoodHint_72 : decode cX6_isGoodHint 72 = .ok (.goto (-39), 3) := by decide +kernel
theorem dX6_isGoodHint_75 : decode cX6_isGoodHint 75 = .ok (.iload_n 3, 1) := by decide +kernel
theorem dX6_isGoodHint_76 : decode cX6_isGoodHint 76 = .ok (.aload_n 0, 1) := by decide +kernel
theorem dX6_isGoodHint_77 : decode cX6_isGoodHint 77 = .ok (.iconst 0, 1) := by decide +kernel
theorem dX6_isGoodHint_78 : decode cX6_isGoodHint 78 = .ok (.invokevirtual 102, 3) := by decide +kernel
theorem dX6_isGoodHint_81 : decode cX6_isGoodHint 81 = .ok (.if_icmp .ne 7, 3) := by decide +kernel
theorem dX6_isGoodHint_84 : decode cX6_isGoodHint 84 = .ok (.iconst 1, 1) := by decide +kernel
theorem dX6_isGoodHint_85 : decode cX6_isGoodHint 85 = .ok (.goto 4, 3) := by decide +kernel
theorem dX6_isGoodHint_88 : decode cX6_isGoodHint 88 = .ok (.iconst 0, 1) := by decide +kernel
theorem dX6_isGoodHint_89 : decode cX6_isGoodHint 89 = .ok (.ireturn, 1) := by decide +kernel
def X6_isGoodHint_b33b  (k33 : Nat → Int32 → Int32 → Int32 → Int32 → M Int32) (a0 : Nat) (i1 : Int32) (i2 : Int32) (i3 : Int32) (i4 : Int32) : M Int32 := it (i2 ≤ i4) (bd (ck 4 a0) (fun _ => bd (X1_numberAt a0 0) (fun x1 => it (¬ i3 = x1) (pu 0) (pu 1)))) (bd (X6_isGoodEntry a0 i4 i2 i1) (fun x2 => it (¬ x2 = 0) (bd (ck 4 a0) (fun _ => bd (X1_shortAt a0 (i4 + 8)) (fun x3 => bd (pu (i4 + (14 + x3))) (fun x4 => k33 a0 i1 i2 (i3 + 1) x4)))) (pu 0)))
def X6_isGoodHint_b33  : Nat → Nat → Int32 → Int32 → Int32 → Int32 → M Int32
  | 0 => fun _ _ _ _ _ => fl
  | n + 1 => fun a0 i1 i2 i3 i4 => X6_isGoodHint_b33b  (X6_isGoodHint_b33  n) a0 i1 i2 i3 i4
def X6_isGoodHint (a0 : Nat) (i1 : Int32) : M Int32 := bd (ck 4 a0) (fun _ => bd (X1_size a0) (fun x1 => bd (pu (x1 - 4)) (fun x2 => it (x2 < 4) (pu 0) (bd (ck 4 a0) (fun _ => bd (X1_numberAt a0 x2) (fun x3 => bd (ck 4 a0) (fun _ => bd (X1_sum a0 0 x2) (fun x4 => it (x3 = x4) (X6_isGoodHint_b33  FU a0 i1 x2 0 4) (pu 0)))))))))
section
variable {G : Gx} {p : Program} {l : Launch} {e : Env} {R : Room} {s : State} {m : MethodId} {args : Array Value} {below : List Frame} {meth : Method} {c : Code} {h0 : Hp} {r : Int32} {h' : Hp}
set_option maxRecDepth 20000 in
theorem X6_isGoodHint_b33b_s (C : Cx G p R s m args meth c cX6_isGoodHint 5 yX6_isGoodHint.cls h0 h') (hF : R.frames = 4) (hO : R.locals = 89) (hr : meth.sig.returnType = (some .boolean)) (hm : meth.name = yX6_isGoodHint.name)  {k33 : Nat → Int32 → Int32 → Int32 → Int32 → M Int32} (hk33 : ∀ (a0 : Nat) (i1 : Int32) (i2 : Int32) (i3 : Int32) (i4 : Int32), Sm G (QM G rvI below args s h0 r h') p l e R s m args below meth c 5 h0 r h' 33 [(0, .ref a0), (1, .int i1), (2, .int i2), (3, .int i3), (4, .int i4)] [] (k33 a0 i1 i2 i3 i4)) (a0 : Nat) (i1 : Int32) (i2 : Int32) (i3 : Int32) (i4 : Int32) : Sm G (QM G rvI below args s h0 r h') p l e R s m args below meth c 5 h0 r h' 33 [(0, .ref a0), (1, .int i1), (2, .int i2), (3, .int i3), (4, .int i4)] [] (X6_isGoodHint_b33b  k33 a0 i1 i2 i3 i4) := by
  refine s_iload C 4 dX6_isGoodHint_33 rfl ?_
  refine s_iload_n C 2 dX6_isGoodHint_35 rfl rfl ?_
  refine s_icmp_ge (tgt := 75) C dX6_isGoodHint_36 (by decide) ?_ ?_
  · refine s_iload_n C 3 dX6_isGoodHint_75 rfl rfl ?_
    refine s_aload_n C 0 dX6_isGoodHint_76 rfl rfl ?_
    refine s_iconst (v := 0) C dX6_isGoodHint_77 (by decide) ?_
    refine s_invV_i C ci4 cy_X1_numberAt (Or.inl wd_5_181) rfl wd_5_113 wd_5_114 (con_X1_numberAt l G a0 0) rfl rfl (Nat.le_of_ble_eq_true rfl) (by rw [hF]; decide) (by rw [hO]; exact Nat.le_of_ble_eq_true rfl) dX6_isGoodHint_78 (fun x1 => ?_)
    refine s_icmp_ne (tgt := 88) C dX6_isGoodHint_81 (by decide) ?_ ?_
    · refine s_iconst (v := 0) C dX6_isGoodHint_88 (by decide) ?_
      exact s_zret C hr rfl (Or.inl rfl) dX6_isGoodHint_89
    refine s_iconst (v := 1) C dX6_isGoodHint_84 (by decide) ?_
    refine s_goto (tgt := 89) C dX6_isGoodHint_85 (by decide) ?_
    exact s_zret C hr rfl (Or.inr rfl) dX6_isGoodHint_89
  refine s_aload_n C 0 dX6_isGoodHint_39 rfl rfl ?_
  refine s_iload C 4 dX6_isGoodHint_40 rfl ?_
  refine s_iload_n C 2 dX6_isGoodHint_42 rfl rfl ?_
  refine s_iload_n C 1 dX6_isGoodHint_43 rfl rfl ?_
  refine s_invS_i C cy_X6_isGoodEntry (Or.inl wd_5_209) wd_5_210 (con_X6_isGoodEntry l G a0 i4 i2 i1) rfl rfl (Nat.le_of_ble_eq_true rfl) (by rw [hF]; decide) (by rw [hO]; exact Nat.le_of_ble_eq_true rfl) dX6_isGoodHint_44 (fun x2 => ?_)
  refine s_if_ne (tgt := 52) C dX6_isGoodHint_47 (by decide) ?_ ?_
  · refine s_iincK (lv' := [(3, .int (i3 + 1)), (0, .ref a0), (1, .int i1), (2, .int i2), (4, .int i4)]) (w := 1) C 3 dX6_isGoodHint_52 rfl (by decide) (by decide) rfl ?_
    refine s_iload C 4 dX6_isGoodHint_55 rfl ?_
    refine s_bipush (v := 14) C dX6_isGoodHint_57 (by decide) ?_
    refine s_aload_n C 1 dX6_isGoodHint_59 rfl rfl ?_
    refine s_iload C 4 dX6_isGoodHint_60 rfl ?_
    refine s_bipush (v := 8) C dX6_isGoodHint_62 (by decide) ?_
    refine s_iadd C dX6_isGoodHint_64 ?_
    refine s_invV_i C ci4 cy_X1_shortAt (Or.inl wd_5_212) rfl wd_5_117 wd_5_118 (con_X1_shortAt l G a0 (i4 + 8)) rfl rfl (Nat.le_of_ble_eq_true rfl) (by rw [hF]; decide) (by rw [hO]; exact Nat.le_of_ble_eq_true rfl) dX6_isGoodHint_65 (fun x3 => ?_)
    refine s_iadd C dX6_isGoodHint_68 ?_
    refine s_iadd C dX6_isGoodHint_69 ?_
    refine s_let (fun x4 => ?_)
    refine s_istore (lv' := [(4, .int x4), (3, .int (i3 + 1)), (0, .ref a0), (1, .int i1), (2, .int i2)]) C dX6_isGoodHint_70 (by decide) rfl ?_
    refine s_goto (tgt := 33) C dX6_isGoodHint_72 (by decide) ?_
    refine s_sub [2, 3, 4, 1, 0] rfl ?_
    exact hk33 a0 i1 i2 (i3 + 1) x4
  refine s_iconst (v := 0) C dX6_isGoodHint_50 (by decide) ?_
  exact s_zret C hr rfl (Or.inl rfl) dX6_isGoodHint_51
set_option maxRecDepth 20000 in
theorem X6_isGoodHint_b33_s (C : Cx G p R s m args meth c cX6_isGoodHint 5 yX6_isGoodHint.cls h0 h') (hF : R.frames = 4) (hO : R.locals = 89) (hr : meth.sig.returnType = (some .boolean)) (hm : meth.name = yX6_isGoodHint.name)  (n : Nat) : ∀ (a0 : Nat) (i1 : Int32) (i2 : Int32) (i3 : Int32) (i4 : Int32), Sm G (QM G rvI below args s h0 r h') p l e R s m args below meth c 5 h0 r h' 33 [(0, .ref a0), (1, .int i1), (2, .int i2), (3, .int i3), (4, .int i4)] [] (X6_isGoodHint_b33  n a0 i1 i2 i3 i4) := by
  induction n with
  | zero => intro a0 i1 i2 i3 i4; exact s_fl
  | succ n ih => intro a0 i1 i2 i3 i4; exact X6_isGoodHint_b33b_s C hF hO hr hm  ih a0 i1 i2 i3 i4
end
set_option maxRecDepth 20000 in
theorem con_X6_isGoodHint (l : Launch) (G : Gx) (a0 : Nat) (i1 : Int32) : Con G rvI l yX6_isGoodHint cX6_isGoodHint 5 (some .boolean) 4 89 [.ref a0, .int i1] (X6_isGoodHint a0 i1) := by
  refine con_of (lv := [(0, .ref a0), (1, .int i1)]) (by decide) (Nat.le_of_ble_eq_true rfl) rfl (fun p e R s m args below meth c h0 r h' C hF hO hr hm => ?_)
  refine s_aload_n C 0 dX6_isGoodHint_0 rfl rfl ?_
  refine s_invV_i C ci4 cy_X1_size (Or.inl wd_5_179) rfl wd_2_147 wd_2_148 (con_X1_size l G a0) rfl rfl (Nat.le_of_ble_eq_true rfl) (by rw [hF]; decide) (by rw [hO]; exact Nat.le_of_ble_eq_true rfl) dX6_isGoodHint_1 (fun x1 => ?_)
  refine s_iconst (v := 4) C dX6_isGoodHint_4 (by decide) ?_
  refine s_isub C dX6_isGoodHint_5 ?_
  refine s_let (fun x2 => ?_)
  refine s_istore_n (lv' := [(2, .int x2), (0, .ref a0), (1, .int i1)]) C dX6_isGoodHint_6 rfl (by decide) rfl ?_
  refine s_iload_n C 0 dX6_isGoodHint_7 rfl rfl ?_
  refine s_iconst (v := 4) C dX6_isGoodHint_8 (by decide) ?_
  refine s_icmp_lt (tgt := 26) C dX6_isGoodHint_9 (by decide) ?_ ?_
  · refine s_iconst (v := 0) C dX6_isGoodHint_26 (by decide) ?_
    exact s_zret C hr rfl (Or.inl rfl) dX6_isGoodHint_27
  refine s_aload_n C 1 dX6_isGoodHint_12 rfl rfl ?_
  refine s_iload_n C 0 dX6_isGoodHint_13 rfl rfl ?_
  refine s_invV_i C ci4 cy_X1_numberAt (Or.inl wd_5_181) rfl wd_5_113 wd_5_114 (con_X1_numberAt l G a0 x2) rfl rfl (Nat.le_of_ble_eq_true rfl) (by rw [hF]; decide) (by rw [hO]; exact Nat.le_of_ble_eq_true rfl) dX6_isGoodHint_14 (fun x3 => ?_)
  refine s_aload_n C 1 dX6_isGoodHint_17 rfl rfl ?_
  refine s_iconst (v := 0) C dX6_isGoodHint_18 (by decide) ?_
  refine s_iload_n C 0 dX6_isGoodHint_19 rfl rfl ?_
  refine s_invV_i C ci4 cy_X1_sum (Or.inl wd_5_183) rfl wd_3_157 wd_3_158 (con_X1_sum l G a0 0 x2) rfl rfl (Nat.le_of_ble_eq_true rfl) (by rw [hF]; decide) (by rw [hO]; exact Nat.le_of_ble_eq_true rfl) dX6_isGoodHint_20 (fun x4 => ?_)
  refine s_icmp_eq (tgt := 28) C dX6_isGoodHint_23 (by decide) ?_ ?_
  · refine s_iconst (v := 0) C dX6_isGoodHint_28 (by decide) ?_
    refine s_istore_n (lv' := [(3, .int 0), (2, .int x2), (0, .ref a0), (1, .int i1)]) C dX6_isGoodHint_29 rfl (by decide) rfl ?_
    refine s_iconst (v := 4) C dX6_isGoodHint_30 (by decide) ?_
    refine s_istore (lv' := [(4, .int 4), (3, .int 0), (2, .int x2), (0, .ref a0), (1, .int i1)]) C dX6_isGoodHint_31 (by decide) rfl ?_
    refine s_sub [3, 4, 2, 1, 0] rfl ?_
    exact X6_isGoodHint_b33_s C hF hO hr hm  FU a0 i1 x2 0 4
  refine s_iconst (v := 0) C dX6_isGoodHint_26 (by decide) ?_
  exact s_zret C hr rfl (Or.inl rfl) dX6_isGoodHint_27

theorem dX6_read_0 : decode cX6_read 0 = .ok (.iload 5, 2) := by decide +kernel
theorem dX6_read_2 : decode cX6_read 2 = .ok (.aload_n 1, 1) := by decide +kernel
theorem dX6_read_3 : decode cX6_read 3 = .ok (.getfield 120, 3) := by decide +kernel
theorem dX6_read_6 : decode cX6_read 6 = .ok (.if_icmp .lt 13, 3) := by decide +kernel
theorem dX6_read_9 : decode cX6_read 9 = .ok (.aload_n 1, 1) := by decide +kernel
theorem dX6_read_10 : decode cX6_read 10 = .ok (.iload_n 2, 1) := by decide +kernel
theorem dX6_read_11 : decode cX6_read 11 = .ok (.iload_n 3, 1) := by decide +kernel
theorem dX6_read_12 : decode cX6_read 12 = .ok (.iload 4, 2) := by decide +kernel
theorem dX6_read_14 : decode cX6_read 14 = .ok (.iload 5, 2) := by decide +kernel
theorem dX6_read_16 : decode cX6_read 16 = .ok (.invokevirtual 125, 3) := by decide +kernel
theorem dX6_read_19 : decode cX6_read 19 = .ok (.aload_n 0, 1) := by decide +kernel
theorem dX6_read_20 : decode cX6_read 20 = .ok (.aload_n 0, 1) := by decide +kernel
theorem dX6_read_21 : decode cX6_read 21 = .ok (.getfield 32, 3) := by decide +kernel
theorem dX6_read_24 : decode cX6_read 24 = .ok (.iload 5, 2) := by decide +kernel
theorem dX6_read_26 : decode cX6_read 26 = .ok (.invokestatic 129, 3) := by decide +kernel
theorem dX6_read_29 : decode cX6_read 29 = .ok (.putfield 32, 3) := by decide +kernel
theorem dX6_read_32 : decode cX6_read 32 = .ok (.return_, 1) := by decide +kernel
def X6_read_b19   (a0 : Nat) (i5 : Int32) : M Unit := bd (gI 9 6 a0) (fun x1 => bd (pV 9 6 a0 (.int (imx x1 i5))) (fun _ => pu ()))
def X6_read (a0 : Nat) (a1 : Nat) (i2 : Int32) (i3 : Int32) (i4 : Int32) (i5 : Int32) : M Unit := bd (gI 10 4 a1) (fun x1 => it (i5 < x1) (X6_read_b19   a0 i5) (bd (ck 10 a1) (fun _ => bd (X7_tell a1 i2 i3 i4 i5) (fun _ => X6_read_b19   a0 i5))))
section
variable {G : Gx} {p : Program} {l : Launch} {e : Env} {R : Room} {s : State} {m : MethodId} {args : Array Value} {below : List Frame} {meth : Method} {c : Code} {h0 : Hp} {r : Unit} {h' : Hp}
set_option maxRecDepth 20000 in
theorem X6_read_b19_s (C : Cx G p R s m args meth c cX6_read 6 yX6_read.cls h0 h') (hF : R.frames = 1) (hO : R.locals = 30) (hr : meth.sig.returnType = none) (hm : meth.name = yX6_read.name)   (a0 : Nat) (i5 : Int32) : Sm G (QM G rvU below args s h0 r h') p l e R s m args below meth c 6 h0 r h' 19 [(0, .ref a0), (5, .int i5)] [] (X6_read_b19   a0 i5) := by
  refine s_aload_n C 0 dX6_read_19 rfl rfl ?_
  refine s_aload_n C 0 dX6_read_20 rfl rfl ?_
  refine s_gI C ci9 6 (by decide) (Or.inl wd_1_187) dX6_read_21 (fun x1 => ?_)
  refine s_iload C 1 dX6_read_24 rfl ?_
  refine s_mmax C wd_5_227 wd_2_18 wd_1_14 wd_2_19 (by rw [hF]; decide) (by rw [hO]; exact Nat.le_of_ble_eq_true rfl) dX6_read_26 ?_
  refine s_pV C ci9 6 (by decide) rfl (Or.inl wd_1_187) dX6_read_29 rfl rfl ?_
  exact s_vret C hr rfl dX6_read_32
end
set_option maxRecDepth 20000 in
theorem con_X6_read (l : Launch) (G : Gx) (a0 : Nat) (a1 : Nat) (i2 : Int32) (i3 : Int32) (i4 : Int32) (i5 : Int32) : Con G rvU l yX6_read cX6_read 6 none 1 30 [.ref a0, .ref a1, .int i2, .int i3, .int i4, .int i5] (X6_read a0 a1 i2 i3 i4 i5) := by
  refine con_of (lv := [(0, .ref a0), (1, .ref a1), (2, .int i2), (3, .int i3), (4, .int i4), (5, .int i5)]) (by decide) (Nat.le_of_ble_eq_true rfl) rfl (fun p e R s m args below meth c h0 r h' C hF hO hr hm => ?_)
  refine s_iload C 5 dX6_read_0 rfl ?_
  refine s_aload_n C 1 dX6_read_2 rfl rfl ?_
  refine s_gI C ci10 4 (by decide) (Or.inr (Or.inr ⟨_, wd_5_69⟩)) dX6_read_3 (fun x1 => ?_)
  refine s_icmp_lt (tgt := 19) C dX6_read_6 (by decide) ?_ ?_
  · refine s_sub [0, 5] rfl ?_
    exact X6_read_b19_s C hF hO hr hm   a0 i5
  refine s_aload_n C 1 dX6_read_9 rfl rfl ?_
  refine s_iload_n C 2 dX6_read_10 rfl rfl ?_
  refine s_iload_n C 3 dX6_read_11 rfl rfl ?_
  refine s_iload C 4 dX6_read_12 rfl ?_
  refine s_iload C 5 dX6_read_14 rfl ?_
  refine s_invV_u C ci10 cy_X7_tell (Or.inl wd_5_226) rfl wd_5_85 wd_5_86 (con_X7_tell l G a1 i2 i3 i4 i5) rfl rfl (Nat.le_of_ble_eq_true rfl) (by rw [hF]; decide) (by rw [hO]; exact Nat.le_of_ble_eq_true rfl) dX6_read_16 ?_
  refine s_sub [0, 5] rfl ?_
  exact X6_read_b19_s C hF hO hr hm   a0 i5

theorem dX6_readHint_0 : decode cX6_readHint 0 = .ok (.aload_n 1, 1) := by decide +kernel
theorem dX6_readHint_1 : decode cX6_readHint 1 = .ok (.getfield 45, 3) := by decide +kernel
theorem dX6_readHint_4 : decode cX6_readHint 4 = .ok (.astore_n 2, 1) := by decide +kernel
theorem dX6_readHint_5 : decode cX6_readHint 5 = .ok (.aload_n 2, 1) := by decide +kernel
theorem dX6_readHint_6 : decode cX6_readHint 6 = .ok (.invokevirtual 76, 3) := by decide +kernel
theorem dX6_readHint_9 : decode cX6_readHint 9 = .ok (.iconst 4, 1) := by decide +kernel
theorem dX6_readHint_10 : decode cX6_readHint 10 = .ok (.isub, 1) := by decide +kernel
theorem dX6_readHint_11 : decode cX6_readHint 11 = .ok (.istore_n 3, 1) := by decide +kernel
theorem dX6_readHint_12 : decode cX6_readHint 12 = .ok (.iconst 4, 1) := by decide +kernel
theorem dX6_readHint_13 : decode cX6_readHint 13 = .ok (.istore 4, 2) := by decide +kernel
theorem dX6_readHint_15 : decode cX6_readHint 15 = .ok (.iload 4, 2) := by decide +kernel
theorem dX6_readHint_17 : decode cX6_readHint 17 = .ok (.iload_n 3, 1) := by decide +kernel
theorem dX6_readHint_18 : decode cX6_readHint 18 = .ok (.if_icmp .ge 94, 3) := by decide +kernel
theorem dX6_readHint_21 : decode cX6_readHint 21 = .ok (.aload_n 0, 1) := by decide +kernel
theorem dX6_readHint_22 : decode cX6_readHint 22 = .ok (.getfield 15, 3) := by decide +kernel
theorem dX6_readHint_25 : decode cX6_readHint 25 = .ok (.aload_n 2, 1) := by decide +kernel
theorem dX6_readHint_26 : decode cX6_readHint 26 = .ok (.iload 4, 2) := by decide +kernel
theorem dX6_readHint_28 : decode cX6_readHint 28 = .ok (.bipush 14, 2) := by decide +kernel
theorem dX6_readHint_30 : decode cX6_readHint 30 = .ok (.iadd, 1) := by decide +kernel
theorem dX6_readHint_31 : decode cX6_readHint 31 = .ok (.aload_n 2, 1) := by decide +kernel
theorem dX6_readHint_32 : decode cX6_readHint 32 = .ok (.iload 4, 2) := by decide +kernel
theorem dX6_readHint_34 : decode cX6_readHint 34 = .ok (.bipush 8, 2) := by decide +kernel
theorem dX6_readHint_36 : decode cX6_readHint 36 = .ok (.iadd, 1) := by decide +kernel
theorem dX6_readHint_37 : decode cX6_readHint 37 = .ok (.invokevirtual 92, 3) := by decide +kernel
theorem dX6_readHint_40 : decode cX6_readHint 40 = .ok (.invokevirtual 96, 3) := by decide +kernel
theorem dX6_readHint_43 : decode cX6_readHint 43 = .ok (.astore 5, 2) := by decide +kernel
theorem dX6_readHint_45 : decode cX6_readHint 45 = .ok (.aload_n 2, 1) := by decide +kernel
theorem dX6_readHint_46 : decode cX6_readHint 46 = .ok (.iload 4, 2) := by decide +kernel
theorem dX6_readHint_48 : decode cX6_readHint 48 = .ok (.iconst 4, 1) := by decide +kernel
theorem dX6_readHint_49 : decode cX6_readHint 49 = .ok (.iadd, 1) := by decide +kernel
theorem dX6_readHint_50 : decode cX6_readHint 50 = .ok (.invokevirtual 102, 3) := by decide +kernel
theorem dX6_readHint_53 : decode cX6_readHint 53 = .ok (.istore 6, 2) := by decide +kernel
theorem dX6_readHint_55 : decode cX6_readHint 55 = .ok (.aload_n 0, 1) := by decide +kernel
theorem dX6_readHint_56 : decode cX6_readHint 56 = .ok (.aload 5, 2) := by decide +kernel
theorem dX6_readHint_58 : decode cX6_readHint 58 = .ok (.aload_n 1, 1) := by decide +kernel
theorem dX6_readHint_59 : decode cX6_readHint 59 = .ok (.getfield 59, 3) := by decide +kernel
theorem dX6_readHint_62 : decode cX6_readHint 62 = .ok (.iload 6, 2) := by decide +kernel
theorem dX6_readHint_64 : decode cX6_readHint 64 = .ok (.aload_n 2, 1) := by decide +kernel
theorem dX6_readHint_65 : decode cX6_readHint 65 = .ok (.iload 4, 2) := by decide +kernel
theorem dX6_readHint_67 : decode cX6_readHint 67 = .ok (.bipush 10, 2) := by decide +kernel
theorem dX6_readHint_69 : decode cX6_readHint 69 = .ok (.iadd, 1) := by decide +kernel
theorem dX6_readHint_70 : decode cX6_readHint 70 = .ok (.invokevirtual 102, 3) := by decide +kernel
theorem dX6_readHint_73 : decode cX6_readHint 73 = .ok (.aload_n 2, 1) := by decide +kernel
theorem dX6_readHint_74 : decode cX6_readHint 74 = .ok (.iload 4, 2) := by decide +kernel
theorem dX6_readHint_76 : decode cX6_readHint 76 = .ok (.invokevirtual 102, 3) := by decide +kernel
theorem dX6_readHint_79 : decode cX6_readHint 79 = .ok (.invokevirtual 105, 3) := by decide +kernel
theorem dX6_readHint_82 : decode cX6_readHint 82 = .ok (.aload_n 0, 1) := by decide +kernel
theorem dX6_readHint_83 : decode cX6_readHint 83 = .ok (.dup, 1) := by decide +kernel
theorem dX6_readHint_84 : decode cX6_readHint 84 = .ok (.getfield 19, 3) := by decide +kernel
theorem dX6_readHint_87 : decode cX6_readHint 87 = .ok (.iconst 1, 1) := by decide +kernel
theorem dX6_readHint_88 : decode cX6_readHint 88 = .ok (.iadd, 1) := by decide +kernel
theorem dX6_readHint_89 : decode cX6_readHint 89 = .ok (.putfield 19, 3) := by decide +kernel
theorem dX6_readHint_92 : decode cX6_readHint 92 = .ok (.iload 4, 2) := by decide +kernel
theorem dX6_readHint_94 : decode cX6_readHint 94 = .ok (.bipush 14, 2) := by decide +kernel
theorem dX6_readHint_96 : decode cX6_readHint 96 = .ok (.aload_n 2, 1) := by decide +kernel
theorem dX6_readHint_97 : decode cX6_readHint 97 = .ok (.iload 4, 2) := by decide +kernel
theorem dX6_readHint_99 : decode cX6_readHint 99 = .ok (.bipush 8, 2) := by decide +kernel
theorem dX6_readHint_101 : decode cX6_readHint 101 = .ok (.iadd, 1) := by decide +kernel
theorem dX6_readHint_102 : decode cX6_readHint 102 = .ok (.invokevirtual 92, 3) := by decide +kernel
theorem dX6_readHint_105 : decode cX6_readHint 105 = .ok (.iadd, 1) := by decide +kernel
theorem dX6_readHint_106 : decode cX6_readHint 106 = .ok (.iadd, 1) := by decide +kernel
theorem dX6_readHint_107 : decode cX6_readHint 107 = .ok (.istore 4, 2) := by decide +kernel
theorem dX6_readHint_109 : decode cX6_readHint 109 = .ok (.goto (-94), 3) := by decide +kernel
theorem dX6_readHint_112 : decode cX6_readHint 112 = .ok (.return_, 1) := by decide +kernel
def X6_readHint_b15b  (k15 : Nat → Nat → Nat → Int32 → Int32 → M Unit) (a0 : Nat) (a1 : Nat) (a2 : Nat) (i3 : Int32) (i4 : Int32) : M Unit := it (i3 ≤ i4) (pu ()) (bd (gR 9 1 a0) (fun y1 => bd (ck 4 a2) (fun _ => bd (X1_shortAt a2 (i4 + 8)) (fun x2 => bd (ck 5 y1) (fun _ => bd (X2_rowFor y1 a2 (i4 + 14) x2) (fun y3 => bd (ck 4 a2) (fun _ => bd (X1_numberAt a2 (i4 + 4)) (fun x4 => bd (gI 7 1 a1) (fun x5 => bd (ck 4 a2) (fun _ => bd (X1_numberAt a2 (i4 + 10)) (fun x6 => bd (ck 4 a2) (fun _ => bd (X1_numberAt a2 i4) (fun x7 => bd (ck 9 a0) (fun _ => bd (X6_read a0 y3 x5 x4 x6 x7) (fun _ => bd (gI 9 2 a0) (fun x8 => bd (pV 9 2 a0 (.int (x8 + 1))) (fun _ => bd (ck 4 a2) (fun _ => bd (X1_shortAt a2 (i4 + 8)) (fun x9 => bd (pu (i4 + (14 + x9))) (fun x10 => k15 a0 a1 a2 i3 x10))))))))))))))))))))
def X6_readHint_b15  : Nat → Nat → Nat → Nat → Int32 → Int32 → M Unit
  | 0 => fun _ _ _ _ _ => fl
  | n + 1 => fun a0 a1 a2 i3 i4 => X6_readHint_b15b  (X6_readHint_b15  n) a0 a1 a2 i3 i4
def X6_readHint (a0 : Nat) (a1 : Nat) : M Unit := bd (gR 7 0 a1) (fun y1 => bd (ck 4 y1) (fun _ => bd (X1_size y1) (fun x2 => bd (pu (x2 - 4)) (fun x3 => X6_readHint_b15  FU a0 a1 y1 x3 4))))
section
variable {G : Gx} {p : Program} {l : Launch} {e : Env} {R : Room} {s : State} {m : MethodId} {args : Array Value} {below : List Frame} {meth : Method} {c : Code} {h0 : Hp} {r : Unit} {h' : Hp}
set_option maxRecDepth 20000 in
theorem X6_readHint_b15b_s (C : Cx G p R s m args meth c cX6_readHint 7 yX6_readHint.cls h0 h') (hF : R.frames = 7) (hO : R.locals = 236) (hr : meth.sig.returnType = none) (hm : meth.name = yX6_readHint.name)  {k15 : Nat → Nat → Nat → Int32 → Int32 → M Unit} (hk15 : ∀ (a0 : Nat) (a1 : Nat) (a2 : Nat) (i3 : Int32) (i4 : Int32), Sm G (QM G rvU below args s h0 r h') p l e R s m args below meth c 7 h0 r h' 15 [(0, .ref a0), (1, .ref a1), (2, .ref a2), (3, .int i3), (4, .int i4)] [] (k15 a0 a1 a2 i3 i4)) (a0 : Nat) (a1 : Nat) (a2 : Nat) (i3 : Int32) (i4 : Int32) : Sm G (QM G rvU below args s h0 r h') p l e R s m args below meth c 7 h0 r h' 15 [(0, .ref a0), (1, .ref a1), (2, .ref a2), (3, .int i3), (4, .int i4)] [] (X6_readHint_b15b  k15 a0 a1 a2 i3 i4) := by
  refine s_iload C 4 dX6_readHint_15 rfl ?_
  refine s_iload_n C 3 dX6_readHint_17 rfl rfl ?_
  refine s_icmp_ge (tgt := 112) C dX6_readHint_18 (by decide) ?_ ?_
  · exact s_vret C hr rfl dX6_readHint_112
  refine s_aload_n C 0 dX6_readHint_21 rfl rfl ?_
  refine s_gR C ci9 1 (by decide) (Or.inl wd_1_178) dX6_readHint_22 (fun y1 => ?_)
  refine s_aload_n C 2 dX6_readHint_25 rfl rfl ?_
  refine s_iload C 4 dX6_readHint_26 rfl ?_
  refine s_bipush (v := 14) C dX6_readHint_28 (by decide) ?_
  refine s_iadd C dX6_readHint_30 ?_
  refine s_aload_n C 2 dX6_readHint_31 rfl rfl ?_
  refine s_iload C 4 dX6_readHint_32 rfl ?_
  refine s_bipush (v := 8) C dX6_readHint_34 (by decide) ?_
  refine s_iadd C dX6_readHint_36 ?_
  refine s_invV_i C ci4 cy_X1_shortAt (Or.inl wd_5_212) rfl wd_5_117 wd_5_118 (con_X1_shortAt l G a2 (i4 + 8)) rfl rfl (Nat.le_of_ble_eq_true rfl) (by rw [hF]; decide) (by rw [hO]; exact Nat.le_of_ble_eq_true rfl) dX6_readHint_37 (fun x2 => ?_)
  refine s_invV_r C ci5 cy_X2_rowFor (Or.inl wd_5_221) rfl wd_5_32 wd_5_33 (con_X2_rowFor l G y1 a2 (i4 + 14) x2) rfl rfl (Nat.le_of_ble_eq_true rfl) (by rw [hF]; decide) (by rw [hO]; exact Nat.le_of_ble_eq_true rfl) dX6_readHint_40 (fun y3 => ?_)
  refine s_astore (lv' := [(5, .ref y3), (0, .ref a0), (1, .ref a1), (2, .ref a2), (3, .int i3), (4, .int i4)]) C dX6_readHint_43 (by decide) rfl ?_
  refine s_aload_n C 3 dX6_readHint_45 rfl rfl ?_
  refine s_iload C 5 dX6_readHint_46 rfl ?_
  refine s_iconst (v := 4) C dX6_readHint_48 (by decide) ?_
  refine s_iadd C dX6_readHint_49 ?_
  refine s_invV_i C ci4 cy_X1_numberAt (Or.inl wd_5_181) rfl wd_5_113 wd_5_114 (con_X1_numberAt l G a2 (i4 + 4)) rfl rfl (Nat.le_of_ble_eq_true rfl) (by rw [hF]; decide) (by rw [hO]; exact Nat.le_of_ble_eq_true rfl) dX6_readHint_50 (fun x4 => ?_)
  refine s_istore (lv' := [(6, .int x4), (5, .ref y3), (0, .ref a0), (1, .ref a1), (2, .ref a2), (3, .int i3), (4, .int i4)]) C dX6_readHint_53 (by decide) rfl ?_
  refine s_aload_n C 2 dX6_readHint_55 rfl rfl ?_
  refine s_aload C 1 dX6_readHint_56 rfl ?_
  refine s_aload_n C 3 dX6_readHint_58 rfl rfl ?_
  refine s_gI C ci7 1 (by decide) (Or.inr (Or.inr ⟨_, wd_3_218⟩)) dX6_readHint_59 (fun x5 => ?_)
  refine s_iload C 0 dX6_readHint_62 rfl ?_
  refine s_aload_n C 4 dX6_readHint_64 rfl rfl ?_
  refine s_iload C 6 dX6_readHint_65 rfl ?_
  refine s_bipush (v := 10) C dX6_readHint_67 (by decide) ?_
  refine s_iadd C dX6_readHint_69 ?_
  refine s_invV_i C ci4 cy_X1_numberAt (Or.inl wd_5_181) rfl wd_5_113 wd_5_114 (con_X1_numberAt l G a2 (i4 + 10)) rfl rfl (Nat.le_of_ble_eq_true rfl) (by rw [hF]; decide) (by rw [hO]; exact Nat.le_of_ble_eq_true rfl) dX6_readHint_70 (fun x6 => ?_)
  refine s_aload_n C 4 dX6_readHint_73 rfl rfl ?_
  refine s_iload C 6 dX6_readHint_74 rfl ?_
  refine s_invV_i C ci4 cy_X1_numberAt (Or.inl wd_5_181) rfl wd_5_113 wd_5_114 (con_X1_numberAt l G a2 i4) rfl rfl (Nat.le_of_ble_eq_true rfl) (by rw [hF]; decide) (by rw [hO]; exact Nat.le_of_ble_eq_true rfl) dX6_readHint_76 (fun x7 => ?_)
  refine s_invV_u C ci9 cy_X6_read (Or.inl wd_5_222) rfl wd_5_224 wp_22 (con_X6_read l G a0 y3 x5 x4 x6 x7) rfl rfl (Nat.le_of_ble_eq_true rfl) (by rw [hF]; decide) (by rw [hO]; exact Nat.le_of_ble_eq_true rfl) dX6_readHint_79 ?_
  refine s_aload_n C 2 dX6_readHint_82 rfl rfl ?_
  refine s_dup C dX6_readHint_83 rfl ?_
  refine s_gI C ci9 2 (by decide) (Or.inl wd_1_179) dX6_readHint_84 (fun x8 => ?_)
  refine s_iconst (v := 1) C dX6_readHint_87 (by decide) ?_
  refine s_iadd C dX6_readHint_88 ?_
  refine s_pV C ci9 2 (by decide) rfl (Or.inl wd_1_179) dX6_readHint_89 rfl rfl ?_
  refine s_iload C 6 dX6_readHint_92 rfl ?_
  refine s_bipush (v := 14) C dX6_readHint_94 (by decide) ?_
  refine s_aload_n C 4 dX6_readHint_96 rfl rfl ?_
  refine s_iload C 6 dX6_readHint_97 rfl ?_
  refine s_bipush (v := 8) C dX6_readHint_99 (by decide) ?_
  refine s_iadd C dX6_readHint_101 ?_
  refine s_invV_i C ci4 cy_X1_shortAt (Or.inl wd_5_212) rfl wd_5_117 wd_5_118 (con_X1_shortAt l G a2 (i4 + 8)) rfl rfl (Nat.le_of_ble_eq_true rfl) (by rw [hF]; decide) (by rw [hO]; exact Nat.le_of_ble_eq_true rfl) dX6_readHint_102 (fun x9 => ?_)
  refine s_iadd C dX6_readHint_105 ?_
  refine s_iadd C dX6_readHint_106 ?_
  refine s_let (fun x10 => ?_)
  refine s_istore (lv' := [(4, .int x10), (6, .int x4), (5, .ref y3), (0, .ref a0), (1, .ref a1), (2, .ref a2), (3, .int i3)]) C dX6_readHint_107 (by decide) rfl ?_
  refine s_goto (tgt := 15) C dX6_readHint_109 (by decide) ?_
  refine s_sub [3, 4, 5, 6, 0] rfl ?_
  exact hk15 a0 a1 a2 i3 x10
set_option maxRecDepth 20000 in
theorem X6_readHint_b15_s (C : Cx G p R s m args meth c cX6_readHint 7 yX6_readHint.cls h0 h') (hF : R.frames = 7) (hO : R.locals = 236) (hr : meth.sig.returnType = none) (hm : meth.name = yX6_readHint.name)  (n : Nat) : ∀ (a0 : Nat) (a1 : Nat) (a2 : Nat) (i3 : Int32) (i4 : Int32), Sm G (QM G rvU below args s h0 r h') p l e R s m args below meth c 7 h0 r h' 15 [(0, .ref a0), (1, .ref a1), (2, .ref a2), (3, .int i3), (4, .int i4)] [] (X6_readHint_b15  n a0 a1 a2 i3 i4) := by
  induction n with
  | zero => intro a0 a1 a2 i3 i4; exact s_fl
  | succ n ih => intro a0 a1 a2 i3 i4; exact X6_readHint_b15b_s C hF hO hr hm  ih a0 a1 a2 i3 i4
end
set_option maxRecDepth 20000 in
theorem con_X6_readHint (l : Launch) (G : Gx) (a0 : Nat) (a1 : Nat) : Con G rvU l yX6_readHint cX6_readHint 7 none 7 236 [.ref a0, .ref a1] (X6_readHint a0 a1) := by
  refine con_of (lv := [(0, .ref a0), (1, .ref a1)]) (by decide) (Nat.le_of_ble_eq_true rfl) rfl (fun p e R s m args below meth c h0 r h' C hF hO hr hm => ?_)
  refine s_aload_n C 1 dX6_readHint_0 rfl rfl ?_
  refine s_gR C ci7 0 (by decide) (Or.inr (Or.inr ⟨_, wd_3_213⟩)) dX6_readHint_1 (fun y1 => ?_)
  refine s_astore_n (lv' := [(2, .ref y1), (0, .ref a0), (1, .ref a1)]) C dX6_readHint_4 rfl (by decide) rfl ?_
  refine s_aload_n C 0 dX6_readHint_5 rfl rfl ?_
  refine s_invV_i C ci4 cy_X1_size (Or.inl wd_5_179) rfl wd_2_147 wd_2_148 (con_X1_size l G y1) rfl rfl (Nat.le_of_ble_eq_true rfl) (by rw [hF]; decide) (by rw [hO]; exact Nat.le_of_ble_eq_true rfl) dX6_readHint_6 (fun x2 => ?_)
  refine s_iconst (v := 4) C dX6_readHint_9 (by decide) ?_
  refine s_isub C dX6_readHint_10 ?_
  refine s_let (fun x3 => ?_)
  refine s_istore_n (lv' := [(3, .int x3), (2, .ref y1), (0, .ref a0), (1, .ref a1)]) C dX6_readHint_11 rfl (by decide) rfl ?_
  refine s_iconst (v := 4) C dX6_readHint_12 (by decide) ?_
  refine s_istore (lv' := [(4, .int 4), (3, .int x3), (2, .ref y1), (0, .ref a0), (1, .ref a1)]) C dX6_readHint_13 (by decide) rfl ?_
  refine s_sub [3, 4, 2, 1, 0] rfl ?_
  exact X6_readHint_b15_s C hF hO hr hm  FU a0 a1 y1 x3 4

theorem dX6_isWhole_0 : decode cX6_isWhole 0 = .ok (.iload_n 1, 1) := by decide +kernel
theorem dX6_isWhole_1 : decode cX6_isWhole 1 = .ok (.bipush 14, 2) := by decide +kernel
theorem dX6_isWhole_3 : decode cX6_isWhole 3 = .ok (.iadd, 1) := by decide +kernel
theorem dX6_isWhole_4 : decode cX6_isWhole 4 = .ok (.aload_n 0, 1) := by decide +kernel
theorem dX6_isWhole_5 : decode cX6_isWhole 5 = .ok (.invokevirtual 76, 3) := by decide +kernel
theorem dX6_isWhole_8 : decode cX6_isWhole 8 = .ok (.if_icmp .le 5, 3) := by decide +kernel
theorem dX6_isWhole_11 : decode cX6_isWhole 11 = .ok (.iconst 0, 1) := by decide +kernel
theorem dX6_isWhole_12 : decode cX6_isWhole 12 = .ok (.ireturn, 1) := by decide +kernel
theorem dX6_isWhole_13 : decode cX6_isWhole 13 = .ok (.aload_n 0, 1) := by decide +kernel
theorem dX6_isWhole_14 : decode cX6_isWhole 14 = .ok (.iload_n 1, 1) := by decide +kernel
theorem dX6_isWhole_15 : decode cX6_isWhole 15 = .ok (.bipush 8, 2) := by decide +kernel
theorem dX6_isWhole_17 : decode cX6_isWhole 17 = .ok (.iadd, 1) := by decide +kernel
theorem dX6_isWhole_18 : decode cX6_isWhole 18 = .ok (.invokevirtual 92, 3) := by decide +kernel
theorem dX6_isWhole_21 : decode cX6_isWhole 21 = .ok (.istore_n 2, 1) := by decide +kernel
theorem dX6_isWhole_22 : decode cX6_isWhole 22 = .ok (.aload_n 0, 1) := by decide +kernel
theorem dX6_isWhole_23 : decode cX6_isWhole 23 = .ok (.iload_n 1, 1) := by decide +kernel
theorem dX6_isWhole_24 : decode cX6_isWhole 24 = .ok (.bipush 10, 2) := by decide +kernel
theorem dX6_isWhole_26 : decode cX6_isWhole 26 = .ok (.iadd, 1) := by decide +kernel
theorem dX6_isWhole_27 : decode cX6_isWhole 27 = .ok (.invokevirtual 102, 3) := by decide +kernel
theorem dX6_isWhole_30 : decode cX6_isWhole 30 = .ok (.istore_n 3, 1) := by decide +kernel
theorem dX6_isWhole_31 : decode cX6_isWhole 31 = .ok (.aload_n 0, 1) := by decide +kernel
theorem dX6_isWhole_32 : decode cX6_isWhole 32 = .ok (.iload_n 1, 1) := by decide +kernel
theorem dX6_isWhole_33 : decode cX6_isWhole 33 = .ok (.iconst 4, 1) := by decide +kernel
theorem dX6_isWhole_34 : decode cX6_isWhole 34 = .ok (.iadd, 1) := by decide +kernel
theorem dX6_isWhole_35 : decode cX6_isWhole 35 = .ok (.invokevirtual 102, 3) := by decide +kernel
theorem dX6_isWhole_38 : decode cX6_isWhole 38 = .ok (.iload_n 2, 1) := by decide +kernel
theorem dX6_isWhole_39 : decode cX6_isWhole 39 = .ok (.iload_n 3, 1) := by decide +kernel
theorem dX6_isWhole_40 : decode cX6_isWhole 40 = .ok (.invokestatic 148, 3) := by decide +kernel
theorem dX6_isWhole_43 : decode cX6_isWhole 43 = .ok (.ifCond .ne 5, 3) := by decide +kernel
theorem dX6_isWhole_46 : decode cX6_isWhole 46 = .ok (.iconst 0, 1) := by decide +kernel
theorem dX6_isWhole_47 : decode cX6_isWhole 47 = .ok (.ireturn, 1) := by decide +kernel
theorem dX6_isWhole_48 : decode cX6_isWhole 48 = .ok (.iload_n 1, 1) := by decide +kernel
theorem dX6_isWhole_49 : decode cX6_isWhole 49 = .ok (.iload_n 2, 1) := by decide +kernel
theorem dX6_isWhole_50 : decode cX6_isWhole 50 = .ok (.iload_n 3, 1) := by decide +kernel
theorem dX6_isWhole_51 : decode cX6_isWhole 51 = .ok (.invokestatic 112, 3) := by decide +kernel
theorem dX6_isWhole_54 : decode cX6_isWhole 54 = .ok (.iadd, 1) := by decide +kernel
theorem dX6_isWhole_55 : decode cX6_isWhole 55 = .ok (.istore 4, 2) := by decide +kernel
theorem dX6_isWhole_57 : decode cX6_isWhole 57 = .ok (.iload 4, 2) := by decide +kernel
theorem dX6_isWhole_59 : decode cX6_isWhole 59 = .ok (.aload_n 0, 1) := by decide +kernel
theorem dX6_isWhole_60 : decode cX6_isWhole 60 = .ok (.invokevirtual 76, 3) := by decide +kernel
theorem dX6_isWhole_63 : decode cX6_isWhole 63 = .ok (.if_icmp .gt 24, 3) := by decide +kernel
theorem dX6_isWhole_66 : decode cX6_isWhole 66 = .ok (.aload_n 0, 1) := by decide +kernel
theorem dX6_isWhole_67 : decode cX6_isWhole 67 = .ok (.iload_n 1, 1) := by decide +kernel
theorem dX6_isWhole_68 : decode cX6_isWhole 68 = .ok (.invokevirtual 102, 3) := by decide +kernel
theorem dX6_isWhole_71 : decode cX6_isWhole 71 = .ok (.aload_n 0, 1) := by decide +kernel
theorem dX6_isWhole_72 : decode cX6_isWhole 72 = .ok (.iload_n 1, 1) := by decide +kernel
theorem dX6_isWhole_73 : decode cX6_isWhole 73 = .ok (.iconst 4, 1) := by decide +kernel
theorem dX6_isWhole_74 : decode cX6_isWhole 74 = .ok (.iadd, 1) := by decide +kernel
theorem dX6_isWhole_75 : decode cX6_isWhole 75 = .ok (.iload 4, 2) := by decide +kernel
theorem dX6_isWhole_77 : decode cX6_isWhole 77 = .ok (.invokevirtual 141, 3) := by decide +kernel
theorem dX6_isWhole_80 : decode cX6_isWhole 80 = .ok (.if_icmp .ne 7, 3) := by decide +kernel
theorem dX6_isWhole_83 : decode cX6_isWhole 83 = .ok (.iconst 1, 1) := by decide +kernel
theorem dX6_isWhole_84 : decode cX6_isWhole 84 = .ok (.goto 4, 3) := by decide +kernel
theorem dX6_isWhole_87 : decode cX6_isWhole 87 = .ok (.iconst 0, 1) := by decide +kernel
theorem dX6_isWhole_88 : decode cX6_isWhole 88 = .ok (.ireturn, 1) := by decide +kernel
def X6_isWhole (a0 : Nat) (i1 : Int32) : M Int32 := bd (ck 4 a0) (fun _ => bd (X1_size a0) (fun x1 => it ((i1 + 14) ≤ x1) (bd (ck 4 a0) (fun _ => bd (X1_shortAt a0 (i1 + 8)) (fun x2 => bd (ck 4 a0) (fun _ => bd (X1_numberAt a0 (i1 + 10)) (fun x3 => bd (ck 4 a0) (fun _ => bd (X1_numberAt a0 (i1 + 4)) (fun x4 => bd (X8_isTold x4 x2 x3) (fun x5 => it (¬ x5 = 0) (bd (X8_recordSize x2 x3) (fun x6 => bd (pu (i1 + x6)) (fun x7 => bd (ck 4 a0) (fun _ => bd (X1_size a0) (fun x8 => it (x8 < x7) (pu 0) (bd (ck 4 a0) (fun _ => bd (X1_numberAt a0 i1) (fun x9 => bd (ck 4 a0) (fun _ => bd (X1_sum a0 (i1 + 4) x7) (fun x10 => it (¬ x9 = x10) (pu 0) (pu 1))))))))))) (pu 0))))))))) (pu 0)))
section
variable {G : Gx} {p : Program} {l : Launch} {e : Env} {R : Room} {s : State} {m : MethodId} {args : Array Value} {below : List Frame} {meth : Method} {c : Code} {h0 : Hp} {r : Int32} {h' : Hp}
end
set_option maxRecDepth 20000 in
theorem con_X6_isWhole (l : Launch) (G : Gx) (a0 : Nat) (i1 : Int32) : Con G rvI l yX6_isWhole cX6_isWhole 5 (some .boolean) 3 63 [.ref a0, .int i1] (X6_isWhole a0 i1) := by
  refine con_of (lv := [(0, .ref a0), (1, .int i1)]) (by decide) (Nat.le_of_ble_eq_true rfl) rfl (fun p e R s m args below meth c h0 r h' C hF hO hr hm => ?_)
  refine s_iload_n C 1 dX6_isWhole_0 rfl rfl ?_
  refine s_bipush (v := 14) C dX6_isWhole_1 (by decide) ?_
  refine s_iadd C dX6_isWhole_3 ?_
  refine s_aload_n C 0 dX6_isWhole_4 rfl rfl ?_
  refine s_invV_i C ci4 cy_X1_size (Or.inl wd_5_179) rfl wd_2_147 wd_2_148 (con_X1_size l G a0) rfl rfl (Nat.le_of_ble_eq_true rfl) (by rw [hF]; decide) (by rw [hO]; exact Nat.le_of_ble_eq_true rfl) dX6_isWhole_5 (fun x1 => ?_)
  refine s_icmp_le (tgt := 13) C dX6_isWhole_8 (by decide) ?_ ?_
  · refine s_aload_n C 0 dX6_isWhole_13 rfl rfl ?_
    refine s_iload_n C 1 dX6_isWhole_14 rfl rfl ?_
    refine s_bipush (v := 8) C dX6_isWhole_15 (by decide) ?_
    refine s_iadd C dX6_isWhole_17 ?_
    refine s_invV_i C ci4 cy_X1_shortAt (Or.inl wd_5_212) rfl wd_5_117 wd_5_118 (con_X1_shortAt l G a0 (i1 + 8)) rfl rfl (Nat.le_of_ble_eq_true rfl) (by rw [hF]; decide) (by rw [hO]; exact Nat.le_of_ble_eq_true rfl) dX6_isWhole_18 (fun x2 => ?_)
    refine s_istore_n (lv' := [(2, .int x2), (0, .ref a0), (1, .int i1)]) C dX6_isWhole_21 rfl (by decide) rfl ?_
    refine s_aload_n C 1 dX6_isWhole_22 rfl rfl ?_
    refine s_iload_n C 2 dX6_isWhole_23 rfl rfl ?_
    refine s_bipush (v := 10) C dX6_isWhole_24 (by decide) ?_
    refine s_iadd C dX6_isWhole_26 ?_
    refine s_invV_i C ci4 cy_X1_numberAt (Or.inl wd_5_181) rfl wd_5_113 wd_5_114 (con_X1_numberAt l G a0 (i1 + 10)) rfl rfl (Nat.le_of_ble_eq_true rfl) (by rw [hF]; decide) (by rw [hO]; exact Nat.le_of_ble_eq_true rfl) dX6_isWhole_27 (fun x3 => ?_)
    refine s_istore_n (lv' := [(3, .int x3), (2, .int x2), (0, .ref a0), (1, .int i1)]) C dX6_isWhole_30 rfl (by decide) rfl ?_
    refine s_aload_n C 2 dX6_isWhole_31 rfl rfl ?_
    refine s_iload_n C 3 dX6_isWhole_32 rfl rfl ?_
    refine s_iconst (v := 4) C dX6_isWhole_33 (by decide) ?_
    refine s_iadd C dX6_isWhole_34 ?_
    refine s_invV_i C ci4 cy_X1_numberAt (Or.inl wd_5_181) rfl wd_5_113 wd_5_114 (con_X1_numberAt l G a0 (i1 + 4)) rfl rfl (Nat.le_of_ble_eq_true rfl) (by rw [hF]; decide) (by rw [hO]; exact Nat.le_of_ble_eq_true rfl) dX6_isWhole_35 (fun x4 => ?_)
    refine s_iload_n C 1 dX6_isWhole_38 rfl rfl ?_
    refine s_iload_n C 0 dX6_isWhole_39 rfl rfl ?_
    refine s_invS_i C cy_X8_isTold (Or.inr ⟨_, wd_5_213⟩) wd_5_214 (con_X8_isTold l G x4 x2 x3) rfl rfl (Nat.le_of_ble_eq_true rfl) (by rw [hF]; decide) (by rw [hO]; exact Nat.le_of_ble_eq_true rfl) dX6_isWhole_40 (fun x5 => ?_)
    refine s_if_ne (tgt := 48) C dX6_isWhole_43 (by decide) ?_ ?_
    · refine s_iload_n C 3 dX6_isWhole_48 rfl rfl ?_
      refine s_iload_n C 1 dX6_isWhole_49 rfl rfl ?_
      refine s_iload_n C 0 dX6_isWhole_50 rfl rfl ?_
      refine s_invS_i C cy_X8_recordSize (Or.inr ⟨_, wd_5_216⟩) wd_2_214 (con_X8_recordSize l G x2 x3) rfl rfl (Nat.le_of_ble_eq_true rfl) (by rw [hF]; decide) (by rw [hO]; exact Nat.le_of_ble_eq_true rfl) dX6_isWhole_51 (fun x6 => ?_)
      refine s_iadd C dX6_isWhole_54 ?_
      refine s_let (fun x7 => ?_)
      refine s_istore (lv' := [(4, .int x7), (3, .int x3), (2, .int x2), (0, .ref a0), (1, .int i1)]) C dX6_isWhole_55 (by decide) rfl ?_
      refine s_iload C 0 dX6_isWhole_57 rfl ?_
      refine s_aload_n C 3 dX6_isWhole_59 rfl rfl ?_
      refine s_invV_i C ci4 cy_X1_size (Or.inl wd_5_179) rfl wd_2_147 wd_2_148 (con_X1_size l G a0) rfl rfl (Nat.le_of_ble_eq_true rfl) (by rw [hF]; decide) (by rw [hO]; exact Nat.le_of_ble_eq_true rfl) dX6_isWhole_60 (fun x8 => ?_)
      refine s_icmp_gt (tgt := 87) C dX6_isWhole_63 (by decide) ?_ ?_
      · refine s_iconst (v := 0) C dX6_isWhole_87 (by decide) ?_
        exact s_zret C hr rfl (Or.inl rfl) dX6_isWhole_88
      refine s_aload_n C 3 dX6_isWhole_66 rfl rfl ?_
      refine s_iload_n C 4 dX6_isWhole_67 rfl rfl ?_
      refine s_invV_i C ci4 cy_X1_numberAt (Or.inl wd_5_181) rfl wd_5_113 wd_5_114 (con_X1_numberAt l G a0 i1) rfl rfl (Nat.le_of_ble_eq_true rfl) (by rw [hF]; decide) (by rw [hO]; exact Nat.le_of_ble_eq_true rfl) dX6_isWhole_68 (fun x9 => ?_)
      refine s_aload_n C 3 dX6_isWhole_71 rfl rfl ?_
      refine s_iload_n C 4 dX6_isWhole_72 rfl rfl ?_
      refine s_iconst (v := 4) C dX6_isWhole_73 (by decide) ?_
      refine s_iadd C dX6_isWhole_74 ?_
      refine s_iload C 0 dX6_isWhole_75 rfl ?_
      refine s_invV_i C ci4 cy_X1_sum (Or.inl wd_5_183) rfl wd_3_157 wd_3_158 (con_X1_sum l G a0 (i1 + 4) x7) rfl rfl (Nat.le_of_ble_eq_true rfl) (by rw [hF]; decide) (by rw [hO]; exact Nat.le_of_ble_eq_true rfl) dX6_isWhole_77 (fun x10 => ?_)
      refine s_icmp_ne (tgt := 87) C dX6_isWhole_80 (by decide) ?_ ?_
      · refine s_iconst (v := 0) C dX6_isWhole_87 (by decide) ?_
        exact s_zret C hr rfl (Or.inl rfl) dX6_isWhole_88
      refine s_iconst (v := 1) C dX6_isWhole_83 (by decide) ?_
      refine s_goto (tgt := 88) C dX6_isWhole_84 (by decide) ?_
      exact s_zret C hr rfl (Or.inr rfl) dX6_isWhole_88
    refine s_iconst (v := 0) C dX6_isWhole_46 (by decide) ?_
    exact s_zret C hr rfl (Or.inl rfl) dX6_isWhole_47
  refine s_iconst (v := 0) C dX6_isWhole_11 (by decide) ?_
  exact s_zret C hr rfl (Or.inl rfl) dX6_isWhole_12

theorem dX6_readRecords_0 : decode cX6_readRecords 0 = .ok (.aload_n 1, 1) := by decide +kernel
theorem dX6_readRecords_1 : decode cX6_readRecords 1 = .ok (.getfield 45, 3) := by decide +kernel
theorem dX6_readRecords_4 : decode cX6_readRecords 4 = .ok (.astore_n 2, 1) := by decide +kernel
theorem dX6_readRecords_5 : decode cX6_readRecords 5 = .ok (.iconst 0, 1) := by decide +kernel
theorem dX6_readRecords_6 : decode cX6_readRecords 6 = .ok (.istore_n 3, 1) := by decide +kernel
theorem dX6_readRecords_7 : decode cX6_readRecords 7 = .ok (.aload_n 2, 1) := by decide +kernel
theorem dX6_readRecords_8 : decode cX6_readRecords 8 = .ok (.invokevirtual 76, 3) := by decide +kernel
theorem dX6_readRecords_11 : decode cX6_readRecords 11 = .ok (.istore 4, 2) := by decide +kernel
theorem dX6_readRecords_13 : decode cX6_readRecords 13 = .ok (.iload 4, 2) := by decide +kernel
theorem dX6_readRecords_15 : decode cX6_readRecords 15 = .ok (.ifCond .le 93, 3) := by decide +kernel
theorem dX6_readRecords_18 : decode cX6_readRecords 18 = .ok (.aload_n 2, 1) := by decide +kernel
theorem dX6_readRecords_19 : decode cX6_readRecords 19 = .ok (.iload_n 3, 1) := by decide +kernel
theorem dX6_readRecords_20 : decode cX6_readRecords 20 = .ok (.invokestatic 109, 3) := by decide +kernel
theorem dX6_readRecords_23 : decode cX6_readRecords 23 = .ok (.ifCond .eq 85, 3) := by decide +kernel
theorem dX6_readRecords_26 : decode cX6_readRecords 26 = .ok (.aload_n 2, 1) := by decide +kernel
theorem dX6_readRecords_27 : decode cX6_readRecords 27 = .ok (.iload_n 3, 1) := by decide +kernel
theorem dX6_readRecords_28 : decode cX6_readRecords 28 = .ok (.bipush 8, 2) := by decide +kernel
theorem dX6_readRecords_30 : decode cX6_readRecords 30 = .ok (.iadd, 1) := by decide +kernel
theorem dX6_readRecords_31 : decode cX6_readRecords 31 = .ok (.invokevirtual 92, 3) := by decide +kernel
theorem dX6_readRecords_34 : decode cX6_readRecords 34 = .ok (.istore 5, 2) := by decide +kernel
theorem dX6_readRecords_36 : decode cX6_readRecords 36 = .ok (.aload_n 2, 1) := by decide +kernel
theorem dX6_readRecords_37 : decode cX6_readRecords 37 = .ok (.iload_n 3, 1) := by decide +kernel
theorem dX6_readRecords_38 : decode cX6_readRecords 38 = .ok (.bipush 10, 2) := by decide +kernel
theorem dX6_readRecords_40 : decode cX6_readRecords 40 = .ok (.iadd, 1) := by decide +kernel
theorem dX6_readRecords_41 : decode cX6_readRecords 41 = .ok (.invokevirtual 102, 3) := by decide +kernel
theorem dX6_readRecords_44 : decode cX6_readRecords 44 = .ok (.istore 6, 2) := by decide +kernel
theorem dX6_readRecords_46 : decode cX6_readRecords 46 = .ok (.aload_n 0, 1) := by decide +kernel
theorem dX6_readRecords_47 : decode cX6_readRecords 47 = .ok (.getfield 15, 3) := by decide +kernel
theorem dX6_readRecords_50 : decode cX6_readRecords 50 = .ok (.aload_n 2, 1) := by decide +kernel
theorem dX6_readRecords_51 : decode cX6_readRecords 51 = .ok (.iload_n 3, 1) := by decide +kernel
theorem dX6_readRecords_52 : decode cX6_readRecords 52 = .ok (.bipush 14, 2) := by decide +kernel
theorem dX6_readRecords_54 : decode cX6_readRecords 54 = .ok (.iadd, 1) := by decide +kernel
theorem dX6_readRecords_55 : decode cX6_readRecords 55 = .ok (.iload 5, 2) := by decide +kernel
theorem dX6_readRecords_57 : decode cX6_readRecords 57 = .ok (.invokevirtual 96, 3) := by decide +kernel
theorem dX6_readRecords_60 : decode cX6_readRecords 60 = .ok (.astore 7, 2) := by decide +kernel
theorem dX6_readRecords_62 : decode cX6_readRecords 62 = .ok (.aload_n 0, 1) := by decide +kernel
theorem dX6_readRecords_63 : decode cX6_readRecords 63 = .ok (.aload 7, 2) := by decide +kernel
theorem dX6_readRecords_65 : decode cX6_readRecords 65 = .ok (.aload_n 1, 1) := by decide +kernel
theorem dX6_readRecords_66 : decode cX6_readRecords 66 = .ok (.getfield 59, 3) := by decide +kernel
theorem dX6_readRecords_69 : decode cX6_readRecords 69 = .ok (.iload_n 3, 1) := by decide +kernel
theorem dX6_readRecords_70 : decode cX6_readRecords 70 = .ok (.iload 6, 2) := by decide +kernel
theorem dX6_readRecords_72 : decode cX6_readRecords 72 = .ok (.aload_n 2, 1) := by decide +kernel
theorem dX6_readRecords_73 : decode cX6_readRecords 73 = .ok (.iload_n 3, 1) := by decide +kernel
theorem dX6_readRecords_74 : decode cX6_readRecords 74 = .ok (.iconst 4, 1) := by decide +kernel
theorem dX6_readRecords_75 : decode cX6_readRecords 75 = .ok (.iadd, 1) := by decide +kernel
theorem dX6_readRecords_76 : decode cX6_readRecords 76 = .ok (.invokevirtual 102, 3) := by decide +kernel
theorem dX6_readRecords_79 : decode cX6_readRecords 79 = .ok (.invokevirtual 105, 3) := by decide +kernel
theorem dX6_readRecords_82 : decode cX6_readRecords 82 = .ok (.aload_n 0, 1) := by decide +kernel
theorem dX6_readRecords_83 : decode cX6_readRecords 83 = .ok (.dup, 1) := by decide +kernel
theorem dX6_readRecords_84 : decode cX6_readRecords 84 = .ok (.getfield 23, 3) := by decide +kernel
theorem dX6_readRecords_87 : decode cX6_readRecords 87 = .ok (.iconst 1, 1) := by decide +kernel
theorem dX6_readRecords_88 : decode cX6_readRecords 88 = .ok (.iadd, 1) := by decide +kernel
theorem dX6_readRecords_89 : decode cX6_readRecords 89 = .ok (.putfield 23, 3) := by decide +kernel
theorem dX6_readRecords_92 : decode cX6_readRecords 92 = .ok (.iload_n 3, 1) := by decide +kernel
theorem dX6_readRecords_93 : decode cX6_readRecords 93 = .ok (.iload 5, 2) := by decide +kernel
theorem dX6_readRecords_95 : decode cX6_readRecords 95 = .ok (.iload 6, 2) := by decide +kernel
theorem dX6_readRecords_97 : decode cX6_readRecords 97 = .ok (.invokestatic 112, 3) := by decide +kernel
theorem dX6_readRecords_100 : decode cX6_readRecords 100 = .ok (.iadd, 1) := by decide +kernel
theorem dX6_readRecords_101 : decode cX6_readRecords 101 = .ok (.istore_n 3, 1) := by decide +kernel
theorem dX6_readRecords_102 : decode cX6_readRecords 102 = .ok (.iinc 4 (-1), 3) := by decide +kernel
theorem dX6_readRecords_105 : decode cX6_readRecords 105 = .ok (.goto (-92), 3) := by decide +kernel
theorem dX6_readRecords_108 : decode cX6_readRecords 108 = .ok (.aload_n 0, 1) := by decide +kernel
theorem dX6_readRecords_109 : decode cX6_readRecords 109 = .ok (.dup, 1) := by decide +kernel
theorem dX6_readRecords_110 : decode cX6_readRecords 110 = .ok (.getfield 26, 3) := by decide +kernel
theorem dX6_readRecords_113 : decode cX6_readRecords 113 = .ok (.aload_n 2, 1) := by decide +kernel
theorem dX6_readRecords_114 : decode cX6_readRecords 114 = .ok (.invokevirtual 76, 3) := by decide +kernel
theorem dX6_readRecords_117 : decode cX6_readRecords 117 = .ok (.iload_n 3, 1) := by decide +kernel
theorem dX6_readRecords_118 : decode cX6_readRecords 118 = .ok (.isub, 1) := by decide +kernel
theorem dX6_readRecords_119 : decode cX6_readRecords 119 = .ok (.iadd, 1) := by decide +kernel
theorem dX6_readRecords_120 : decode cX6_readRecords 120 = .ok (.putfield 26, 3) := by decide +kernel
theorem dX6_readRecords_123 : decode cX6_readRecords 123 = .ok (.aload_n 2, 1) := by decide +kernel
theorem dX6_readRecords_124 : decode cX6_readRecords 124 = .ok (.iload_n 3, 1) := by decide +kernel
theorem dX6_readRecords_125 : decode cX6_readRecords 125 = .ok (.invokevirtual 116, 3) := by decide +kernel
theorem dX6_readRecords_128 : decode cX6_readRecords 128 = .ok (.iload_n 3, 1) := by decide +kernel
theorem dX6_readRecords_129 : decode cX6_readRecords 129 = .ok (.ifCond .ne 12, 3) := by decide +kernel
theorem dX6_readRecords_132 : decode cX6_readRecords 132 = .ok (.aload_n 0, 1) := by decide +kernel
theorem dX6_readRecords_133 : decode cX6_readRecords 133 = .ok (.aload_n 1, 1) := by decide +kernel
theorem dX6_readRecords_134 : decode cX6_readRecords 134 = .ok (.getfield 59, 3) := by decide +kernel
theorem dX6_readRecords_137 : decode cX6_readRecords 137 = .ok (.iconst 0, 1) := by decide +kernel
theorem dX6_readRecords_138 : decode cX6_readRecords 138 = .ok (.invokevirtual 62, 3) := by decide +kernel
theorem dX6_readRecords_141 : decode cX6_readRecords 141 = .ok (.return_, 1) := by decide +kernel
def X6_readRecords_b108   (a0 : Nat) (a1 : Nat) (a2 : Nat) (i3 : Int32) : M Unit := bd (gI 9 4 a0) (fun x1 => bd (ck 4 a2) (fun _ => bd (X1_size a2) (fun x2 => bd (pV 9 4 a0 (.int (x1 + (x2 - i3)))) (fun _ => bd (ck 4 a2) (fun _ => bd (X1_cutTo a2 i3) (fun _ => it (¬ i3 = 0) (pu ()) (bd (gI 7 1 a1) (fun x3 => bd (ck 9 a0) (fun _ => bd (X6_discard a0 x3 0) (fun _ => pu ()))))))))))
def X6_readRecords_b13b  (k13 : Nat → Nat → Nat → Int32 → Int32 → M Unit) (a0 : Nat) (a1 : Nat) (a2 : Nat) (i3 : Int32) (i4 : Int32) : M Unit := it (i4 ≤ 0) (X6_readRecords_b108   a0 a1 a2 i3) (bd (X6_isWhole a2 i3) (fun x1 => it (x1 = 0) (X6_readRecords_b108   a0 a1 a2 i3) (bd (ck 4 a2) (fun _ => bd (X1_shortAt a2 (i3 + 8)) (fun x2 => bd (ck 4 a2) (fun _ => bd (X1_numberAt a2 (i3 + 10)) (fun x3 => bd (gR 9 1 a0) (fun y4 => bd (ck 5 y4) (fun _ => bd (X2_rowFor y4 a2 (i3 + 14) x2) (fun y5 => bd (gI 7 1 a1) (fun x6 => bd (ck 4 a2) (fun _ => bd (X1_numberAt a2 (i3 + 4)) (fun x7 => bd (ck 9 a0) (fun _ => bd (X6_read a0 y5 x6 i3 x3 x7) (fun _ => bd (gI 9 3 a0) (fun x8 => bd (pV 9 3 a0 (.int (x8 + 1))) (fun _ => bd (X8_recordSize x2 x3) (fun x9 => bd (pu (i3 + x9)) (fun x10 => k13 a0 a1 a2 x10 (i4 + (-1)))))))))))))))))))))
def X6_readRecords_b13  : Nat → Nat → Nat → Nat → Int32 → Int32 → M Unit
  | 0 => fun _ _ _ _ _ => fl
  | n + 1 => fun a0 a1 a2 i3 i4 => X6_readRecords_b13b  (X6_readRecords_b13  n) a0 a1 a2 i3 i4
def X6_readRecords (a0 : Nat) (a1 : Nat) : M Unit := bd (gR 7 0 a1) (fun y1 => bd (ck 4 y1) (fun _ => bd (X1_size y1) (fun x2 => X6_readRecords_b13  FU a0 a1 y1 0 x2)))
section
variable {G : Gx} {p : Program} {l : Launch} {e : Env} {R : Room} {s : State} {m : MethodId} {args : Array Value} {below : List Frame} {meth : Method} {c : Code} {h0 : Hp} {r : Unit} {h' : Hp}
set_option maxRecDepth 20000 in
theorem X6_readRecords_b108_s (C : Cx G p R s m args meth c cX6_readRecords 8 yX6_readRecords.cls h0 h') (hF : R.frames = 10) (hO : R.locals = 298) (hr : meth.sig.returnType = none) (hm : meth.name = yX6_readRecords.name)   (a0 : Nat) (a1 : Nat) (a2 : Nat) (i3 : Int32) : Sm G (QM G rvU below args s h0 r h') p l e R s m args below meth c 8 h0 r h' 108 [(0, .ref a0), (1, .ref a1), (2, .ref a2), (3, .int i3)] [] (X6_readRecords_b108   a0 a1 a2 i3) := by
  refine s_aload_n C 0 dX6_readRecords_108 rfl rfl ?_
  refine s_dup C dX6_readRecords_109 rfl ?_
  refine s_gI C ci9 4 (by decide) (Or.inl wd_1_183) dX6_readRecords_110 (fun x1 => ?_)
  refine s_aload_n C 2 dX6_readRecords_113 rfl rfl ?_
  refine s_invV_i C ci4 cy_X1_size (Or.inl wd_5_179) rfl wd_2_147 wd_2_148 (con_X1_size l G a2) rfl rfl (Nat.le_of_ble_eq_true rfl) (by rw [hF]; decide) (by rw [hO]; exact Nat.le_of_ble_eq_true rfl) dX6_readRecords_114 (fun x2 => ?_)
  refine s_iload_n C 3 dX6_readRecords_117 rfl rfl ?_
  refine s_isub C dX6_readRecords_118 ?_
  refine s_iadd C dX6_readRecords_119 ?_
  refine s_pV C ci9 4 (by decide) rfl (Or.inl wd_1_183) dX6_readRecords_120 rfl rfl ?_
  refine s_aload_n C 2 dX6_readRecords_123 rfl rfl ?_
  refine s_iload_n C 3 dX6_readRecords_124 rfl rfl ?_
  refine s_invV_u C ci4 cy_X1_cutTo (Or.inl wd_5_235) rfl wd_5_152 wd_5_153 (con_X1_cutTo l G a2 i3) rfl rfl (Nat.le_of_ble_eq_true rfl) (by rw [hF]; decide) (by rw [hO]; exact Nat.le_of_ble_eq_true rfl) dX6_readRecords_125 ?_
  refine s_iload_n C 3 dX6_readRecords_128 rfl rfl ?_
  refine s_if_ne (tgt := 141) C dX6_readRecords_129 (by decide) ?_ ?_
  · exact s_vret C hr rfl dX6_readRecords_141
  refine s_aload_n C 0 dX6_readRecords_132 rfl rfl ?_
  refine s_aload_n C 1 dX6_readRecords_133 rfl rfl ?_
  refine s_gI C ci7 1 (by decide) (Or.inr (Or.inr ⟨_, wd_3_218⟩)) dX6_readRecords_134 (fun x3 => ?_)
  refine s_iconst (v := 0) C dX6_readRecords_137 (by decide) ?_
  refine s_invV_u C ci9 cy_X6_discard (Or.inl wd_5_188) rfl wd_5_190 wp_20 (con_X6_discard l G a0 x3 0) rfl rfl (Nat.le_of_ble_eq_true rfl) (by rw [hF]; decide) (by rw [hO]; exact Nat.le_of_ble_eq_true rfl) dX6_readRecords_138 ?_
  exact s_vret C hr rfl dX6_readRecords_141
set_option maxRecDepth 20000 in
theorem X6_readRecords_b13b_s (C : Cx G p R s m args meth c cX6_readRecords 8 yX6_readRecords.cls h0 h') (hF : R.frames = 10) (hO : R.locals = 298) (hr : meth.sig.returnType = none) (hm : meth.name = yX6_readRecords.name)  {k13 : Nat → Nat → Nat → Int32 → Int32 → M Unit} (hk13 : ∀ (a0 : Nat) (a1 : Nat) (a2 : Nat) (i3 : Int32) (i4 : Int32), Sm G (QM G rvU below args s h0 r h') p l e R s m args below meth c 8 h0 r h' 13 [(0, .ref a0), (1, .ref a1), (2, .ref a2), (3, .int i3), (4, .int i4)] [] (k13 a0 a1 a2 i3 i4)) (a0 : Nat) (a1 : Nat) (a2 : Nat) (i3 : Int32) (i4 : Int32) : Sm G (QM G rvU below args s h0 r h') p l e R s m args below meth c 8 h0 r h' 13 [(0, .ref a0), (1, .ref a1), (2, .ref a2), (3, .int i3), (4, .int i4)] [] (X6_readRecords_b13b  k13 a0 a1 a2 i3 i4) := by
  refine s_iload C 4 dX6_readRecords_13 rfl ?_
  refine s_if_le (tgt := 108) C dX6_readRecords_15 (by decide) ?_ ?_
  · refine s_sub [0, 1, 2, 3] rfl ?_
    exact X6_readRecords_b108_s C hF hO hr hm   a0 a1 a2 i3
  refine s_aload_n C 2 dX6_readRecords_18 rfl rfl ?_
  refine s_iload_n C 3 dX6_readRecords_19 rfl rfl ?_
  refine s_invS_i C cy_X6_isWhole (Or.inl wd_5_232) wd_5_233 (con_X6_isWhole l G a2 i3) rfl rfl (Nat.le_of_ble_eq_true rfl) (by rw [hF]; decide) (by rw [hO]; exact Nat.le_of_ble_eq_true rfl) dX6_readRecords_20 (fun x1 => ?_)
  refine s_if_eq (tgt := 108) C dX6_readRecords_23 (by decide) ?_ ?_
  · refine s_sub [0, 1, 2, 3] rfl ?_
    exact X6_readRecords_b108_s C hF hO hr hm   a0 a1 a2 i3
  refine s_aload_n C 2 dX6_readRecords_26 rfl rfl ?_
  refine s_iload_n C 3 dX6_readRecords_27 rfl rfl ?_
  refine s_bipush (v := 8) C dX6_readRecords_28 (by decide) ?_
  refine s_iadd C dX6_readRecords_30 ?_
  refine s_invV_i C ci4 cy_X1_shortAt (Or.inl wd_5_212) rfl wd_5_117 wd_5_118 (con_X1_shortAt l G a2 (i3 + 8)) rfl rfl (Nat.le_of_ble_eq_true rfl) (by rw [hF]; decide) (by rw [hO]; exact Nat.le_of_ble_eq_true rfl) dX6_readRecords_31 (fun x2 => ?_)
  refine s_istore (lv' := [(5, .int x2), (0, .ref a0), (1, .ref a1), (2, .ref a2), (3, .int i3), (4, .int i4)]) C dX6_readRecords_34 (by decide) rfl ?_
  refine s_aload_n C 3 dX6_readRecords_36 rfl rfl ?_
  refine s_iload_n C 4 dX6_readRecords_37 rfl rfl ?_
  refine s_bipush (v := 10) C dX6_readRecords_38 (by decide) ?_
  refine s_iadd C dX6_readRecords_40 ?_
  refine s_invV_i C ci4 cy_X1_numberAt (Or.inl wd_5_181) rfl wd_5_113 wd_5_114 (con_X1_numberAt l G a2 (i3 + 10)) rfl rfl (Nat.le_of_ble_eq_true rfl) (by rw [hF]; decide) (by rw [hO]; exact Nat.le_of_ble_eq_true rfl) dX6_readRecords_41 (fun x3 => ?_)
  refine s_istore (lv' := [(6, .int x3), (5, .int x2), (0, .ref a0), (1, .ref a1), (2, .ref a2), (3, .int i3), (4, .int i4)]) C dX6_readRecords_44 (by decide) rfl ?_
  refine s_aload_n C 2 dX6_readRecords_46 rfl rfl ?_
  refine s_gR C ci9 1 (by decide) (Or.inl wd_1_178) dX6_readRecords_47 (fun y4 => ?_)
  refine s_aload_n C 4 dX6_readRecords_50 rfl rfl ?_
  refine s_iload_n C 5 dX6_readRecords_51 rfl rfl ?_
  refine s_bipush (v := 14) C dX6_readRecords_52 (by decide) ?_
  refine s_iadd C dX6_readRecords_54 ?_
  refine s_iload C 1 dX6_readRecords_55 rfl ?_
  refine s_invV_r C ci5 cy_X2_rowFor (Or.inl wd_5_221) rfl wd_5_32 wd_5_33 (con_X2_rowFor l G y4 a2 (i3 + 14) x2) rfl rfl (Nat.le_of_ble_eq_true rfl) (by rw [hF]; decide) (by rw [hO]; exact Nat.le_of_ble_eq_true rfl) dX6_readRecords_57 (fun y5 => ?_)
  refine s_astore (lv' := [(7, .ref y5), (6, .int x3), (5, .int x2), (0, .ref a0), (1, .ref a1), (2, .ref a2), (3, .int i3), (4, .int i4)]) C dX6_readRecords_60 (by decide) rfl ?_
  refine s_aload_n C 3 dX6_readRecords_62 rfl rfl ?_
  refine s_aload C 0 dX6_readRecords_63 rfl ?_
  refine s_aload_n C 4 dX6_readRecords_65 rfl rfl ?_
  refine s_gI C ci7 1 (by decide) (Or.inr (Or.inr ⟨_, wd_3_218⟩)) dX6_readRecords_66 (fun x6 => ?_)
  refine s_iload_n C 6 dX6_readRecords_69 rfl rfl ?_
  refine s_iload C 1 dX6_readRecords_70 rfl ?_
  refine s_aload_n C 5 dX6_readRecords_72 rfl rfl ?_
  refine s_iload_n C 6 dX6_readRecords_73 rfl rfl ?_
  refine s_iconst (v := 4) C dX6_readRecords_74 (by decide) ?_
  refine s_iadd C dX6_readRecords_75 ?_
  refine s_invV_i C ci4 cy_X1_numberAt (Or.inl wd_5_181) rfl wd_5_113 wd_5_114 (con_X1_numberAt l G a2 (i3 + 4)) rfl rfl (Nat.le_of_ble_eq_true rfl) (by rw [hF]; decide) (by rw [hO]; exact Nat.le_of_ble_eq_true rfl) dX6_readRecords_76 (fun x7 => ?_)
  refine s_invV_u C ci9 cy_X6_read (Or.inl wd_5_222) rfl wd_5_224 wp_22 (con_X6_read l G a0 y5 x6 i3 x3 x7) rfl rfl (Nat.le_of_ble_eq_true rfl) (by rw [hF]; decide) (by rw [hO]; exact Nat.le_of_ble_eq_true rfl) dX6_readRecords_79 ?_
  refine s_aload_n C 3 dX6_readRecords_82 rfl rfl ?_
  refine s_dup C dX6_readRecords_83 rfl ?_
  refine s_gI C ci9 3 (by decide) (Or.inl wd_1_181) dX6_readRecords_84 (fun x8 => ?_)
  refine s_iconst (v := 1) C dX6_readRecords_87 (by decide) ?_
  refine s_iadd C dX6_readRecords_88 ?_
  refine s_pV C ci9 3 (by decide) rfl (Or.inl wd_1_181) dX6_readRecords_89 rfl rfl ?_
  refine s_iload_n C 6 dX6_readRecords_92 rfl rfl ?_
  refine s_iload C 2 dX6_readRecords_93 rfl ?_
  refine s_iload C 1 dX6_readRecords_95 rfl ?_
  refine s_invS_i C cy_X8_recordSize (Or.inr ⟨_, wd_5_216⟩) wd_2_214 (con_X8_recordSize l G x2 x3) rfl rfl (Nat.le_of_ble_eq_true rfl) (by rw [hF]; decide) (by rw [hO]; exact Nat.le_of_ble_eq_true rfl) dX6_readRecords_97 (fun x9 => ?_)
  refine s_iadd C dX6_readRecords_100 ?_
  refine s_let (fun x10 => ?_)
  refine s_istore_n (lv' := [(3, .int x10), (7, .ref y5), (6, .int x3), (5, .int x2), (0, .ref a0), (1, .ref a1), (2, .ref a2), (4, .int i4)]) C dX6_readRecords_101 rfl (by decide) rfl ?_
  refine s_iincK (lv' := [(4, .int (i4 + (-1))), (3, .int x10), (7, .ref y5), (6, .int x3), (5, .int x2), (0, .ref a0), (1, .ref a1), (2, .ref a2)]) (w := (-1)) C 7 dX6_readRecords_102 rfl (by decide) (by decide) rfl ?_
  refine s_goto (tgt := 13) C dX6_readRecords_105 (by decide) ?_
  refine s_sub [5, 6, 7, 1, 0] rfl ?_
  exact hk13 a0 a1 a2 x10 (i4 + (-1))
set_option maxRecDepth 20000 in
theorem X6_readRecords_b13_s (C : Cx G p R s m args meth c cX6_readRecords 8 yX6_readRecords.cls h0 h') (hF : R.frames = 10) (hO : R.locals = 298) (hr : meth.sig.returnType = none) (hm : meth.name = yX6_readRecords.name)  (n : Nat) : ∀ (a0 : Nat) (a1 : Nat) (a2 : Nat) (i3 : Int32) (i4 : Int32), Sm G (QM G rvU below args s h0 r h') p l e R s m args below meth c 8 h0 r h' 13 [(0, .ref a0), (1, .ref a1), (2, .ref a2), (3, .int i3), (4, .int i4)] [] (X6_readRecords_b13  n a0 a1 a2 i3 i4) := by
  induction n with
  | zero => intro a0 a1 a2 i3 i4; exact s_fl
  | succ n ih => intro a0 a1 a2 i3 i4; exact X6_readRecords_b13b_s C hF hO hr hm  ih a0 a1 a2 i3 i4
end
set_option maxRecDepth 20000 in
theorem con_X6_readRecords (l : Launch) (G : Gx) (a0 : Nat) (a1 : Nat) : Con G rvU l yX6_readRecords cX6_readRecords 8 none 10 298 [.ref a0, .ref a1] (X6_readRecords a0 a1) := by
  refine con_of (lv := [(0, .ref a0), (1, .ref a1)]) (by decide) (Nat.le_of_ble_eq_true rfl) rfl (fun p e R s m args below meth c h0 r h' C hF hO hr hm => ?_)
  refine s_aload_n C 1 dX6_readRecords_0 rfl rfl ?_
  refine s_gR C ci7 0 (by decide) (Or.inr (Or.inr ⟨_, wd_3_213⟩)) dX6_readRecords_1 (fun y1 => ?_)
  refine s_astore_n (lv' := [(2, .ref y1), (0, .ref a0), (1, .ref a1)]) C dX6_readRecords_4 rfl (by decide) rfl ?_
  refine s_iconst (v := 0) C dX6_readRecords_5 (by decide) ?_
  refine s_istore_n (lv' := [(3, .int 0), (2, .ref y1), (0, .ref a0), (1, .ref a1)]) C dX6_readRecords_6 rfl (by decide) rfl ?_
  refine s_aload_n C 1 dX6_readRecords_7 rfl rfl ?_
  refine s_invV_i C ci4 cy_X1_size (Or.inl wd_5_179) rfl wd_2_147 wd_2_148 (con_X1_size l G y1) rfl rfl (Nat.le_of_ble_eq_true rfl) (by rw [hF]; decide) (by rw [hO]; exact Nat.le_of_ble_eq_true rfl) dX6_readRecords_8 (fun x2 => ?_)
  refine s_istore (lv' := [(4, .int x2), (3, .int 0), (2, .ref y1), (0, .ref a0), (1, .ref a1)]) C dX6_readRecords_11 (by decide) rfl ?_
  refine s_sub [3, 4, 2, 1, 0] rfl ?_
  exact X6_readRecords_b13_s C hF hO hr hm  FU a0 a1 y1 0 x2

theorem dX6_readFiles_0 : decode cX6_readFiles 0 = .ok (.iconst 0, 1) := by decide +kernel
theorem dX6_readFiles_1 : decode cX6_readFiles 1 = .ok (.istore_n 1, 1) := by decide +kernel
theorem dX6_readFiles_2 : decode cX6_readFiles 2 = .ok (.aload_n 0, 1) := by decide +kernel
theorem dX6_readFiles_3 : decode cX6_readFiles 3 = .ok (.getfield 9, 3) := by decide +kernel
theorem dX6_readFiles_6 : decode cX6_readFiles 6 = .ok (.invokevirtual 35, 3) := by decide +kernel
theorem dX6_readFiles_9 : decode cX6_readFiles 9 = .ok (.istore_n 2, 1) := by decide +kernel
theorem dX6_readFiles_10 : decode cX6_readFiles 10 = .ok (.iload_n 2, 1) := by decide +kernel
theorem dX6_readFiles_11 : decode cX6_readFiles 11 = .ok (.ifCond .le 116, 3) := by decide +kernel
theorem dX6_readFiles_14 : decode cX6_readFiles 14 = .ok (.aload_n 0, 1) := by decide +kernel
theorem dX6_readFiles_15 : decode cX6_readFiles 15 = .ok (.getfield 9, 3) := by decide +kernel
theorem dX6_readFiles_18 : decode cX6_readFiles 18 = .ok (.iload_n 1, 1) := by decide +kernel
theorem dX6_readFiles_19 : decode cX6_readFiles 19 = .ok (.invokevirtual 66, 3) := by decide +kernel
theorem dX6_readFiles_22 : decode cX6_readFiles 22 = .ok (.astore_n 3, 1) := by decide +kernel
theorem dX6_readFiles_23 : decode cX6_readFiles 23 = .ok (.aload_n 3, 1) := by decide +kernel
theorem dX6_readFiles_24 : decode cX6_readFiles 24 = .ok (.ifnonnull 4, 3) := by decide +kernel
theorem dX6_readFiles_27 : decode cX6_readFiles 27 = .ok (.return_, 1) := by decide +kernel
theorem dX6_readFiles_28 : decode cX6_readFiles 28 = .ok (.aload_n 3, 1) := by decide +kernel
theorem dX6_readFiles_29 : decode cX6_readFiles 29 = .ok (.getfield 69, 3) := by decide +kernel
theorem dX6_readFiles_32 : decode cX6_readFiles 32 = .ok (.ifCond .ne 18, 3) := by decide +kernel
theorem dX6_readFiles_35 : decode cX6_readFiles 35 = .ok (.aload_n 0, 1) := by decide +kernel
theorem dX6_readFiles_36 : decode cX6_readFiles 36 = .ok (.getfield 9, 3) := by decide +kernel
theorem dX6_readFiles_39 : decode cX6_readFiles 39 = .ok (.aload_n 3, 1) := by decide +kernel
theorem dX6_readFiles_40 : decode cX6_readFiles 40 = .ok (.getfield 59, 3) := by decide +kernel
theorem dX6_readFiles_43 : decode cX6_readFiles 43 = .ok (.iconst 1, 1) := by decide +kernel
theorem dX6_readFiles_44 : decode cX6_readFiles 44 = .ok (.invokevirtual 72, 3) := by decide +kernel
theorem dX6_readFiles_47 : decode cX6_readFiles 47 = .ok (.goto 4, 3) := by decide +kernel
theorem dX6_readFiles_50 : decode cX6_readFiles 50 = .ok (.aconst_null, 1) := by decide +kernel
theorem dX6_readFiles_51 : decode cX6_readFiles 51 = .ok (.astore 4, 2) := by decide +kernel
theorem dX6_readFiles_53 : decode cX6_readFiles 53 = .ok (.aload 4, 2) := by decide +kernel
theorem dX6_readFiles_55 : decode cX6_readFiles 55 = .ok (.ifnull 30, 3) := by decide +kernel
theorem dX6_readFiles_58 : decode cX6_readFiles 58 = .ok (.aload 4, 2) := by decide +kernel
theorem dX6_readFiles_60 : decode cX6_readFiles 60 = .ok (.getfield 45, 3) := by decide +kernel
theorem dX6_readFiles_63 : decode cX6_readFiles 63 = .ok (.aload_n 3, 1) := by decide +kernel
theorem dX6_readFiles_64 : decode cX6_readFiles 64 = .ok (.getfield 45, 3) := by decide +kernel
theorem dX6_readFiles_67 : decode cX6_readFiles 67 = .ok (.invokevirtual 76, 3) := by decide +kernel
theorem dX6_readFiles_70 : decode cX6_readFiles 70 = .ok (.invokestatic 81, 3) := by decide +kernel
theorem dX6_readFiles_73 : decode cX6_readFiles 73 = .ok (.ifCond .eq 12, 3) := by decide +kernel
theorem dX6_readFiles_76 : decode cX6_readFiles 76 = .ok (.aload_n 0, 1) := by decide +kernel
theorem dX6_readFiles_77 : decode cX6_readFiles 77 = .ok (.aload 4, 2) := by decide +kernel
theorem dX6_readFiles_79 : decode cX6_readFiles 79 = .ok (.invokevirtual 85, 3) := by decide +kernel
theorem dX6_readFiles_82 : decode cX6_readFiles 82 = .ok (.goto 24, 3) := by decide +kernel
theorem dX6_readFiles_85 : decode cX6_readFiles 85 = .ok (.aload_n 3, 1) := by decide +kernel
theorem dX6_readFiles_86 : decode cX6_readFiles 86 = .ok (.getfield 69, 3) := by decide +kernel
theorem dX6_readFiles_89 : decode cX6_readFiles 89 = .ok (.ifCond .ne 17, 3) := by decide +kernel
theorem dX6_readFiles_92 : decode cX6_readFiles 92 = .ok (.aload_n 0, 1) := by decide +kernel
theorem dX6_readFiles_93 : decode cX6_readFiles 93 = .ok (.aload_n 3, 1) := by decide +kernel
theorem dX6_readFiles_94 : decode cX6_readFiles 94 = .ok (.getfield 59, 3) := by decide +kernel
theorem dX6_readFiles_97 : decode cX6_readFiles 97 = .ok (.iconst 1, 1) := by decide +kernel
theorem dX6_readFiles_98 : decode cX6_readFiles 98 = .ok (.invokevirtual 62, 3) := by decide +kernel
theorem dX6_readFiles_101 : decode cX6_readFiles 101 = .ok (.aload_n 0, 1) := by decide +kernel
theorem dX6_readFiles_102 : decode cX6_readFiles 102 = .ok (.aload_n 3, 1) := by decide +kernel
theorem dX6_readFiles_103 : decode cX6_readFiles 103 = .ok (.invokevirtual 89, 3) := by decide +kernel
theorem dX6_readFiles_106 : decode cX6_readFiles 106 = .ok (.aload_n 0, 1) := by decide +kernel
theorem dX6_readFiles_107 : decode cX6_readFiles 107 = .ok (.getfield 9, 3) := by decide +kernel
theorem dX6_readFiles_110 : decode cX6_readFiles 110 = .ok (.iload_n 1, 1) := by decide +kernel
theorem dX6_readFiles_111 : decode cX6_readFiles 111 = .ok (.invokevirtual 66, 3) := by decide +kernel
theorem dX6_readFiles_114 : decode cX6_readFiles 114 = .ok (.aload_n 3, 1) := by decide +kernel
theorem dX6_readFiles_115 : decode cX6_readFiles 115 = .ok (.if_acmp .ne 6, 3) := by decide +kernel
theorem dX6_readFiles_118 : decode cX6_readFiles 118 = .ok (.iinc 1 1, 3) := by decide +kernel
theorem dX6_readFiles_121 : decode cX6_readFiles 121 = .ok (.iinc 2 (-1), 3) := by decide +kernel
theorem dX6_readFiles_124 : decode cX6_readFiles 124 = .ok (.goto (-114), 3) := by decide +kernel
theorem dX6_readFiles_127 : decode cX6_readFiles 127 = .ok (.return_, 1) := by decide +kernel
def X6_readFiles_b121 (k10 : Nat → Int32 → Int32 → M Unit)  (a0 : Nat) (i1 : Int32) (i2 : Int32) : M Unit := k10 a0 i1 (i2 + (-1))
def X6_readFiles_b106 (k10 : Nat → Int32 → Int32 → M Unit)  (a0 : Nat) (i1 : Int32) (i2 : Int32) (o3 : Option Nat) : M Unit := bd (gR 9 0 a0) (fun y1 => bd (ck 6 y1) (fun _ => bd (X3_at y1 i1) (fun z2 => it (z2 = o3) (X6_readFiles_b121 k10  a0 (i1 + 1) i2) (X6_readFiles_b121 k10  a0 i1 i2))))
def X6_readFiles_b85 (k10 : Nat → Int32 → Int32 → M Unit)  (a0 : Nat) (i1 : Int32) (i2 : Int32) (o3 : Option Nat) : M Unit := nn o3 (fun y1 => bd (gI 7 2 y1) (fun x2 => it (¬ x2 = 0) (X6_readFiles_b106 k10  a0 i1 i2 (some y1)) (bd (gI 7 1 y1) (fun x3 => bd (ck 9 a0) (fun _ => bd (X6_discard a0 x3 1) (fun _ => bd (ck 9 a0) (fun _ => bd (X6_readRecords a0 y1) (fun _ => X6_readFiles_b106 k10  a0 i1 i2 (some y1)))))))))
def X6_readFiles_b51 (k10 : Nat → Int32 → Int32 → M Unit)  (a0 : Nat) (i1 : Int32) (i2 : Int32) (o3 : Option Nat) (s0 : Option Nat) : M Unit := co s0 (X6_readFiles_b85 k10  a0 i1 i2 o3) (fun y1 => bd (gR 7 0 y1) (fun y2 => nn o3 (fun y3 => bd (gR 7 0 y3) (fun y4 => bd (ck 4 y4) (fun _ => bd (X1_size y4) (fun x5 => bd (X6_isGoodHint y2 x5) (fun x6 => it (x6 = 0) (X6_readFiles_b85 k10  a0 i1 i2 (some y3)) (bd (ck 9 a0) (fun _ => bd (X6_readHint a0 y1) (fun _ => X6_readFiles_b106 k10  a0 i1 i2 (some y3)))))))))))
def X6_readFiles_b10b  (k10 : Nat → Int32 → Int32 → M Unit) (a0 : Nat) (i1 : Int32) (i2 : Int32) : M Unit := it (i2 ≤ 0) (pu ()) (bd (gR 9 0 a0) (fun y1 => bd (ck 6 y1) (fun _ => bd (X3_at y1 i1) (fun z2 => co z2 (pu ()) (fun y3 => bd (gI 7 2 y3) (fun x4 => it (¬ x4 = 0) (X6_readFiles_b51 k10  a0 i1 i2 (some y3) none) (bd (gR 9 0 a0) (fun y5 => bd (gI 7 1 y3) (fun x6 => bd (ck 6 y5) (fun _ => bd (X3_find y5 x6 1) (fun z7 => X6_readFiles_b51 k10  a0 i1 i2 (some y3) z7)))))))))))
def X6_readFiles_b10  : Nat → Nat → Int32 → Int32 → M Unit
  | 0 => fun _ _ _ => fl
  | n + 1 => fun a0 i1 i2 => X6_readFiles_b10b  (X6_readFiles_b10  n) a0 i1 i2
def X6_readFiles (a0 : Nat) : M Unit := bd (gR 9 0 a0) (fun y1 => bd (ck 6 y1) (fun _ => bd (X3_count y1) (fun x2 => X6_readFiles_b10  FU a0 0 x2)))
section
variable {G : Gx} {p : Program} {l : Launch} {e : Env} {R : Room} {s : State} {m : MethodId} {args : Array Value} {below : List Frame} {meth : Method} {c : Code} {h0 : Hp} {r : Unit} {h' : Hp}
set_option maxRecDepth 20000 in
theorem X6_readFiles_b121_s (C : Cx G p R s m args meth c cX6_readFiles 5 yX6_readFiles.cls h0 h') (hF : R.frames = 11) (hO : R.locals = 325) (hr : meth.sig.returnType = none) (hm : meth.name = yX6_readFiles.name) {k10 : Nat → Int32 → Int32 → M Unit} (hk10 : ∀ (a0 : Nat) (i1 : Int32) (i2 : Int32), Sm G (QM G rvU below args s h0 r h') p l e R s m args below meth c 5 h0 r h' 10 [(0, .ref a0), (1, .int i1), (2, .int i2)] [] (k10 a0 i1 i2))  (a0 : Nat) (i1 : Int32) (i2 : Int32) : Sm G (QM G rvU below args s h0 r h') p l e R s m args below meth c 5 h0 r h' 121 [(0, .ref a0), (1, .int i1), (2, .int i2)] [] (X6_readFiles_b121 k10  a0 i1 i2) := by
  refine s_iincK (lv' := [(2, .int (i2 + (-1))), (0, .ref a0), (1, .int i1)]) (w := (-1)) C 2 dX6_readFiles_121 rfl (by decide) (by decide) rfl ?_
  refine s_goto (tgt := 10) C dX6_readFiles_124 (by decide) ?_
  refine s_sub [1, 2, 0] rfl ?_
  exact hk10 a0 i1 (i2 + (-1))
set_option maxRecDepth 20000 in
theorem X6_readFiles_b106_s (C : Cx G p R s m args meth c cX6_readFiles 5 yX6_readFiles.cls h0 h') (hF : R.frames = 11) (hO : R.locals = 325) (hr : meth.sig.returnType = none) (hm : meth.name = yX6_readFiles.name) {k10 : Nat → Int32 → Int32 → M Unit} (hk10 : ∀ (a0 : Nat) (i1 : Int32) (i2 : Int32), Sm G (QM G rvU below args s h0 r h') p l e R s m args below meth c 5 h0 r h' 10 [(0, .ref a0), (1, .int i1), (2, .int i2)] [] (k10 a0 i1 i2))  (a0 : Nat) (i1 : Int32) (i2 : Int32) (o3 : Option Nat) : Sm G (QM G rvU below args s h0 r h') p l e R s m args below meth c 5 h0 r h' 106 [(0, .ref a0), (1, .int i1), (2, .int i2), (3, va_rf o3)] [] (X6_readFiles_b106 k10  a0 i1 i2 o3) := by
  refine s_aload_n C 0 dX6_readFiles_106 rfl rfl ?_
  refine s_gR C ci9 0 (by decide) (Or.inl wd_1_177) dX6_readFiles_107 (fun y1 => ?_)
  refine s_iload_n C 1 dX6_readFiles_110 rfl rfl ?_
  refine s_invV_o C ci6 cy_X3_at (Or.inl wd_5_200) rfl wd_2_135 wd_2_136 (con_X3_at l G y1 i1) rfl rfl (Nat.le_of_ble_eq_true rfl) (by rw [hF]; decide) (by rw [hO]; exact Nat.le_of_ble_eq_true rfl) dX6_readFiles_111 (fun z2 => ?_)
  refine s_oload_n C 3 dX6_readFiles_114 rfl rfl ?_
  refine s_acmp_ne (x := z2) (y := o3) (tgt := 121) C dX6_readFiles_115 (by decide) ?_ ?_
  · refine s_sub [0, 1, 2] rfl ?_
    exact X6_readFiles_b121_s C hF hO hr hm hk10  a0 i1 i2
  refine s_iincK (lv' := [(1, .int (i1 + 1)), (0, .ref a0), (2, .int i2), (3, va_rf o3)]) (w := 1) C 1 dX6_readFiles_118 rfl (by decide) (by decide) rfl ?_
  refine s_sub [1, 0, 2] rfl ?_
  exact X6_readFiles_b121_s C hF hO hr hm hk10  a0 (i1 + 1) i2
set_option maxRecDepth 20000 in
theorem X6_readFiles_b85_s (C : Cx G p R s m args meth c cX6_readFiles 5 yX6_readFiles.cls h0 h') (hF : R.frames = 11) (hO : R.locals = 325) (hr : meth.sig.returnType = none) (hm : meth.name = yX6_readFiles.name) {k10 : Nat → Int32 → Int32 → M Unit} (hk10 : ∀ (a0 : Nat) (i1 : Int32) (i2 : Int32), Sm G (QM G rvU below args s h0 r h') p l e R s m args below meth c 5 h0 r h' 10 [(0, .ref a0), (1, .int i1), (2, .int i2)] [] (k10 a0 i1 i2))  (a0 : Nat) (i1 : Int32) (i2 : Int32) (o3 : Option Nat) : Sm G (QM G rvU below args s h0 r h') p l e R s m args below meth c 5 h0 r h' 85 [(0, .ref a0), (1, .int i1), (2, .int i2), (3, va_rf o3)] [] (X6_readFiles_b85 k10  a0 i1 i2 o3) := by
  refine s_oload_n C 3 dX6_readFiles_85 rfl rfl ?_
  refine s_nn2 (fun y1 hq => ?_)
  subst hq
  refine s_gI C ci7 2 (by decide) (Or.inr (Or.inr ⟨_, wd_3_223⟩)) dX6_readFiles_86 (fun x2 => ?_)
  refine s_if_ne (tgt := 106) C dX6_readFiles_89 (by decide) ?_ ?_
  · exact X6_readFiles_b106_s C hF hO hr hm hk10  a0 i1 i2 (some y1)
  refine s_aload_n C 0 dX6_readFiles_92 rfl rfl ?_
  refine s_aload_n C 3 dX6_readFiles_93 rfl rfl ?_
  refine s_gI C ci7 1 (by decide) (Or.inr (Or.inr ⟨_, wd_3_218⟩)) dX6_readFiles_94 (fun x3 => ?_)
  refine s_iconst (v := 1) C dX6_readFiles_97 (by decide) ?_
  refine s_invV_u C ci9 cy_X6_discard (Or.inl wd_5_188) rfl wd_5_190 wp_20 (con_X6_discard l G a0 x3 1) rfl rfl (Nat.le_of_ble_eq_true rfl) (by rw [hF]; decide) (by rw [hO]; exact Nat.le_of_ble_eq_true rfl) dX6_readFiles_98 ?_
  refine s_aload_n C 0 dX6_readFiles_101 rfl rfl ?_
  refine s_aload_n C 3 dX6_readFiles_102 rfl rfl ?_
  refine s_invV_u C ci9 cy_X6_readRecords (Or.inl wd_5_228) rfl wd_5_230 wp_23 (con_X6_readRecords l G a0 y1) rfl rfl (Nat.le_of_ble_eq_true rfl) (by rw [hF]; decide) (by rw [hO]; exact Nat.le_of_ble_eq_true rfl) dX6_readFiles_103 ?_
  exact X6_readFiles_b106_s C hF hO hr hm hk10  a0 i1 i2 (some y1)
set_option maxRecDepth 20000 in
theorem X6_readFiles_b51_s (C : Cx G p R s m args meth c cX6_readFiles 5 yX6_readFiles.cls h0 h') (hF : R.frames = 11) (hO : R.locals = 325) (hr : meth.sig.returnType = none) (hm : meth.name = yX6_readFiles.name) {k10 : Nat → Int32 → Int32 → M Unit} (hk10 : ∀ (a0 : Nat) (i1 : Int32) (i2 : Int32), Sm G (QM G rvU below args s h0 r h') p l e R s m args below meth c 5 h0 r h' 10 [(0, .ref a0), (1, .int i1), (2, .int i2)] [] (k10 a0 i1 i2))  (a0 : Nat) (i1 : Int32) (i2 : Int32) (o3 : Option Nat) (s0 : Option Nat) : Sm G (QM G rvU below args s h0 r h') p l e R s m args below meth c 5 h0 r h' 51 [(0, .ref a0), (1, .int i1), (2, .int i2), (3, va_rf o3)] [va_rf s0] (X6_readFiles_b51 k10  a0 i1 i2 o3 s0) := by
  refine s_ostore (lv' := [(4, va_rf s0), (0, .ref a0), (1, .int i1), (2, .int i2), (3, va_rf o3)]) C dX6_readFiles_51 (by decide) (by cases o3 <;> rfl) ?_
  refine s_oload C 0 dX6_readFiles_53 rfl ?_
  refine s_ifnull (tgt := 85) C dX6_readFiles_55 (by decide) (fun hq => ?_) (fun y1 hq => ?_)
  · subst hq
    refine s_sub [1, 2, 3, 4] rfl ?_
    exact X6_readFiles_b85_s C hF hO hr hm hk10  a0 i1 i2 o3
  subst hq
  refine s_aload C 0 dX6_readFiles_58 rfl ?_
  refine s_gR C ci7 0 (by decide) (Or.inr (Or.inr ⟨_, wd_3_213⟩)) dX6_readFiles_60 (fun y2 => ?_)
  refine s_oload_n C 4 dX6_readFiles_63 rfl rfl ?_
  refine s_nn2 (fun y3 hq => ?_)
  subst hq
  refine s_gR C ci7 0 (by decide) (Or.inr (Or.inr ⟨_, wd_3_213⟩)) dX6_readFiles_64 (fun y4 => ?_)
  refine s_invV_i C ci4 cy_X1_size (Or.inl wd_5_179) rfl wd_2_147 wd_2_148 (con_X1_size l G y4) rfl rfl (Nat.le_of_ble_eq_true rfl) (by rw [hF]; decide) (by rw [hO]; exact Nat.le_of_ble_eq_true rfl) dX6_readFiles_67 (fun x5 => ?_)
  refine s_invS_i C cy_X6_isGoodHint (Or.inl wd_5_206) wd_5_207 (con_X6_isGoodHint l G y2 x5) rfl rfl (Nat.le_of_ble_eq_true rfl) (by rw [hF]; decide) (by rw [hO]; exact Nat.le_of_ble_eq_true rfl) dX6_readFiles_70 (fun x6 => ?_)
  refine s_if_eq (tgt := 85) C dX6_readFiles_73 (by decide) ?_ ?_
  · refine s_sub [1, 2, 3, 4] rfl ?_
    exact X6_readFiles_b85_s C hF hO hr hm hk10  a0 i1 i2 (some y3)
  refine s_aload_n C 1 dX6_readFiles_76 rfl rfl ?_
  refine s_aload C 0 dX6_readFiles_77 rfl ?_
  refine s_invV_u C ci9 cy_X6_readHint (Or.inl wd_5_217) rfl wd_5_219 wp_21 (con_X6_readHint l G a0 y1) rfl rfl (Nat.le_of_ble_eq_true rfl) (by rw [hF]; decide) (by rw [hO]; exact Nat.le_of_ble_eq_true rfl) dX6_readFiles_79 ?_
  refine s_goto (tgt := 106) C dX6_readFiles_82 (by decide) ?_
  refine s_sub [1, 2, 3, 4] rfl ?_
  exact X6_readFiles_b106_s C hF hO hr hm hk10  a0 i1 i2 (some y3)
set_option maxRecDepth 20000 in
theorem X6_readFiles_b10b_s (C : Cx G p R s m args meth c cX6_readFiles 5 yX6_readFiles.cls h0 h') (hF : R.frames = 11) (hO : R.locals = 325) (hr : meth.sig.returnType = none) (hm : meth.name = yX6_readFiles.name)  {k10 : Nat → Int32 → Int32 → M Unit} (hk10 : ∀ (a0 : Nat) (i1 : Int32) (i2 : Int32), Sm G (QM G rvU below args s h0 r h') p l e R s m args below meth c 5 h0 r h' 10 [(0, .ref a0), (1, .int i1), (2, .int i2)] [] (k10 a0 i1 i2)) (a0 : Nat) (i1 : Int32) (i2 : Int32) : Sm G (QM G rvU below args s h0 r h') p l e R s m args below meth c 5 h0 r h' 10 [(0, .ref a0), (1, .int i1), (2, .int i2)] [] (X6_readFiles_b10b  k10 a0 i1 i2) := by
  refine s_iload_n C 2 dX6_readFiles_10 rfl rfl ?_
  refine s_if_le (tgt := 127) C dX6_readFiles_11 (by decide) ?_ ?_
  · exact s_vret C hr rfl dX6_readFiles_127
  refine s_aload_n C 0 dX6_readFiles_14 rfl rfl ?_
  refine s_gR C ci9 0 (by decide) (Or.inl wd_1_177) dX6_readFiles_15 (fun y1 => ?_)
  refine s_iload_n C 1 dX6_readFiles_18 rfl rfl ?_
  refine s_invV_o C ci6 cy_X3_at (Or.inl wd_5_200) rfl wd_2_135 wd_2_136 (con_X3_at l G y1 i1) rfl rfl (Nat.le_of_ble_eq_true rfl) (by rw [hF]; decide) (by rw [hO]; exact Nat.le_of_ble_eq_true rfl) dX6_readFiles_19 (fun z2 => ?_)
  refine s_ostore_n (lv' := [(3, va_rf z2), (0, .ref a0), (1, .int i1), (2, .int i2)]) C dX6_readFiles_22 rfl (by decide) rfl ?_
  refine s_oload_n C 0 dX6_readFiles_23 rfl rfl ?_
  refine s_ifnonnull (tgt := 28) C dX6_readFiles_24 (by decide) (fun hq => ?_) (fun y3 hq => ?_)
  · subst hq
    exact s_vret C hr rfl dX6_readFiles_27
  subst hq
  refine s_aload_n C 0 dX6_readFiles_28 rfl rfl ?_
  refine s_gI C ci7 2 (by decide) (Or.inr (Or.inr ⟨_, wd_3_223⟩)) dX6_readFiles_29 (fun x4 => ?_)
  refine s_if_ne (tgt := 50) C dX6_readFiles_32 (by decide) ?_ ?_
  · refine s_nullO C dX6_readFiles_50 ?_
    refine s_sub [1, 2, 3, 0] rfl ?_
    exact X6_readFiles_b51_s C hF hO hr hm hk10  a0 i1 i2 (some y3) none
  refine s_aload_n C 1 dX6_readFiles_35 rfl rfl ?_
  refine s_gR C ci9 0 (by decide) (Or.inl wd_1_177) dX6_readFiles_36 (fun y5 => ?_)
  refine s_aload_n C 0 dX6_readFiles_39 rfl rfl ?_
  refine s_gI C ci7 1 (by decide) (Or.inr (Or.inr ⟨_, wd_3_218⟩)) dX6_readFiles_40 (fun x6 => ?_)
  refine s_iconst (v := 1) C dX6_readFiles_43 (by decide) ?_
  refine s_invV_o C ci6 cy_X3_find (Or.inl wd_5_201) rfl wd_3_176 wd_3_177 (con_X3_find l G y5 x6 1) rfl rfl (Nat.le_of_ble_eq_true rfl) (by rw [hF]; decide) (by rw [hO]; exact Nat.le_of_ble_eq_true rfl) dX6_readFiles_44 (fun z7 => ?_)
  refine s_goto (tgt := 51) C dX6_readFiles_47 (by decide) ?_
  refine s_sub [1, 2, 3, 0] rfl ?_
  exact X6_readFiles_b51_s C hF hO hr hm hk10  a0 i1 i2 (some y3) z7
set_option maxRecDepth 20000 in
theorem X6_readFiles_b10_s (C : Cx G p R s m args meth c cX6_readFiles 5 yX6_readFiles.cls h0 h') (hF : R.frames = 11) (hO : R.locals = 325) (hr : meth.sig.returnType = none) (hm : meth.name = yX6_readFiles.name)  (n : Nat) : ∀ (a0 : Nat) (i1 : Int32) (i2 : Int32), Sm G (QM G rvU below args s h0 r h') p l e R s m args below meth c 5 h0 r h' 10 [(0, .ref a0), (1, .int i1), (2, .int i2)] [] (X6_readFiles_b10  n a0 i1 i2) := by
  induction n with
  | zero => intro a0 i1 i2; exact s_fl
  | succ n ih => intro a0 i1 i2; exact X6_readFiles_b10b_s C hF hO hr hm  ih a0 i1 i2
end
set_option maxRecDepth 20000 in
theorem con_X6_readFiles (l : Launch) (G : Gx) (a0 : Nat) : Con G rvU l yX6_readFiles cX6_readFiles 5 none 11 325 [.ref a0] (X6_readFiles a0) := by
  refine con_of (lv := [(0, .ref a0)]) (by decide) (Nat.le_of_ble_eq_true rfl) rfl (fun p e R s m args below meth c h0 r h' C hF hO hr hm => ?_)
  refine s_iconst (v := 0) C dX6_readFiles_0 (by decide) ?_
  refine s_istore_n (lv' := [(1, .int 0), (0, .ref a0)]) C dX6_readFiles_1 rfl (by decide) rfl ?_
  refine s_aload_n C 1 dX6_readFiles_2 rfl rfl ?_
  refine s_gR C ci9 0 (by decide) (Or.inl wd_1_177) dX6_readFiles_3 (fun y1 => ?_)
  refine s_invV_i C ci6 cy_X3_count (Or.inl wd_5_171) rfl wd_2_172 wd_2_173 (con_X3_count l G y1) rfl rfl (Nat.le_of_ble_eq_true rfl) (by rw [hF]; decide) (by rw [hO]; exact Nat.le_of_ble_eq_true rfl) dX6_readFiles_6 (fun x2 => ?_)
  refine s_istore_n (lv' := [(2, .int x2), (1, .int 0), (0, .ref a0)]) C dX6_readFiles_9 rfl (by decide) rfl ?_
  refine s_sub [2, 1, 0] rfl ?_
  exact X6_readFiles_b10_s C hF hO hr hm  FU a0 0 x2
