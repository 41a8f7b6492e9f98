theorem dX1_init_0 : decode cX1_init 0 = .ok (.aload_n 0, 1) := by decide +kernel
theorem dX1_init_1 : decode cX1_init 1 = .ok (.invokespecial 3, 3) := by decide +kernel
theorem dX1_init_4 : decode cX1_init 4 = .ok (.aload_n 0, 1) := by decide +kernel
theorem dX1_init_5 : decode cX1_init 5 = .ok (.bipush 16, 2) := by decide +kernel
theorem dX1_init_7 : decode cX1_init 7 = .ok (.newarray .byte, 2) := by decide +kernel
theorem dX1_init_9 : decode cX1_init 9 = .ok (.putfield 9, 3) := by decide +kernel
theorem dX1_init_12 : decode cX1_init 12 = .ok (.aload_n 0, 1) := by decide +kernel
theorem dX1_init_13 : decode cX1_init 13 = .ok (.iconst 0, 1) := by decide +kernel
theorem dX1_init_14 : decode cX1_init 14 = .ok (.putfield 15, 3) := by decide +kernel
theorem dX1_init_17 : decode cX1_init 17 = .ok (.return_, 1) := by decide +kernel
def X1_init (a0 : Nat) : M Unit := bd (na 21 16) (fun y1 => bd (pV 4 0 a0 (.ref y1)) (fun _ => bd (pV 4 1 a0 (.int 0)) (fun _ => pu ())))
section
variable {G : Gx} {p : Program} {l : Launch} {e : Env} {R : Room} {s : State} {m : MethodId} {args : Array Value} {below : List Frame} {meth : Method} {c : Code} {h0 : Hp} {r : Unit} {h' : Hp}
end
set_option maxRecDepth 20000 in
theorem con_X1_init (l : Launch) (G : Gx) (a0 : Nat) : Con G rvU l yX1_init cX1_init 1 none 1 30 [.ref a0] (X1_init a0) := by
  refine con_of (lv := [(0, .ref a0)]) (by decide) (Nat.le_of_ble_eq_true rfl) rfl (fun p e R s m args below meth c h0 r h' C hF hO hr hm => ?_)
  refine s_aload_n C 0 dX1_init_0 rfl rfl ?_
  refine s_obj C wd_1_46 wd_1_39 wd_1_40 (by rw [hF]; decide) (by rw [hO]; exact Nat.le_of_ble_eq_true rfl) dX1_init_1 ?_
  refine s_aload_n C 0 dX1_init_4 rfl rfl ?_
  refine s_bipush (v := 16) C dX1_init_5 (by decide) ?_
  refine s_na21 C wd_1_54 dX1_init_7 (fun y1 => ?_)
  refine s_pV C ci4 0 (by decide) rfl (Or.inl wd_1_47) dX1_init_9 rfl rfl ?_
  refine s_aload_n C 0 dX1_init_12 rfl rfl ?_
  refine s_iconst (v := 0) C dX1_init_13 (by decide) ?_
  refine s_pV C ci4 1 (by decide) rfl (Or.inl wd_1_48) dX1_init_14 rfl rfl ?_
  exact s_vret C hr rfl dX1_init_17

theorem dX1_size_0 : decode cX1_size 0 = .ok (.aload_n 0, 1) := by decide +kernel
theorem dX1_size_1 : decode cX1_size 1 = .ok (.getfield 15, 3) := by decide +kernel
theorem dX1_size_4 : decode cX1_size 4 = .ok (.ireturn, 1) := by decide +kernel
def X1_size (a0 : Nat) : M Int32 := bd (gI 4 1 a0) (fun x1 => pu x1)
section
variable {G : Gx} {p : Program} {l : Launch} {e : Env} {R : Room} {s : State} {m : MethodId} {args : Array Value} {below : List Frame} {meth : Method} {c : Code} {h0 : Hp} {r : Int32} {h' : Hp}
end
set_option maxRecDepth 20000 in
theorem con_X1_size (l : Launch) (G : Gx) (a0 : Nat) : Con G rvI l yX1_size cX1_size 1 (some .int) 0 0 [.ref a0] (X1_size a0) := by
  refine con_of (lv := [(0, .ref a0)]) (by decide) (Nat.le_of_ble_eq_true rfl) rfl (fun p e R s m args below meth c h0 r h' C hF hO hr hm => ?_)
  refine s_aload_n C 0 dX1_size_0 rfl rfl ?_
  refine s_gI C ci4 1 (by decide) (Or.inl wd_1_48) dX1_size_1 (fun x1 => ?_)
  exact s_iret C hr rfl dX1_size_4

theorem dX1_at_0 : decode cX1_at 0 = .ok (.iload_n 1, 1) := by decide +kernel
theorem dX1_at_1 : decode cX1_at 1 = .ok (.ifCond .lt 24, 3) := by decide +kernel
theorem dX1_at_4 : decode cX1_at 4 = .ok (.iload_n 1, 1) := by decide +kernel
theorem dX1_at_5 : decode cX1_at 5 = .ok (.aload_n 0, 1) := by decide +kernel
theorem dX1_at_6 : decode cX1_at 6 = .ok (.getfield 15, 3) := by decide +kernel
theorem dX1_at_9 : decode cX1_at 9 = .ok (.if_icmp .ge 16, 3) := by decide +kernel
theorem dX1_at_12 : decode cX1_at 12 = .ok (.aload_n 0, 1) := by decide +kernel
theorem dX1_at_13 : decode cX1_at 13 = .ok (.getfield 9, 3) := by decide +kernel
theorem dX1_at_16 : decode cX1_at 16 = .ok (.iload_n 1, 1) := by decide +kernel
theorem dX1_at_17 : decode cX1_at 17 = .ok (.baload, 1) := by decide +kernel
theorem dX1_at_18 : decode cX1_at 18 = .ok (.sipush 255, 3) := by decide +kernel
theorem dX1_at_21 : decode cX1_at 21 = .ok (.iand, 1) := by decide +kernel
theorem dX1_at_22 : decode cX1_at 22 = .ok (.goto 4, 3) := by decide +kernel
theorem dX1_at_25 : decode cX1_at 25 = .ok (.iconst (-1), 1) := by decide +kernel
theorem dX1_at_26 : decode cX1_at 26 = .ok (.ireturn, 1) := by decide +kernel
def X1_at (a0 : Nat) (i1 : Int32) : M Int32 := it (i1 < 0) (pu (-1)) (bd (gI 4 1 a0) (fun x1 => it (x1 ≤ i1) (pu (-1)) (bd (gR 4 0 a0) (fun y2 => bd (al 21 y2 i1) (fun x3 => pu (x3 &&& 255))))))
section
variable {G : Gx} {p : Program} {l : Launch} {e : Env} {R : Room} {s : State} {m : MethodId} {args : Array Value} {below : List Frame} {meth : Method} {c : Code} {h0 : Hp} {r : Int32} {h' : Hp}
end
set_option maxRecDepth 20000 in
theorem con_X1_at (l : Launch) (G : Gx) (a0 : Nat) (i1 : Int32) : Con G rvI l yX1_at cX1_at 2 (some .int) 0 0 [.ref a0, .int i1] (X1_at a0 i1) := by
  refine con_of (lv := [(0, .ref a0), (1, .int i1)]) (by decide) (Nat.le_of_ble_eq_true rfl) rfl (fun p e R s m args below meth c h0 r h' C hF hO hr hm => ?_)
  refine s_iload_n C 1 dX1_at_0 rfl rfl ?_
  refine s_if_lt (tgt := 25) C dX1_at_1 (by decide) ?_ ?_
  · refine s_iconst (v := (-1)) C dX1_at_25 (by decide) ?_
    exact s_iret C hr rfl dX1_at_26
  refine s_iload_n C 1 dX1_at_4 rfl rfl ?_
  refine s_aload_n C 0 dX1_at_5 rfl rfl ?_
  refine s_gI C ci4 1 (by decide) (Or.inl wd_1_48) dX1_at_6 (fun x1 => ?_)
  refine s_icmp_ge (tgt := 25) C dX1_at_9 (by decide) ?_ ?_
  · refine s_iconst (v := (-1)) C dX1_at_25 (by decide) ?_
    exact s_iret C hr rfl dX1_at_26
  refine s_aload_n C 0 dX1_at_12 rfl rfl ?_
  refine s_gR C ci4 0 (by decide) (Or.inl wd_1_47) dX1_at_13 (fun y2 => ?_)
  refine s_iload_n C 1 dX1_at_16 rfl rfl ?_
  refine s_al21 C dX1_at_17 (fun x3 => ?_)
  refine s_sipush (v := 255) C dX1_at_18 (by decide) ?_
  refine s_iand C dX1_at_21 ?_
  refine s_goto (tgt := 26) C dX1_at_22 (by decide) ?_
  exact s_iret C hr rfl dX1_at_26

theorem dX1_shortAt_0 : decode cX1_shortAt 0 = .ok (.aload_n 0, 1) := by decide +kernel
theorem dX1_shortAt_1 : decode cX1_shortAt 1 = .ok (.iload_n 1, 1) := by decide +kernel
theorem dX1_shortAt_2 : decode cX1_shortAt 2 = .ok (.invokevirtual 19, 3) := by decide +kernel
theorem dX1_shortAt_5 : decode cX1_shortAt 5 = .ok (.sipush 255, 3) := by decide +kernel
theorem dX1_shortAt_8 : decode cX1_shortAt 8 = .ok (.iand, 1) := by decide +kernel
theorem dX1_shortAt_9 : decode cX1_shortAt 9 = .ok (.bipush 8, 2) := by decide +kernel
theorem dX1_shortAt_11 : decode cX1_shortAt 11 = .ok (.ishl, 1) := by decide +kernel
theorem dX1_shortAt_12 : decode cX1_shortAt 12 = .ok (.aload_n 0, 1) := by decide +kernel
theorem dX1_shortAt_13 : decode cX1_shortAt 13 = .ok (.iload_n 1, 1) := by decide +kernel
theorem dX1_shortAt_14 : decode cX1_shortAt 14 = .ok (.iconst 1, 1) := by decide +kernel
theorem dX1_shortAt_15 : decode cX1_shortAt 15 = .ok (.iadd, 1) := by decide +kernel
theorem dX1_shortAt_16 : decode cX1_shortAt 16 = .ok (.invokevirtual 19, 3) := by decide +kernel
theorem dX1_shortAt_19 : decode cX1_shortAt 19 = .ok (.sipush 255, 3) := by decide +kernel
theorem dX1_shortAt_22 : decode cX1_shortAt 22 = .ok (.iand, 1) := by decide +kernel
theorem dX1_shortAt_23 : decode cX1_shortAt 23 = .ok (.ior, 1) := by decide +kernel
theorem dX1_shortAt_24 : decode cX1_shortAt 24 = .ok (.ireturn, 1) := by decide +kernel
def X1_shortAt (a0 : Nat) (i1 : Int32) : M Int32 := bd (ck 4 a0) (fun _ => bd (X1_at a0 i1) (fun x1 => bd (ck 4 a0) (fun _ => bd (X1_at a0 (i1 + 1)) (fun x2 => pu (((x1 &&& 255) <<< (8 &&& 31)) ||| (x2 &&& 255))))))
section
variable {G : Gx} {p : Program} {l : Launch} {e : Env} {R : Room} {s : State} {m : MethodId} {args : Array Value} {below : List Frame} {meth : Method} {c : Code} {h0 : Hp} {r : Int32} {h' : Hp}
end
set_option maxRecDepth 20000 in
theorem con_X1_shortAt (l : Launch) (G : Gx) (a0 : Nat) (i1 : Int32) : Con G rvI l yX1_shortAt cX1_shortAt 2 (some .int) 1 21 [.ref a0, .int i1] (X1_shortAt a0 i1) := by
  refine con_of (lv := [(0, .ref a0), (1, .int i1)]) (by decide) (Nat.le_of_ble_eq_true rfl) rfl (fun p e R s m args below meth c h0 r h' C hF hO hr hm => ?_)
  refine s_aload_n C 0 dX1_shortAt_0 rfl rfl ?_
  refine s_iload_n C 1 dX1_shortAt_1 rfl rfl ?_
  refine s_invV_i C ci4 cy_X1_at (Or.inl wd_3_160) rfl wd_2_127 wd_2_128 (con_X1_at l G a0 i1) rfl rfl (Nat.le_of_ble_eq_true rfl) (by rw [hF]; decide) (by rw [hO]; exact Nat.le_of_ble_eq_true rfl) dX1_shortAt_2 (fun x1 => ?_)
  refine s_sipush (v := 255) C dX1_shortAt_5 (by decide) ?_
  refine s_iand C dX1_shortAt_8 ?_
  refine s_bipush (v := 8) C dX1_shortAt_9 (by decide) ?_
  refine s_ishl C dX1_shortAt_11 ?_
  refine s_aload_n C 0 dX1_shortAt_12 rfl rfl ?_
  refine s_iload_n C 1 dX1_shortAt_13 rfl rfl ?_
  refine s_iconst (v := 1) C dX1_shortAt_14 (by decide) ?_
  refine s_iadd C dX1_shortAt_15 ?_
  refine s_invV_i C ci4 cy_X1_at (Or.inl wd_3_160) rfl wd_2_127 wd_2_128 (con_X1_at l G a0 (i1 + 1)) rfl rfl (Nat.le_of_ble_eq_true rfl) (by rw [hF]; decide) (by rw [hO]; exact Nat.le_of_ble_eq_true rfl) dX1_shortAt_16 (fun x2 => ?_)
  refine s_sipush (v := 255) C dX1_shortAt_19 (by decide) ?_
  refine s_iand C dX1_shortAt_22 ?_
  refine s_ior C dX1_shortAt_23 ?_
  exact s_iret C hr rfl dX1_shortAt_24

theorem dX1_numberAt_0 : decode cX1_numberAt 0 = .ok (.aload_n 0, 1) := by decide +kernel
theorem dX1_numberAt_1 : decode cX1_numberAt 1 = .ok (.iload_n 1, 1) := by decide +kernel
theorem dX1_numberAt_2 : decode cX1_numberAt 2 = .ok (.invokevirtual 23, 3) := by decide +kernel
theorem dX1_numberAt_5 : decode cX1_numberAt 5 = .ok (.bipush 16, 2) := by decide +kernel
theorem dX1_numberAt_7 : decode cX1_numberAt 7 = .ok (.ishl, 1) := by decide +kernel
theorem dX1_numberAt_8 : decode cX1_numberAt 8 = .ok (.aload_n 0, 1) := by decide +kernel
theorem dX1_numberAt_9 : decode cX1_numberAt 9 = .ok (.iload_n 1, 1) := by decide +kernel
theorem dX1_numberAt_10 : decode cX1_numberAt 10 = .ok (.iconst 2, 1) := by decide +kernel
theorem dX1_numberAt_11 : decode cX1_numberAt 11 = .ok (.iadd, 1) := by decide +kernel
theorem dX1_numberAt_12 : decode cX1_numberAt 12 = .ok (.invokevirtual 23, 3) := by decide +kernel
theorem dX1_numberAt_15 : decode cX1_numberAt 15 = .ok (.ior, 1) := by decide +kernel
theorem dX1_numberAt_16 : decode cX1_numberAt 16 = .ok (.ireturn, 1) := by decide +kernel
def X1_numberAt (a0 : Nat) (i1 : Int32) : M Int32 := bd (ck 4 a0) (fun _ => bd (X1_shortAt a0 i1) (fun x1 => bd (ck 4 a0) (fun _ => bd (X1_shortAt a0 (i1 + 2)) (fun x2 => pu ((x1 <<< (16 &&& 31)) ||| x2)))))
section
variable {G : Gx} {p : Program} {l : Launch} {e : Env} {R : Room} {s : State} {m : MethodId} {args : Array Value} {below : List Frame} {meth : Method} {c : Code} {h0 : Hp} {r : Int32} {h' : Hp}
end
set_option maxRecDepth 20000 in
theorem con_X1_numberAt (l : Launch) (G : Gx) (a0 : Nat) (i1 : Int32) : Con G rvI l yX1_numberAt cX1_numberAt 2 (some .int) 2 42 [.ref a0, .int i1] (X1_numberAt a0 i1) := by
  refine con_of (lv := [(0, .ref a0), (1, .int i1)]) (by decide) (Nat.le_of_ble_eq_true rfl) rfl (fun p e R s m args below meth c h0 r h' C hF hO hr hm => ?_)
  refine s_aload_n C 0 dX1_numberAt_0 rfl rfl ?_
  refine s_iload_n C 1 dX1_numberAt_1 rfl rfl ?_
  refine s_invV_i C ci4 cy_X1_shortAt (Or.inl wd_5_116) rfl wd_5_117 wd_5_118 (con_X1_shortAt l G a0 i1) rfl rfl (Nat.le_of_ble_eq_true rfl) (by rw [hF]; decide) (by rw [hO]; exact Nat.le_of_ble_eq_true rfl) dX1_numberAt_2 (fun x1 => ?_)
  refine s_bipush (v := 16) C dX1_numberAt_5 (by decide) ?_
  refine s_ishl C dX1_numberAt_7 ?_
  refine s_aload_n C 0 dX1_numberAt_8 rfl rfl ?_
  refine s_iload_n C 1 dX1_numberAt_9 rfl rfl ?_
  refine s_iconst (v := 2) C dX1_numberAt_10 (by decide) ?_
  refine s_iadd C dX1_numberAt_11 ?_
  refine s_invV_i C ci4 cy_X1_shortAt (Or.inl wd_5_116) rfl wd_5_117 wd_5_118 (con_X1_shortAt l G a0 (i1 + 2)) rfl rfl (Nat.le_of_ble_eq_true rfl) (by rw [hF]; decide) (by rw [hO]; exact Nat.le_of_ble_eq_true rfl) dX1_numberAt_12 (fun x2 => ?_)
  refine s_ior C dX1_numberAt_15 ?_
  exact s_iret C hr rfl dX1_numberAt_16

theorem dX1_makeRoom_0 : decode cX1_makeRoom 0 = .ok (.aload_n 0, 1) := by decide +kernel
theorem dX1_makeRoom_1 : decode cX1_makeRoom 1 = .ok (.getfield 15, 3) := by decide +kernel
theorem dX1_makeRoom_4 : decode cX1_makeRoom 4 = .ok (.iload_n 1, 1) := by decide +kernel
theorem dX1_makeRoom_5 : decode cX1_makeRoom 5 = .ok (.iadd, 1) := by decide +kernel
theorem dX1_makeRoom_6 : decode cX1_makeRoom 6 = .ok (.aload_n 0, 1) := by decide +kernel
theorem dX1_makeRoom_7 : decode cX1_makeRoom 7 = .ok (.getfield 9, 3) := by decide +kernel
theorem dX1_makeRoom_10 : decode cX1_makeRoom 10 = .ok (.arraylength, 1) := by decide +kernel
theorem dX1_makeRoom_11 : decode cX1_makeRoom 11 = .ok (.if_icmp .le 30, 3) := by decide +kernel
theorem dX1_makeRoom_14 : decode cX1_makeRoom 14 = .ok (.aload_n 0, 1) := by decide +kernel
theorem dX1_makeRoom_15 : decode cX1_makeRoom 15 = .ok (.aload_n 0, 1) := by decide +kernel
theorem dX1_makeRoom_16 : decode cX1_makeRoom 16 = .ok (.getfield 9, 3) := by decide +kernel
theorem dX1_makeRoom_19 : decode cX1_makeRoom 19 = .ok (.aload_n 0, 1) := by decide +kernel
theorem dX1_makeRoom_20 : decode cX1_makeRoom 20 = .ok (.getfield 15, 3) := by decide +kernel
theorem dX1_makeRoom_23 : decode cX1_makeRoom 23 = .ok (.iload_n 1, 1) := by decide +kernel
theorem dX1_makeRoom_24 : decode cX1_makeRoom 24 = .ok (.iadd, 1) := by decide +kernel
theorem dX1_makeRoom_25 : decode cX1_makeRoom 25 = .ok (.iconst 2, 1) := by decide +kernel
theorem dX1_makeRoom_26 : decode cX1_makeRoom 26 = .ok (.aload_n 0, 1) := by decide +kernel
theorem dX1_makeRoom_27 : decode cX1_makeRoom 27 = .ok (.getfield 9, 3) := by decide +kernel
theorem dX1_makeRoom_30 : decode cX1_makeRoom 30 = .ok (.arraylength, 1) := by decide +kernel
theorem dX1_makeRoom_31 : decode cX1_makeRoom 31 = .ok (.imul, 1) := by decide +kernel
theorem dX1_makeRoom_32 : decode cX1_makeRoom 32 = .ok (.invokestatic 53, 3) := by decide +kernel
theorem dX1_makeRoom_35 : decode cX1_makeRoom 35 = .ok (.invokestatic 56, 3) := by decide +kernel
theorem dX1_makeRoom_38 : decode cX1_makeRoom 38 = .ok (.putfield 9, 3) := by decide +kernel
theorem dX1_makeRoom_41 : decode cX1_makeRoom 41 = .ok (.return_, 1) := by decide +kernel
def X1_makeRoom (a0 : Nat) (i1 : Int32) : M Unit := bd (gI 4 1 a0) (fun x1 => bd (gR 4 0 a0) (fun y2 => bd (ay y2) (fun x3 => it ((x1 + i1) ≤ x3) (pu ()) (bd (gR 4 0 a0) (fun y4 => bd (gI 4 1 a0) (fun x5 => bd (gR 4 0 a0) (fun y6 => bd (ay y6) (fun x7 => bd (J7_copyOf_9075b y4 (imx (x5 + i1) (2 * x7))) (fun y8 => bd (pV 4 0 a0 (.ref y8)) (fun _ => pu ()))))))))))
section
variable {G : Gx} {p : Program} {l : Launch} {e : Env} {R : Room} {s : State} {m : MethodId} {args : Array Value} {below : List Frame} {meth : Method} {c : Code} {h0 : Hp} {r : Unit} {h' : Hp}
end
set_option maxRecDepth 20000 in
theorem con_X1_makeRoom (l : Launch) (G : Gx) (a0 : Nat) (i1 : Int32) : Con G rvU l yX1_makeRoom cX1_makeRoom 2 none 2 122 [.ref a0, .int i1] (X1_makeRoom a0 i1) := by
  refine con_of (lv := [(0, .ref a0), (1, .int i1)]) (by decide) (Nat.le_of_ble_eq_true rfl) rfl (fun p e R s m args below meth c h0 r h' C hF hO hr hm => ?_)
  refine s_aload_n C 0 dX1_makeRoom_0 rfl rfl ?_
  refine s_gI C ci4 1 (by decide) (Or.inl wd_1_48) dX1_makeRoom_1 (fun x1 => ?_)
  refine s_iload_n C 1 dX1_makeRoom_4 rfl rfl ?_
  refine s_iadd C dX1_makeRoom_5 ?_
  refine s_aload_n C 0 dX1_makeRoom_6 rfl rfl ?_
  refine s_gR C ci4 0 (by decide) (Or.inl wd_1_47) dX1_makeRoom_7 (fun y2 => ?_)
  refine s_ay C dX1_makeRoom_10 (fun x3 => ?_)
  refine s_icmp_le (tgt := 41) C dX1_makeRoom_11 (by decide) ?_ ?_
  · exact s_vret C hr rfl dX1_makeRoom_41
  refine s_aload_n C 0 dX1_makeRoom_14 rfl rfl ?_
  refine s_aload_n C 0 dX1_makeRoom_15 rfl rfl ?_
  refine s_gR C ci4 0 (by decide) (Or.inl wd_1_47) dX1_makeRoom_16 (fun y4 => ?_)
  refine s_aload_n C 0 dX1_makeRoom_19 rfl rfl ?_
  refine s_gI C ci4 1 (by decide) (Or.inl wd_1_48) dX1_makeRoom_20 (fun x5 => ?_)
  refine s_iload_n C 1 dX1_makeRoom_23 rfl rfl ?_
  refine s_iadd C dX1_makeRoom_24 ?_
  refine s_iconst (v := 2) C dX1_makeRoom_25 (by decide) ?_
  refine s_aload_n C 0 dX1_makeRoom_26 rfl rfl ?_
  refine s_gR C ci4 0 (by decide) (Or.inl wd_1_47) dX1_makeRoom_27 (fun y6 => ?_)
  refine s_ay C dX1_makeRoom_30 (fun x7 => ?_)
  refine s_imul C dX1_makeRoom_31 ?_
  refine s_mmax C wd_3_91 wd_2_18 wd_1_14 wd_2_19 (by rw [hF]; decide) (by rw [hO]; exact Nat.le_of_ble_eq_true rfl) dX1_makeRoom_32 ?_
  refine s_invS_r C cy_J7_copyOf_9075b (Or.inl wd_3_92) wd_3_93 (con_J7_copyOf_9075b l G y4 (imx (x5 + i1) (2 * x7))) rfl rfl (Nat.le_of_ble_eq_true rfl) (by rw [hF]; decide) (by rw [hO]; exact Nat.le_of_ble_eq_true rfl) dX1_makeRoom_35 (fun y8 => ?_)
  refine s_pV C ci4 0 (by decide) rfl (Or.inl wd_1_47) dX1_makeRoom_38 rfl rfl ?_
  exact s_vret C hr rfl dX1_makeRoom_41

theorem dX1_add_0 : decode cX1_add 0 = .ok (.aload_n 0, 1) := by decide +kernel
theorem dX1_add_1 : decode cX1_add 1 = .ok (.iconst 1, 1) := by decide +kernel
theorem dX1_add_2 : decode cX1_add 2 = .ok (.invokevirtual 26, 3) := by decide +kernel
theorem dX1_add_5 : decode cX1_add 5 = .ok (.aload_n 0, 1) := by decide +kernel
theorem dX1_add_6 : decode cX1_add 6 = .ok (.getfield 9, 3) := by decide +kernel
theorem dX1_add_9 : decode cX1_add 9 = .ok (.aload_n 0, 1) := by decide +kernel
theorem dX1_add_10 : decode cX1_add 10 = .ok (.getfield 15, 3) := by decide +kernel
theorem dX1_add_13 : decode cX1_add 13 = .ok (.iload_n 1, 1) := by decide +kernel
theorem dX1_add_14 : decode cX1_add 14 = .ok (.i2b, 1) := by decide +kernel
theorem dX1_add_15 : decode cX1_add 15 = .ok (.bastore, 1) := by decide +kernel
theorem dX1_add_16 : decode cX1_add 16 = .ok (.aload_n 0, 1) := by decide +kernel
theorem dX1_add_17 : decode cX1_add 17 = .ok (.dup, 1) := by decide +kernel
theorem dX1_add_18 : decode cX1_add 18 = .ok (.getfield 15, 3) := by decide +kernel
theorem dX1_add_21 : decode cX1_add 21 = .ok (.iconst 1, 1) := by decide +kernel
theorem dX1_add_22 : decode cX1_add 22 = .ok (.iadd, 1) := by decide +kernel
theorem dX1_add_23 : decode cX1_add 23 = .ok (.putfield 15, 3) := by decide +kernel
theorem dX1_add_26 : decode cX1_add 26 = .ok (.return_, 1) := by decide +kernel
def X1_add (a0 : Nat) (i1 : Int32) : M Unit := bd (ck 4 a0) (fun _ => bd (X1_makeRoom a0 1) (fun _ => bd (gR 4 0 a0) (fun y1 => bd (gI 4 1 a0) (fun x2 => bd (as 21 y1 x2 ((i1 : Int32).toInt8.toInt32)) (fun _ => bd (gI 4 1 a0) (fun x3 => bd (pV 4 1 a0 (.int (x3 + 1))) (fun _ => pu ())))))))
section
variable {G : Gx} {p : Program} {l : Launch} {e : Env} {R : Room} {s : State} {m : MethodId} {args : Array Value} {below : List Frame} {meth : Method} {c : Code} {h0 : Hp} {r : Unit} {h' : Hp}
end
set_option maxRecDepth 20000 in
theorem con_X1_add (l : Launch) (G : Gx) (a0 : Nat) (i1 : Int32) : Con G rvU l yX1_add cX1_add 2 none 3 143 [.ref a0, .int i1] (X1_add a0 i1) := by
  refine con_of (lv := [(0, .ref a0), (1, .int i1)]) (by decide) (Nat.le_of_ble_eq_true rfl) rfl (fun p e R s m args below meth c h0 r h' C hF hO hr hm => ?_)
  refine s_aload_n C 0 dX1_add_0 rfl rfl ?_
  refine s_iconst (v := 1) C dX1_add_1 (by decide) ?_
  refine s_invV_u C ci4 cy_X1_makeRoom (Or.inl wd_3_87) rfl wd_3_89 wp_9 (con_X1_makeRoom l G a0 1) rfl rfl (Nat.le_of_ble_eq_true rfl) (by rw [hF]; decide) (by rw [hO]; exact Nat.le_of_ble_eq_true rfl) dX1_add_2 ?_
  refine s_aload_n C 0 dX1_add_5 rfl rfl ?_
  refine s_gR C ci4 0 (by decide) (Or.inl wd_1_47) dX1_add_6 (fun y1 => ?_)
  refine s_aload_n C 0 dX1_add_9 rfl rfl ?_
  refine s_gI C ci4 1 (by decide) (Or.inl wd_1_48) dX1_add_10 (fun x2 => ?_)
  refine s_iload_n C 1 dX1_add_13 rfl rfl ?_
  refine s_i2b C dX1_add_14 ?_
  refine s_as21 C dX1_add_15 ?_
  refine s_aload_n C 0 dX1_add_16 rfl rfl ?_
  refine s_dup C dX1_add_17 rfl ?_
  refine s_gI C ci4 1 (by decide) (Or.inl wd_1_48) dX1_add_18 (fun x3 => ?_)
  refine s_iconst (v := 1) C dX1_add_21 (by decide) ?_
  refine s_iadd C dX1_add_22 ?_
  refine s_pV C ci4 1 (by decide) rfl (Or.inl wd_1_48) dX1_add_23 rfl rfl ?_
  exact s_vret C hr rfl dX1_add_26

theorem dX1_addShort_0 : decode cX1_addShort 0 = .ok (.aload_n 0, 1) := by decide +kernel
theorem dX1_addShort_1 : decode cX1_addShort 1 = .ok (.iload_n 1, 1) := by decide +kernel
theorem dX1_addShort_2 : decode cX1_addShort 2 = .ok (.bipush 8, 2) := by decide +kernel
theorem dX1_addShort_4 : decode cX1_addShort 4 = .ok (.iushr, 1) := by decide +kernel
theorem dX1_addShort_5 : decode cX1_addShort 5 = .ok (.invokevirtual 30, 3) := by decide +kernel
theorem dX1_addShort_8 : decode cX1_addShort 8 = .ok (.aload_n 0, 1) := by decide +kernel
theorem dX1_addShort_9 : decode cX1_addShort 9 = .ok (.iload_n 1, 1) := by decide +kernel
theorem dX1_addShort_10 : decode cX1_addShort 10 = .ok (.invokevirtual 30, 3) := by decide +kernel
theorem dX1_addShort_13 : decode cX1_addShort 13 = .ok (.return_, 1) := by decide +kernel
def X1_addShort (a0 : Nat) (i1 : Int32) : M Unit := bd (ck 4 a0) (fun _ => bd (X1_add a0 (ush i1 8)) (fun _ => bd (ck 4 a0) (fun _ => bd (X1_add a0 i1) (fun _ => pu ()))))
section
variable {G : Gx} {p : Program} {l : Launch} {e : Env} {R : Room} {s : State} {m : MethodId} {args : Array Value} {below : List Frame} {meth : Method} {c : Code} {h0 : Hp} {r : Unit} {h' : Hp}
end
set_option maxRecDepth 20000 in
theorem con_X1_addShort (l : Launch) (G : Gx) (a0 : Nat) (i1 : Int32) : Con G rvU l yX1_addShort cX1_addShort 2 none 4 164 [.ref a0, .int i1] (X1_addShort a0 i1) := by
  refine con_of (lv := [(0, .ref a0), (1, .int i1)]) (by decide) (Nat.le_of_ble_eq_true rfl) rfl (fun p e R s m args below meth c h0 r h' C hF hO hr hm => ?_)
  refine s_aload_n C 0 dX1_addShort_0 rfl rfl ?_
  refine s_iload_n C 1 dX1_addShort_1 rfl rfl ?_
  refine s_bipush (v := 8) C dX1_addShort_2 (by decide) ?_
  refine s_iushr C dX1_addShort_4 ?_
  refine s_invV_u C ci4 cy_X1_add (Or.inl wd_3_151) rfl wd_3_84 wd_3_85 (con_X1_add l G a0 (ush i1 8)) rfl rfl (Nat.le_of_ble_eq_true rfl) (by rw [hF]; decide) (by rw [hO]; exact Nat.le_of_ble_eq_true rfl) dX1_addShort_5 ?_
  refine s_aload_n C 0 dX1_addShort_8 rfl rfl ?_
  refine s_iload_n C 1 dX1_addShort_9 rfl rfl ?_
  refine s_invV_u C ci4 cy_X1_add (Or.inl wd_3_151) rfl wd_3_84 wd_3_85 (con_X1_add l G a0 i1) rfl rfl (Nat.le_of_ble_eq_true rfl) (by rw [hF]; decide) (by rw [hO]; exact Nat.le_of_ble_eq_true rfl) dX1_addShort_10 ?_
  exact s_vret C hr rfl dX1_addShort_13

theorem dX1_addNumber_0 : decode cX1_addNumber 0 = .ok (.aload_n 0, 1) := by decide +kernel
theorem dX1_addNumber_1 : decode cX1_addNumber 1 = .ok (.iload_n 1, 1) := by decide +kernel
theorem dX1_addNumber_2 : decode cX1_addNumber 2 = .ok (.bipush 24, 2) := by decide +kernel
theorem dX1_addNumber_4 : decode cX1_addNumber 4 = .ok (.iushr, 1) := by decide +kernel
theorem dX1_addNumber_5 : decode cX1_addNumber 5 = .ok (.invokevirtual 30, 3) := by decide +kernel
theorem dX1_addNumber_8 : decode cX1_addNumber 8 = .ok (.aload_n 0, 1) := by decide +kernel
theorem dX1_addNumber_9 : decode cX1_addNumber 9 = .ok (.iload_n 1, 1) := by decide +kernel
theorem dX1_addNumber_10 : decode cX1_addNumber 10 = .ok (.bipush 16, 2) := by decide +kernel
theorem dX1_addNumber_12 : decode cX1_addNumber 12 = .ok (.iushr, 1) := by decide +kernel
theorem dX1_addNumber_13 : decode cX1_addNumber 13 = .ok (.invokevirtual 30, 3) := by decide +kernel
theorem dX1_addNumber_16 : decode cX1_addNumber 16 = .ok (.aload_n 0, 1) := by decide +kernel
theorem dX1_addNumber_17 : decode cX1_addNumber 17 = .ok (.iload_n 1, 1) := by decide +kernel
theorem dX1_addNumber_18 : decode cX1_addNumber 18 = .ok (.bipush 8, 2) := by decide +kernel
theorem dX1_addNumber_20 : decode cX1_addNumber 20 = .ok (.iushr, 1) := by decide +kernel
theorem dX1_addNumber_21 : decode cX1_addNumber 21 = .ok (.invokevirtual 30, 3) := by decide +kernel
theorem dX1_addNumber_24 : decode cX1_addNumber 24 = .ok (.aload_n 0, 1) := by decide +kernel
theorem dX1_addNumber_25 : decode cX1_addNumber 25 = .ok (.iload_n 1, 1) := by decide +kernel
theorem dX1_addNumber_26 : decode cX1_addNumber 26 = .ok (.invokevirtual 30, 3) := by decide +kernel
theorem dX1_addNumber_29 : decode cX1_addNumber 29 = .ok (.return_, 1) := by decide +kernel
def X1_addNumber (a0 : Nat) (i1 : Int32) : M Unit := bd (ck 4 a0) (fun _ => bd (X1_add a0 (ush i1 24)) (fun _ => bd (ck 4 a0) (fun _ => bd (X1_add a0 (ush i1 16)) (fun _ => bd (ck 4 a0) (fun _ => bd (X1_add a0 (ush i1 8)) (fun _ => bd (ck 4 a0) (fun _ => bd (X1_add a0 i1) (fun _ => pu ()))))))))
section
variable {G : Gx} {p : Program} {l : Launch} {e : Env} {R : Room} {s : State} {m : MethodId} {args : Array Value} {below : List Frame} {meth : Method} {c : Code} {h0 : Hp} {r : Unit} {h' : Hp}
end
set_option maxRecDepth 20000 in
theorem con_X1_addNumber (l : Launch) (G : Gx) (a0 : Nat) (i1 : Int32) : Con G rvU l yX1_addNumber cX1_addNumber 2 none 4 164 [.ref a0, .int i1] (X1_addNumber a0 i1) := by
  refine con_of (lv := [(0, .ref a0), (1, .int i1)]) (by decide) (Nat.le_of_ble_eq_true rfl) rfl (fun p e R s m args below meth c h0 r h' C hF hO hr hm => ?_)
  refine s_aload_n C 0 dX1_addNumber_0 rfl rfl ?_
  refine s_iload_n C 1 dX1_addNumber_1 rfl rfl ?_
  refine s_bipush (v := 24) C dX1_addNumber_2 (by decide) ?_
  refine s_iushr C dX1_addNumber_4 ?_
  refine s_invV_u C ci4 cy_X1_add (Or.inl wd_3_151) rfl wd_3_84 wd_3_85 (con_X1_add l G a0 (ush i1 24)) rfl rfl (Nat.le_of_ble_eq_true rfl) (by rw [hF]; decide) (by rw [hO]; exact Nat.le_of_ble_eq_true rfl) dX1_addNumber_5 ?_
  refine s_aload_n C 0 dX1_addNumber_8 rfl rfl ?_
  refine s_iload_n C 1 dX1_addNumber_9 rfl rfl ?_
  refine s_bipush (v := 16) C dX1_addNumber_10 (by decide) ?_
  refine s_iushr C dX1_addNumber_12 ?_
  refine s_invV_u C ci4 cy_X1_add (Or.inl wd_3_151) rfl wd_3_84 wd_3_85 (con_X1_add l G a0 (ush i1 16)) rfl rfl (Nat.le_of_ble_eq_true rfl) (by rw [hF]; decide) (by rw [hO]; exact Nat.le_of_ble_eq_true rfl) dX1_addNumber_13 ?_
  refine s_aload_n C 0 dX1_addNumber_16 rfl rfl ?_
  refine s_iload_n C 1 dX1_addNumber_17 rfl rfl ?_
  refine s_bipush (v := 8) C dX1_addNumber_18 (by decide) ?_
  refine s_iushr C dX1_addNumber_20 ?_
  refine s_invV_u C ci4 cy_X1_add (Or.inl wd_3_151) rfl wd_3_84 wd_3_85 (con_X1_add l G a0 (ush i1 8)) rfl rfl (Nat.le_of_ble_eq_true rfl) (by rw [hF]; decide) (by rw [hO]; exact Nat.le_of_ble_eq_true rfl) dX1_addNumber_21 ?_
  refine s_aload_n C 0 dX1_addNumber_24 rfl rfl ?_
  refine s_iload_n C 1 dX1_addNumber_25 rfl rfl ?_
  refine s_invV_u C ci4 cy_X1_add (Or.inl wd_3_151) rfl wd_3_84 wd_3_85 (con_X1_add l G a0 i1) rfl rfl (Nat.le_of_ble_eq_true rfl) (by rw [hF]; decide) (by rw [hO]; exact Nat.le_of_ble_eq_true rfl) dX1_addNumber_26 ?_
  exact s_vret C hr rfl dX1_addNumber_29

theorem dX1_addPart_0 : decode cX1_addPart 0 = .ok (.iload_n 2, 1) := by decide +kernel
theorem dX1_addPart_1 : decode cX1_addPart 1 = .ok (.ifCond .lt 17, 3) := by decide +kernel
theorem dX1_addPart_4 : decode cX1_addPart 4 = .ok (.iload_n 3, 1) := by decide +kernel
theorem dX1_addPart_5 : decode cX1_addPart 5 = .ok (.ifCond .lt 13, 3) := by decide +kernel
theorem dX1_addPart_8 : decode cX1_addPart 8 = .ok (.iload_n 2, 1) := by decide +kernel
theorem dX1_addPart_9 : decode cX1_addPart 9 = .ok (.aload_n 1, 1) := by decide +kernel
theorem dX1_addPart_10 : decode cX1_addPart 10 = .ok (.getfield 15, 3) := by decide +kernel
theorem dX1_addPart_13 : decode cX1_addPart 13 = .ok (.iload_n 3, 1) := by decide +kernel
theorem dX1_addPart_14 : decode cX1_addPart 14 = .ok (.isub, 1) := by decide +kernel
theorem dX1_addPart_15 : decode cX1_addPart 15 = .ok (.if_icmp .le 4, 3) := by decide +kernel
theorem dX1_addPart_18 : decode cX1_addPart 18 = .ok (.return_, 1) := by decide +kernel
theorem dX1_addPart_19 : decode cX1_addPart 19 = .ok (.aload_n 0, 1) := by decide +kernel
theorem dX1_addPart_20 : decode cX1_addPart 20 = .ok (.iload_n 3, 1) := by decide +kernel
theorem dX1_addPart_21 : decode cX1_addPart 21 = .ok (.invokevirtual 26, 3) := by decide +kernel
theorem dX1_addPart_24 : decode cX1_addPart 24 = .ok (.aload_n 1, 1) := by decide +kernel
theorem dX1_addPart_25 : decode cX1_addPart 25 = .ok (.getfield 9, 3) := by decide +kernel
theorem dX1_addPart_28 : decode cX1_addPart 28 = .ok (.iload_n 2, 1) := by decide +kernel
theorem dX1_addPart_29 : decode cX1_addPart 29 = .ok (.aload_n 0, 1) := by decide +kernel
theorem dX1_addPart_30 : decode cX1_addPart 30 = .ok (.getfield 9, 3) := by decide +kernel
theorem dX1_addPart_33 : decode cX1_addPart 33 = .ok (.aload_n 0, 1) := by decide +kernel
theorem dX1_addPart_34 : decode cX1_addPart 34 = .ok (.getfield 15, 3) := by decide +kernel
theorem dX1_addPart_37 : decode cX1_addPart 37 = .ok (.iload_n 3, 1) := by decide +kernel
theorem dX1_addPart_38 : decode cX1_addPart 38 = .ok (.invokestatic 33, 3) := by decide +kernel
theorem dX1_addPart_41 : decode cX1_addPart 41 = .ok (.aload_n 0, 1) := by decide +kernel
theorem dX1_addPart_42 : decode cX1_addPart 42 = .ok (.dup, 1) := by decide +kernel
theorem dX1_addPart_43 : decode cX1_addPart 43 = .ok (.getfield 15, 3) := by decide +kernel
theorem dX1_addPart_46 : decode cX1_addPart 46 = .ok (.iload_n 3, 1) := by decide +kernel
theorem dX1_addPart_47 : decode cX1_addPart 47 = .ok (.iadd, 1) := by decide +kernel
theorem dX1_addPart_48 : decode cX1_addPart 48 = .ok (.putfield 15, 3) := by decide +kernel
theorem dX1_addPart_51 : decode cX1_addPart 51 = .ok (.return_, 1) := by decide +kernel
def X1_addPart (a0 : Nat) (a1 : Nat) (i2 : Int32) (i3 : Int32) : M Unit := it (i2 < 0) (pu ()) (it (i3 < 0) (pu ()) (bd (gI 4 1 a1) (fun x1 => it (i2 ≤ (x1 - i3)) (bd (ck 4 a0) (fun _ => bd (X1_makeRoom a0 i3) (fun _ => bd (gR 4 0 a1) (fun y2 => bd (gR 4 0 a0) (fun y3 => bd (gI 4 1 a0) (fun x4 => bd (cb y2 i2 y3 x4 i3) (fun _ => bd (gI 4 1 a0) (fun x5 => bd (pV 4 1 a0 (.int (x5 + i3))) (fun _ => pu ()))))))))) (pu ()))))
section
variable {G : Gx} {p : Program} {l : Launch} {e : Env} {R : Room} {s : State} {m : MethodId} {args : Array Value} {below : List Frame} {meth : Method} {c : Code} {h0 : Hp} {r : Unit} {h' : Hp}
end
set_option maxRecDepth 20000 in
theorem con_X1_addPart (l : Launch) (G : Gx) (a0 : Nat) (a1 : Nat) (i2 : Int32) (i3 : Int32) : Con G rvU l yX1_addPart cX1_addPart 4 none 3 143 [.ref a0, .ref a1, .int i2, .int i3] (X1_addPart a0 a1 i2 i3) := by
  refine con_of (lv := [(0, .ref a0), (1, .ref a1), (2, .int i2), (3, .int i3)]) (by decide) (Nat.le_of_ble_eq_true rfl) rfl (fun p e R s m args below meth c h0 r h' C hF hO hr hm => ?_)
  refine s_iload_n C 2 dX1_addPart_0 rfl rfl ?_
  refine s_if_lt (tgt := 18) C dX1_addPart_1 (by decide) ?_ ?_
  · exact s_vret C hr rfl dX1_addPart_18
  refine s_iload_n C 3 dX1_addPart_4 rfl rfl ?_
  refine s_if_lt (tgt := 18) C dX1_addPart_5 (by decide) ?_ ?_
  · exact s_vret C hr rfl dX1_addPart_18
  refine s_iload_n C 2 dX1_addPart_8 rfl rfl ?_
  refine s_aload_n C 1 dX1_addPart_9 rfl rfl ?_
  refine s_gI C ci4 1 (by decide) (Or.inl wd_1_48) dX1_addPart_10 (fun x1 => ?_)
  refine s_iload_n C 3 dX1_addPart_13 rfl rfl ?_
  refine s_isub C dX1_addPart_14 ?_
  refine s_icmp_le (tgt := 19) C dX1_addPart_15 (by decide) ?_ ?_
  · refine s_aload_n C 0 dX1_addPart_19 rfl rfl ?_
    refine s_iload_n C 3 dX1_addPart_20 rfl rfl ?_
    refine s_invV_u C ci4 cy_X1_makeRoom (Or.inl wd_3_87) rfl wd_3_89 wp_9 (con_X1_makeRoom l G a0 i3) rfl rfl (Nat.le_of_ble_eq_true rfl) (by rw [hF]; decide) (by rw [hO]; exact Nat.le_of_ble_eq_true rfl) dX1_addPart_21 ?_
    refine s_aload_n C 1 dX1_addPart_24 rfl rfl ?_
    refine s_gR C ci4 0 (by decide) (Or.inl wd_1_47) dX1_addPart_25 (fun y2 => ?_)
    refine s_iload_n C 2 dX1_addPart_28 rfl rfl ?_
    refine s_aload_n C 0 dX1_addPart_29 rfl rfl ?_
    refine s_gR C ci4 0 (by decide) (Or.inl wd_1_47) dX1_addPart_30 (fun y3 => ?_)
    refine s_aload_n C 0 dX1_addPart_33 rfl rfl ?_
    refine s_gI C ci4 1 (by decide) (Or.inl wd_1_48) dX1_addPart_34 (fun x4 => ?_)
    refine s_iload_n C 3 dX1_addPart_37 rfl rfl ?_
    refine s_cb C wd_3_118 wd_1_236 wd_1_235 wd_1_12 (by rw [hF]; decide) (by rw [hO]; exact Nat.le_of_ble_eq_true rfl) dX1_addPart_38 ?_
    refine s_aload_n C 0 dX1_addPart_41 rfl rfl ?_
    refine s_dup C dX1_addPart_42 rfl ?_
    refine s_gI C ci4 1 (by decide) (Or.inl wd_1_48) dX1_addPart_43 (fun x5 => ?_)
    refine s_iload_n C 3 dX1_addPart_46 rfl rfl ?_
    refine s_iadd C dX1_addPart_47 ?_
    refine s_pV C ci4 1 (by decide) rfl (Or.inl wd_1_48) dX1_addPart_48 rfl rfl ?_
    exact s_vret C hr rfl dX1_addPart_51
  exact s_vret C hr rfl dX1_addPart_18

theorem dX1_change_0 : decode cX1_change 0 = .ok (.iload_n 1, 1) := by decide +kernel
theorem dX1_change_1 : decode cX1_change 1 = .ok (.ifCond .lt 19, 3) := by decide +kernel
theorem dX1_change_4 : decode cX1_change 4 = .ok (.iload_n 1, 1) := by decide +kernel
theorem dX1_change_5 : decode cX1_change 5 = .ok (.aload_n 0, 1) := by decide +kernel
theorem dX1_change_6 : decode cX1_change 6 = .ok (.getfield 15, 3) := by decide +kernel
theorem dX1_change_9 : decode cX1_change 9 = .ok (.if_icmp .ge 11, 3) := by decide +kernel
theorem dX1_change_12 : decode cX1_change 12 = .ok (.aload_n 0, 1) := by decide +kernel
theorem dX1_change_13 : decode cX1_change 13 = .ok (.getfield 9, 3) := by decide +kernel
theorem dX1_change_16 : decode cX1_change 16 = .ok (.iload_n 1, 1) := by decide +kernel
theorem dX1_change_17 : decode cX1_change 17 = .ok (.iload_n 2, 1) := by decide +kernel
theorem dX1_change_18 : decode cX1_change 18 = .ok (.i2b, 1) := by decide +kernel
theorem dX1_change_19 : decode cX1_change 19 = .ok (.bastore, 1) := by decide +kernel
theorem dX1_change_20 : decode cX1_change 20 = .ok (.return_, 1) := by decide +kernel
def X1_change (a0 : Nat) (i1 : Int32) (i2 : Int32) : M Unit := it (i1 < 0) (pu ()) (bd (gI 4 1 a0) (fun x1 => it (x1 ≤ i1) (pu ()) (bd (gR 4 0 a0) (fun y2 => bd (as 21 y2 i1 ((i2 : Int32).toInt8.toInt32)) (fun _ => pu ())))))
section
variable {G : Gx} {p : Program} {l : Launch} {e : Env} {R : Room} {s : State} {m : MethodId} {args : Array Value} {below : List Frame} {meth : Method} {c : Code} {h0 : Hp} {r : Unit} {h' : Hp}
end
set_option maxRecDepth 20000 in
theorem con_X1_change (l : Launch) (G : Gx) (a0 : Nat) (i1 : Int32) (i2 : Int32) : Con G rvU l yX1_change cX1_change 3 none 0 0 [.ref a0, .int i1, .int i2] (X1_change a0 i1 i2) := by
  refine con_of (lv := [(0, .ref a0), (1, .int i1), (2, .int i2)]) (by decide) (Nat.le_of_ble_eq_true rfl) rfl (fun p e R s m args below meth c h0 r h' C hF hO hr hm => ?_)
  refine s_iload_n C 1 dX1_change_0 rfl rfl ?_
  refine s_if_lt (tgt := 20) C dX1_change_1 (by decide) ?_ ?_
  · exact s_vret C hr rfl dX1_change_20
  refine s_iload_n C 1 dX1_change_4 rfl rfl ?_
  refine s_aload_n C 0 dX1_change_5 rfl rfl ?_
  refine s_gI C ci4 1 (by decide) (Or.inl wd_1_48) dX1_change_6 (fun x1 => ?_)
  refine s_icmp_ge (tgt := 20) C dX1_change_9 (by decide) ?_ ?_
  · exact s_vret C hr rfl dX1_change_20
  refine s_aload_n C 0 dX1_change_12 rfl rfl ?_
  refine s_gR C ci4 0 (by decide) (Or.inl wd_1_47) dX1_change_13 (fun y2 => ?_)
  refine s_iload_n C 1 dX1_change_16 rfl rfl ?_
  refine s_iload_n C 2 dX1_change_17 rfl rfl ?_
  refine s_i2b C dX1_change_18 ?_
  refine s_as21 C dX1_change_19 ?_
  exact s_vret C hr rfl dX1_change_20

theorem dX1_changeNumber_0 : decode cX1_changeNumber 0 = .ok (.iconst 0, 1) := by decide +kernel
theorem dX1_changeNumber_1 : decode cX1_changeNumber 1 = .ok (.istore_n 3, 1) := by decide +kernel
theorem dX1_changeNumber_2 : decode cX1_changeNumber 2 = .ok (.iload_n 3, 1) := by decide +kernel
theorem dX1_changeNumber_3 : decode cX1_changeNumber 3 = .ok (.iconst 4, 1) := by decide +kernel
theorem dX1_changeNumber_4 : decode cX1_changeNumber 4 = .ok (.if_icmp .ge 25, 3) := by decide +kernel
theorem dX1_changeNumber_7 : decode cX1_changeNumber 7 = .ok (.aload_n 0, 1) := by decide +kernel
theorem dX1_changeNumber_8 : decode cX1_changeNumber 8 = .ok (.iload_n 1, 1) := by decide +kernel
theorem dX1_changeNumber_9 : decode cX1_changeNumber 9 = .ok (.iload_n 3, 1) := by decide +kernel
theorem dX1_changeNumber_10 : decode cX1_changeNumber 10 = .ok (.iadd, 1) := by decide +kernel
theorem dX1_changeNumber_11 : decode cX1_changeNumber 11 = .ok (.iload_n 2, 1) := by decide +kernel
theorem dX1_changeNumber_12 : decode cX1_changeNumber 12 = .ok (.bipush 24, 2) := by decide +kernel
theorem dX1_changeNumber_14 : decode cX1_changeNumber 14 = .ok (.bipush 8, 2) := by decide +kernel
theorem dX1_changeNumber_16 : decode cX1_changeNumber 16 = .ok (.iload_n 3, 1) := by decide +kernel
theorem dX1_changeNumber_17 : decode cX1_changeNumber 17 = .ok (.imul, 1) := by decide +kernel
theorem dX1_changeNumber_18 : decode cX1_changeNumber 18 = .ok (.isub, 1) := by decide +kernel
theorem dX1_changeNumber_19 : decode cX1_changeNumber 19 = .ok (.iushr, 1) := by decide +kernel
theorem dX1_changeNumber_20 : decode cX1_changeNumber 20 = .ok (.invokevirtual 39, 3) := by decide +kernel
theorem dX1_changeNumber_23 : decode cX1_changeNumber 23 = .ok (.iinc 3 1, 3) := by decide +kernel
theorem dX1_changeNumber_26 : decode cX1_changeNumber 26 = .ok (.goto (-24), 3) := by decide +kernel
theorem dX1_changeNumber_29 : decode cX1_changeNumber 29 = .ok (.return_, 1) := by decide +kernel
def X1_changeNumber_b2b  (k2 : Nat → Int32 → Int32 → Int32 → M Unit) (a0 : Nat) (i1 : Int32) (i2 : Int32) (i3 : Int32) : M Unit := it (4 ≤ i3) (pu ()) (bd (ck 4 a0) (fun _ => bd (X1_change a0 (i1 + i3) (ush i2 (24 - (8 * i3)))) (fun _ => k2 a0 i1 i2 (i3 + 1))))
def X1_changeNumber_b2  : Nat → Nat → Int32 → Int32 → Int32 → M Unit
  | 0 => fun _ _ _ _ => fl
  | n + 1 => fun a0 i1 i2 i3 => X1_changeNumber_b2b  (X1_changeNumber_b2  n) a0 i1 i2 i3
def X1_changeNumber (a0 : Nat) (i1 : Int32) (i2 : Int32) : M Unit := X1_changeNumber_b2  FU a0 i1 i2 0
section
variable {G : Gx} {p : Program} {l : Launch} {e : Env} {R : Room} {s : State} {m : MethodId} {args : Array Value} {below : List Frame} {meth : Method} {c : Code} {h0 : Hp} {r : Unit} {h' : Hp}
set_option maxRecDepth 20000 in
theorem X1_changeNumber_b2b_s (C : Cx G p R s m args meth c cX1_changeNumber 4 yX1_changeNumber.cls h0 h') (hF : R.frames = 1) (hO : R.locals = 22) (hr : meth.sig.returnType = none) (hm : meth.name = yX1_changeNumber.name)  {k2 : Nat → Int32 → Int32 → Int32 → M Unit} (hk2 : ∀ (a0 : Nat) (i1 : Int32) (i2 : Int32) (i3 : Int32), Sm G (QM G rvU below args s h0 r h') p l e R s m args below meth c 4 h0 r h' 2 [(0, .ref a0), (1, .int i1), (2, .int i2), (3, .int i3)] [] (k2 a0 i1 i2 i3)) (a0 : Nat) (i1 : Int32) (i2 : Int32) (i3 : Int32) : Sm G (QM G rvU below args s h0 r h') p l e R s m args below meth c 4 h0 r h' 2 [(0, .ref a0), (1, .int i1), (2, .int i2), (3, .int i3)] [] (X1_changeNumber_b2b  k2 a0 i1 i2 i3) := by
  refine s_iload_n C 3 dX1_changeNumber_2 rfl rfl ?_
  refine s_iconst (v := 4) C dX1_changeNumber_3 (by decide) ?_
  refine s_icmp_ge (tgt := 29) C dX1_changeNumber_4 (by decide) ?_ ?_
  · exact s_vret C hr rfl dX1_changeNumber_29
  refine s_aload_n C 0 dX1_changeNumber_7 rfl rfl ?_
  refine s_iload_n C 1 dX1_changeNumber_8 rfl rfl ?_
  refine s_iload_n C 3 dX1_changeNumber_9 rfl rfl ?_
  refine s_iadd C dX1_changeNumber_10 ?_
  refine s_iload_n C 2 dX1_changeNumber_11 rfl rfl ?_
  refine s_bipush (v := 24) C dX1_changeNumber_12 (by decide) ?_
  refine s_bipush (v := 8) C dX1_changeNumber_14 (by decide) ?_
  refine s_iload_n C 3 dX1_changeNumber_16 rfl rfl ?_
  refine s_imul C dX1_changeNumber_17 ?_
  refine s_isub C dX1_changeNumber_18 ?_
  refine s_iushr C dX1_changeNumber_19 ?_
  refine s_invV_u C ci4 cy_X1_change (Or.inl wd_3_167) rfl wd_3_168 wd_3_169 (con_X1_change l G a0 (i1 + i3) (ush i2 (24 - (8 * i3)))) rfl rfl (Nat.le_of_ble_eq_true rfl) (by rw [hF]; decide) (by rw [hO]; exact Nat.le_of_ble_eq_true rfl) dX1_changeNumber_20 ?_
  refine s_iincK (lv' := [(3, .int (i3 + 1)), (0, .ref a0), (1, .int i1), (2, .int i2)]) (w := 1) C 3 dX1_changeNumber_23 rfl (by decide) (by decide) rfl ?_
  refine s_goto (tgt := 2) C dX1_changeNumber_26 (by decide) ?_
  refine s_sub [1, 2, 3, 0] rfl ?_
  exact hk2 a0 i1 i2 (i3 + 1)
set_option maxRecDepth 20000 in
theorem X1_changeNumber_b2_s (C : Cx G p R s m args meth c cX1_changeNumber 4 yX1_changeNumber.cls h0 h') (hF : R.frames = 1) (hO : R.locals = 22) (hr : meth.sig.returnType = none) (hm : meth.name = yX1_changeNumber.name)  (n : Nat) : ∀ (a0 : Nat) (i1 : Int32) (i2 : Int32) (i3 : Int32), Sm G (QM G rvU below args s h0 r h') p l e R s m args below meth c 4 h0 r h' 2 [(0, .ref a0), (1, .int i1), (2, .int i2), (3, .int i3)] [] (X1_changeNumber_b2  n a0 i1 i2 i3) := by
  induction n with
  | zero => intro a0 i1 i2 i3; exact s_fl
  | succ n ih => intro a0 i1 i2 i3; exact X1_changeNumber_b2b_s C hF hO hr hm  ih a0 i1 i2 i3
end
set_option maxRecDepth 20000 in
theorem con_X1_changeNumber (l : Launch) (G : Gx) (a0 : Nat) (i1 : Int32) (i2 : Int32) : Con G rvU l yX1_changeNumber cX1_changeNumber 4 none 1 22 [.ref a0, .int i1, .int i2] (X1_changeNumber a0 i1 i2) := by
  refine con_of (lv := [(0, .ref a0), (1, .int i1), (2, .int i2)]) (by decide) (Nat.le_of_ble_eq_true rfl) rfl (fun p e R s m args below meth c h0 r h' C hF hO hr hm => ?_)
  refine s_iconst (v := 0) C dX1_changeNumber_0 (by decide) ?_
  refine s_istore_n (lv' := [(3, .int 0), (0, .ref a0), (1, .int i1), (2, .int i2)]) C dX1_changeNumber_1 rfl (by decide) rfl ?_
  refine s_sub [1, 2, 3, 0] rfl ?_
  exact X1_changeNumber_b2_s C hF hO hr hm  FU a0 i1 i2 0

theorem dX1_cutTo_0 : decode cX1_cutTo 0 = .ok (.iload_n 1, 1) := by decide +kernel
theorem dX1_cutTo_1 : decode cX1_cutTo 1 = .ok (.ifCond .lt 16, 3) := by decide +kernel
theorem dX1_cutTo_4 : decode cX1_cutTo 4 = .ok (.iload_n 1, 1) := by decide +kernel
theorem dX1_cutTo_5 : decode cX1_cutTo 5 = .ok (.aload_n 0, 1) := by decide +kernel
theorem dX1_cutTo_6 : decode cX1_cutTo 6 = .ok (.getfield 15, 3) := by decide +kernel
theorem dX1_cutTo_9 : decode cX1_cutTo 9 = .ok (.if_icmp .ge 8, 3) := by decide +kernel
theorem dX1_cutTo_12 : decode cX1_cutTo 12 = .ok (.aload_n 0, 1) := by decide +kernel
theorem dX1_cutTo_13 : decode cX1_cutTo 13 = .ok (.iload_n 1, 1) := by decide +kernel
theorem dX1_cutTo_14 : decode cX1_cutTo 14 = .ok (.putfield 15, 3) := by decide +kernel
theorem dX1_cutTo_17 : decode cX1_cutTo 17 = .ok (.return_, 1) := by decide +kernel
def X1_cutTo (a0 : Nat) (i1 : Int32) : M Unit := it (i1 < 0) (pu ()) (bd (gI 4 1 a0) (fun x1 => it (x1 ≤ i1) (pu ()) (bd (pV 4 1 a0 (.int i1)) (fun _ => pu ()))))
section
variable {G : Gx} {p : Program} {l : Launch} {e : Env} {R : Room} {s : State} {m : MethodId} {args : Array Value} {below : List Frame} {meth : Method} {c : Code} {h0 : Hp} {r : Unit} {h' : Hp}
end
set_option maxRecDepth 20000 in
theorem con_X1_cutTo (l : Launch) (G : Gx) (a0 : Nat) (i1 : Int32) : Con G rvU l yX1_cutTo cX1_cutTo 2 none 0 0 [.ref a0, .int i1] (X1_cutTo a0 i1) := by
  refine con_of (lv := [(0, .ref a0), (1, .int i1)]) (by decide) (Nat.le_of_ble_eq_true rfl) rfl (fun p e R s m args below meth c h0 r h' C hF hO hr hm => ?_)
  refine s_iload_n C 1 dX1_cutTo_0 rfl rfl ?_
  refine s_if_lt (tgt := 17) C dX1_cutTo_1 (by decide) ?_ ?_
  · exact s_vret C hr rfl dX1_cutTo_17
  refine s_iload_n C 1 dX1_cutTo_4 rfl rfl ?_
  refine s_aload_n C 0 dX1_cutTo_5 rfl rfl ?_
  refine s_gI C ci4 1 (by decide) (Or.inl wd_1_48) dX1_cutTo_6 (fun x1 => ?_)
  refine s_icmp_ge (tgt := 17) C dX1_cutTo_9 (by decide) ?_ ?_
  · exact s_vret C hr rfl dX1_cutTo_17
  refine s_aload_n C 0 dX1_cutTo_12 rfl rfl ?_
  refine s_iload_n C 1 dX1_cutTo_13 rfl rfl ?_
  refine s_pV C ci4 1 (by decide) rfl (Or.inl wd_1_48) dX1_cutTo_14 rfl rfl ?_
  exact s_vret C hr rfl dX1_cutTo_17

theorem dX1_clear_0 : decode cX1_clear 0 = .ok (.aload_n 0, 1) := by decide +kernel
theorem dX1_clear_1 : decode cX1_clear 1 = .ok (.iconst 0, 1) := by decide +kernel
theorem dX1_clear_2 : decode cX1_clear 2 = .ok (.putfield 15, 3) := by decide +kernel
theorem dX1_clear_5 : decode cX1_clear 5 = .ok (.return_, 1) := by decide +kernel
def X1_clear (a0 : Nat) : M Unit := bd (pV 4 1 a0 (.int 0)) (fun _ => pu ())
section
variable {G : Gx} {p : Program} {l : Launch} {e : Env} {R : Room} {s : State} {m : MethodId} {args : Array Value} {below : List Frame} {meth : Method} {c : Code} {h0 : Hp} {r : Unit} {h' : Hp}
end
set_option maxRecDepth 20000 in
theorem con_X1_clear (l : Launch) (G : Gx) (a0 : Nat) : Con G rvU l yX1_clear cX1_clear 1 none 0 0 [.ref a0] (X1_clear a0) := by
  refine con_of (lv := [(0, .ref a0)]) (by decide) (Nat.le_of_ble_eq_true rfl) rfl (fun p e R s m args below meth c h0 r h' C hF hO hr hm => ?_)
  refine s_aload_n C 0 dX1_clear_0 rfl rfl ?_
  refine s_iconst (v := 0) C dX1_clear_1 (by decide) ?_
  refine s_pV C ci4 1 (by decide) rfl (Or.inl wd_1_48) dX1_clear_2 rfl rfl ?_
  exact s_vret C hr rfl dX1_clear_5

theorem dX1_sum_0 : decode cX1_sum 0 = .ok (.iconst (-1), 1) := by decide +kernel
theorem dX1_sum_1 : decode cX1_sum 1 = .ok (.istore_n 3, 1) := by decide +kernel
theorem dX1_sum_2 : decode cX1_sum 2 = .ok (.iload_n 1, 1) := by decide +kernel
theorem dX1_sum_3 : decode cX1_sum 3 = .ok (.istore 4, 2) := by decide +kernel
theorem dX1_sum_5 : decode cX1_sum 5 = .ok (.iload 4, 2) := by decide +kernel
theorem dX1_sum_7 : decode cX1_sum 7 = .ok (.iload_n 2, 1) := by decide +kernel
theorem dX1_sum_8 : decode cX1_sum 8 = .ok (.if_icmp .ge 48, 3) := by decide +kernel
theorem dX1_sum_11 : decode cX1_sum 11 = .ok (.iload_n 3, 1) := by decide +kernel
theorem dX1_sum_12 : decode cX1_sum 12 = .ok (.aload_n 0, 1) := by decide +kernel
theorem dX1_sum_13 : decode cX1_sum 13 = .ok (.iload 4, 2) := by decide +kernel
theorem dX1_sum_15 : decode cX1_sum 15 = .ok (.invokevirtual 19, 3) := by decide +kernel
theorem dX1_sum_18 : decode cX1_sum 18 = .ok (.sipush 255, 3) := by decide +kernel
theorem dX1_sum_21 : decode cX1_sum 21 = .ok (.iand, 1) := by decide +kernel
theorem dX1_sum_22 : decode cX1_sum 22 = .ok (.ixor, 1) := by decide +kernel
theorem dX1_sum_23 : decode cX1_sum 23 = .ok (.istore_n 3, 1) := by decide +kernel
theorem dX1_sum_24 : decode cX1_sum 24 = .ok (.iload_n 3, 1) := by decide +kernel
theorem dX1_sum_25 : decode cX1_sum 25 = .ok (.iconst 4, 1) := by decide +kernel
theorem dX1_sum_26 : decode cX1_sum 26 = .ok (.iushr, 1) := by decide +kernel
theorem dX1_sum_27 : decode cX1_sum 27 = .ok (.getstatic 43, 3) := by decide +kernel
theorem dX1_sum_30 : decode cX1_sum 30 = .ok (.iload_n 3, 1) := by decide +kernel
theorem dX1_sum_31 : decode cX1_sum 31 = .ok (.bipush 15, 2) := by decide +kernel
theorem dX1_sum_33 : decode cX1_sum 33 = .ok (.iand, 1) := by decide +kernel
theorem dX1_sum_34 : decode cX1_sum 34 = .ok (.iaload, 1) := by decide +kernel
theorem dX1_sum_35 : decode cX1_sum 35 = .ok (.ixor, 1) := by decide +kernel
theorem dX1_sum_36 : decode cX1_sum 36 = .ok (.istore_n 3, 1) := by decide +kernel
theorem dX1_sum_37 : decode cX1_sum 37 = .ok (.iload_n 3, 1) := by decide +kernel
theorem dX1_sum_38 : decode cX1_sum 38 = .ok (.iconst 4, 1) := by decide +kernel
theorem dX1_sum_39 : decode cX1_sum 39 = .ok (.iushr, 1) := by decide +kernel
theorem dX1_sum_40 : decode cX1_sum 40 = .ok (.getstatic 43, 3) := by decide +kernel
theorem dX1_sum_43 : decode cX1_sum 43 = .ok (.iload_n 3, 1) := by decide +kernel
theorem dX1_sum_44 : decode cX1_sum 44 = .ok (.bipush 15, 2) := by decide +kernel
theorem dX1_sum_46 : decode cX1_sum 46 = .ok (.iand, 1) := by decide +kernel
theorem dX1_sum_47 : decode cX1_sum 47 = .ok (.iaload, 1) := by decide +kernel
theorem dX1_sum_48 : decode cX1_sum 48 = .ok (.ixor, 1) := by decide +kernel
theorem dX1_sum_49 : decode cX1_sum 49 = .ok (.istore_n 3, 1) := by decide +kernel
theorem dX1_sum_50 : decode cX1_sum 50 = .ok (.iinc 4 1, 3) := by decide +kernel
theorem dX1_sum_53 : decode cX1_sum 53 = .ok (.goto (-48), 3) := by decide +kernel
theorem dX1_sum_56 : decode cX1_sum 56 = .ok (.iload_n 3, 1) := by decide +kernel
theorem dX1_sum_57 : decode cX1_sum 57 = .ok (.iconst (-1), 1) := by decide +kernel
theorem dX1_sum_58 : decode cX1_sum 58 = .ok (.ixor, 1) := by decide +kernel
theorem dX1_sum_59 : decode cX1_sum 59 = .ok (.ireturn, 1) := by decide +kernel
def X1_sum_b5b  (k5 : Nat → Int32 → Int32 → Int32 → M Int32) (a0 : Nat) (i2 : Int32) (i3 : Int32) (i4 : Int32) : M Int32 := it (i2 ≤ i4) (pu (i3 ^^^ (-1))) (bd (ck 4 a0) (fun _ => bd (X1_at a0 i4) (fun x1 => bd (pu (i3 ^^^ (x1 &&& 255))) (fun x2 => bd (tb (x2 &&& 15)) (fun x3 => bd (pu ((ush x2 4) ^^^ x3)) (fun x4 => bd (tb (x4 &&& 15)) (fun x5 => bd (pu ((ush x4 4) ^^^ x5)) (fun x6 => k5 a0 i2 x6 (i4 + 1)))))))))
def X1_sum_b5  : Nat → Nat → Int32 → Int32 → Int32 → M Int32
  | 0 => fun _ _ _ _ => fl
  | n + 1 => fun a0 i2 i3 i4 => X1_sum_b5b  (X1_sum_b5  n) a0 i2 i3 i4
def X1_sum (a0 : Nat) (i1 : Int32) (i2 : Int32) : M Int32 := bd (pu (-1)) (fun x1 => X1_sum_b5  FU a0 i2 x1 i1)
section
variable {G : Gx} {p : Program} {l : Launch} {e : Env} {R : Room} {s : State} {m : MethodId} {args : Array Value} {below : List Frame} {meth : Method} {c : Code} {h0 : Hp} {r : Int32} {h' : Hp}
set_option maxRecDepth 20000 in
theorem X1_sum_b5b_s (C : Cx G p R s m args meth c cX1_sum 5 yX1_sum.cls h0 h') (hF : R.frames = 1) (hO : R.locals = 21) (hr : meth.sig.returnType = (some .int)) (hm : meth.name = yX1_sum.name)  {k5 : Nat → Int32 → Int32 → Int32 → M Int32} (hk5 : ∀ (a0 : Nat) (i2 : Int32) (i3 : Int32) (i4 : Int32), Sm G (QM G rvI below args s h0 r h') p l e R s m args below meth c 5 h0 r h' 5 [(0, .ref a0), (2, .int i2), (3, .int i3), (4, .int i4)] [] (k5 a0 i2 i3 i4)) (a0 : Nat) (i2 : Int32) (i3 : Int32) (i4 : Int32) : Sm G (QM G rvI below args s h0 r h') p l e R s m args below meth c 5 h0 r h' 5 [(0, .ref a0), (2, .int i2), (3, .int i3), (4, .int i4)] [] (X1_sum_b5b  k5 a0 i2 i3 i4) := by
  refine s_iload C 3 dX1_sum_5 rfl ?_
  refine s_iload_n C 1 dX1_sum_7 rfl rfl ?_
  refine s_icmp_ge (tgt := 56) C dX1_sum_8 (by decide) ?_ ?_
  · refine s_iload_n C 2 dX1_sum_56 rfl rfl ?_
    refine s_iconst (v := (-1)) C dX1_sum_57 (by decide) ?_
    refine s_ixor C dX1_sum_58 ?_
    exact s_iret C hr rfl dX1_sum_59
  refine s_iload_n C 2 dX1_sum_11 rfl rfl ?_
  refine s_aload_n C 0 dX1_sum_12 rfl rfl ?_
  refine s_iload C 3 dX1_sum_13 rfl ?_
  refine s_invV_i C ci4 cy_X1_at (Or.inl wd_3_160) rfl wd_2_127 wd_2_128 (con_X1_at l G a0 i4) rfl rfl (Nat.le_of_ble_eq_true rfl) (by rw [hF]; decide) (by rw [hO]; exact Nat.le_of_ble_eq_true rfl) dX1_sum_15 (fun x1 => ?_)
  refine s_sipush (v := 255) C dX1_sum_18 (by decide) ?_
  refine s_iand C dX1_sum_21 ?_
  refine s_ixor C dX1_sum_22 ?_
  refine s_let (fun x2 => ?_)
  refine s_istore_n (lv' := [(3, .int x2), (0, .ref a0), (2, .int i2), (4, .int i4)]) C dX1_sum_23 rfl (by decide) rfl ?_
  refine s_iload_n C 0 dX1_sum_24 rfl rfl ?_
  refine s_iconst (v := 4) C dX1_sum_25 (by decide) ?_
  refine s_iushr C dX1_sum_26 ?_
  refine s_gS C wd_3_161 dX1_sum_27 ?_
  refine s_iload_n C 0 dX1_sum_30 rfl rfl ?_
  refine s_bipush (v := 15) C dX1_sum_31 (by decide) ?_
  refine s_iand C dX1_sum_33 ?_
  refine s_tb C dX1_sum_34 (fun x3 => ?_)
  refine s_ixor C dX1_sum_35 ?_
  refine s_let (fun x4 => ?_)
  refine s_istore_n (lv' := [(3, .int x4), (0, .ref a0), (2, .int i2), (4, .int i4)]) C dX1_sum_36 rfl (by decide) rfl ?_
  refine s_iload_n C 0 dX1_sum_37 rfl rfl ?_
  refine s_iconst (v := 4) C dX1_sum_38 (by decide) ?_
  refine s_iushr C dX1_sum_39 ?_
  refine s_gS C wd_3_161 dX1_sum_40 ?_
  refine s_iload_n C 0 dX1_sum_43 rfl rfl ?_
  refine s_bipush (v := 15) C dX1_sum_44 (by decide) ?_
  refine s_iand C dX1_sum_46 ?_
  refine s_tb C dX1_sum_47 (fun x5 => ?_)
  refine s_ixor C dX1_sum_48 ?_
  refine s_let (fun x6 => ?_)
  refine s_istore_n (lv' := [(3, .int x6), (0, .ref a0), (2, .int i2), (4, .int i4)]) C dX1_sum_49 rfl (by decide) rfl ?_
  refine s_iincK (lv' := [(4, .int (i4 + 1)), (3, .int x6), (0, .ref a0), (2, .int i2)]) (w := 1) C 3 dX1_sum_50 rfl (by decide) (by decide) rfl ?_
  refine s_goto (tgt := 5) C dX1_sum_53 (by decide) ?_
  refine s_sub [2, 3, 1, 0] rfl ?_
  exact hk5 a0 i2 x6 (i4 + 1)
set_option maxRecDepth 20000 in
theorem X1_sum_b5_s (C : Cx G p R s m args meth c cX1_sum 5 yX1_sum.cls h0 h') (hF : R.frames = 1) (hO : R.locals = 21) (hr : meth.sig.returnType = (some .int)) (hm : meth.name = yX1_sum.name)  (n : Nat) : ∀ (a0 : Nat) (i2 : Int32) (i3 : Int32) (i4 : Int32), Sm G (QM G rvI below args s h0 r h') p l e R s m args below meth c 5 h0 r h' 5 [(0, .ref a0), (2, .int i2), (3, .int i3), (4, .int i4)] [] (X1_sum_b5  n a0 i2 i3 i4) := by
  induction n with
  | zero => intro a0 i2 i3 i4; exact s_fl
  | succ n ih => intro a0 i2 i3 i4; exact X1_sum_b5b_s C hF hO hr hm  ih a0 i2 i3 i4
end
set_option maxRecDepth 20000 in
theorem con_X1_sum (l : Launch) (G : Gx) (a0 : Nat) (i1 : Int32) (i2 : Int32) : Con G rvI l yX1_sum cX1_sum 5 (some .int) 1 21 [.ref a0, .int i1, .int i2] (X1_sum a0 i1 i2) := by
  refine con_of (lv := [(0, .ref a0), (1, .int i1), (2, .int i2)]) (by decide) (Nat.le_of_ble_eq_true rfl) rfl (fun p e R s m args below meth c h0 r h' C hF hO hr hm => ?_)
  refine s_iconst (v := (-1)) C dX1_sum_0 (by decide) ?_
  refine s_let (fun x1 => ?_)
  refine s_istore_n (lv' := [(3, .int x1), (0, .ref a0), (1, .int i1), (2, .int i2)]) C dX1_sum_1 rfl (by decide) rfl ?_
  refine s_iload_n C 2 dX1_sum_2 rfl rfl ?_
  refine s_istore (lv' := [(4, .int i1), (3, .int x1), (0, .ref a0), (1, .int i1), (2, .int i2)]) C dX1_sum_3 (by decide) rfl ?_
  refine s_sub [2, 4, 1, 0] rfl ?_
  exact X1_sum_b5_s C hF hO hr hm  FU a0 i2 x1 i1

theorem dX1_compare_0 : decode cX1_compare 0 = .ok (.aload_n 0, 1) := by decide +kernel
theorem dX1_compare_1 : decode cX1_compare 1 = .ok (.getfield 15, 3) := by decide +kernel
theorem dX1_compare_4 : decode cX1_compare 4 = .ok (.iload_n 3, 1) := by decide +kernel
theorem dX1_compare_5 : decode cX1_compare 5 = .ok (.invokestatic 47, 3) := by decide +kernel
theorem dX1_compare_8 : decode cX1_compare 8 = .ok (.istore 4, 2) := by decide +kernel
theorem dX1_compare_10 : decode cX1_compare 10 = .ok (.iconst 0, 1) := by decide +kernel
theorem dX1_compare_11 : decode cX1_compare 11 = .ok (.istore 5, 2) := by decide +kernel
theorem dX1_compare_13 : decode cX1_compare 13 = .ok (.iload 5, 2) := by decide +kernel
theorem dX1_compare_15 : decode cX1_compare 15 = .ok (.iload 4, 2) := by decide +kernel
theorem dX1_compare_17 : decode cX1_compare 17 = .ok (.if_icmp .ge 34, 3) := by decide +kernel
theorem dX1_compare_20 : decode cX1_compare 20 = .ok (.aload_n 0, 1) := by decide +kernel
theorem dX1_compare_21 : decode cX1_compare 21 = .ok (.iload 5, 2) := by decide +kernel
theorem dX1_compare_23 : decode cX1_compare 23 = .ok (.invokevirtual 19, 3) := by decide +kernel
theorem dX1_compare_26 : decode cX1_compare 26 = .ok (.aload_n 1, 1) := by decide +kernel
theorem dX1_compare_27 : decode cX1_compare 27 = .ok (.iload_n 2, 1) := by decide +kernel
theorem dX1_compare_28 : decode cX1_compare 28 = .ok (.iload 5, 2) := by decide +kernel
theorem dX1_compare_30 : decode cX1_compare 30 = .ok (.iadd, 1) := by decide +kernel
theorem dX1_compare_31 : decode cX1_compare 31 = .ok (.invokevirtual 19, 3) := by decide +kernel
theorem dX1_compare_34 : decode cX1_compare 34 = .ok (.isub, 1) := by decide +kernel
theorem dX1_compare_35 : decode cX1_compare 35 = .ok (.istore 6, 2) := by decide +kernel
theorem dX1_compare_37 : decode cX1_compare 37 = .ok (.iload 6, 2) := by decide +kernel
theorem dX1_compare_39 : decode cX1_compare 39 = .ok (.ifCond .eq 6, 3) := by decide +kernel
theorem dX1_compare_42 : decode cX1_compare 42 = .ok (.iload 6, 2) := by decide +kernel
theorem dX1_compare_44 : decode cX1_compare 44 = .ok (.ireturn, 1) := by decide +kernel
theorem dX1_compare_45 : decode cX1_compare 45 = .ok (.iinc 5 1, 3) := by decide +kernel
theorem dX1_compare_48 : decode cX1_compare 48 = .ok (.goto (-35), 3) := by decide +kernel
theorem dX1_compare_51 : decode cX1_compare 51 = .ok (.aload_n 0, 1) := by decide +kernel
theorem dX1_compare_52 : decode cX1_compare 52 = .ok (.getfield 15, 3) := by decide +kernel
theorem dX1_compare_55 : decode cX1_compare 55 = .ok (.iload_n 3, 1) := by decide +kernel
theorem dX1_compare_56 : decode cX1_compare 56 = .ok (.isub, 1) := by decide +kernel
theorem dX1_compare_57 : decode cX1_compare 57 = .ok (.ireturn, 1) := by decide +kernel
def X1_compare_b13b  (k13 : Nat → Nat → Int32 → Int32 → Int32 → Int32 → M Int32) (a0 : Nat) (a1 : Nat) (i2 : Int32) (i3 : Int32) (i4 : Int32) (i5 : Int32) : M Int32 := it (i4 ≤ i5) (bd (gI 4 1 a0) (fun x1 => pu (x1 - i3))) (bd (ck 4 a0) (fun _ => bd (X1_at a0 i5) (fun x2 => bd (ck 4 a1) (fun _ => bd (X1_at a1 (i2 + i5)) (fun x3 => bd (pu (x2 - x3)) (fun x4 => it (x4 = 0) (k13 a0 a1 i2 i3 i4 (i5 + 1)) (pu x4)))))))
def X1_compare_b13  : Nat → Nat → Nat → Int32 → Int32 → Int32 → Int32 → M Int32
  | 0 => fun _ _ _ _ _ _ => fl
  | n + 1 => fun a0 a1 i2 i3 i4 i5 => X1_compare_b13b  (X1_compare_b13  n) a0 a1 i2 i3 i4 i5
def X1_compare (a0 : Nat) (a1 : Nat) (i2 : Int32) (i3 : Int32) : M Int32 := bd (gI 4 1 a0) (fun x1 => bd (pu (imn x1 i3)) (fun x2 => X1_compare_b13  FU a0 a1 i2 i3 x2 0))
section
variable {G : Gx} {p : Program} {l : Launch} {e : Env} {R : Room} {s : State} {m : MethodId} {args : Array Value} {below : List Frame} {meth : Method} {c : Code} {h0 : Hp} {r : Int32} {h' : Hp}
set_option maxRecDepth 20000 in
theorem X1_compare_b13b_s (C : Cx G p R s m args meth c cX1_compare 7 yX1_compare.cls h0 h') (hF : R.frames = 1) (hO : R.locals = 30) (hr : meth.sig.returnType = (some .int)) (hm : meth.name = yX1_compare.name)  {k13 : Nat → Nat → Int32 → Int32 → Int32 → Int32 → M Int32} (hk13 : ∀ (a0 : Nat) (a1 : Nat) (i2 : Int32) (i3 : Int32) (i4 : Int32) (i5 : Int32), Sm G (QM G rvI below args s h0 r h') p l e R s m args below meth c 7 h0 r h' 13 [(0, .ref a0), (1, .ref a1), (2, .int i2), (3, .int i3), (4, .int i4), (5, .int i5)] [] (k13 a0 a1 i2 i3 i4 i5)) (a0 : Nat) (a1 : Nat) (i2 : Int32) (i3 : Int32) (i4 : Int32) (i5 : Int32) : Sm G (QM G rvI below args s h0 r h') p l e R s m args below meth c 7 h0 r h' 13 [(0, .ref a0), (1, .ref a1), (2, .int i2), (3, .int i3), (4, .int i4), (5, .int i5)] [] (X1_compare_b13b  k13 a0 a1 i2 i3 i4 i5) := by
  refine s_iload C 5 dX1_compare_13 rfl ?_
  refine s_iload C 4 dX1_compare_15 rfl ?_
  refine s_icmp_ge (tgt := 51) C dX1_compare_17 (by decide) ?_ ?_
  · refine s_aload_n C 0 dX1_compare_51 rfl rfl ?_
    refine s_gI C ci4 1 (by decide) (Or.inl wd_1_48) dX1_compare_52 (fun x1 => ?_)
    refine s_iload_n C 3 dX1_compare_55 rfl rfl ?_
    refine s_isub C dX1_compare_56 ?_
    exact s_iret C hr rfl dX1_compare_57
  refine s_aload_n C 0 dX1_compare_20 rfl rfl ?_
  refine s_iload C 5 dX1_compare_21 rfl ?_
  refine s_invV_i C ci4 cy_X1_at (Or.inl wd_3_160) rfl wd_2_127 wd_2_128 (con_X1_at l G a0 i5) rfl rfl (Nat.le_of_ble_eq_true rfl) (by rw [hF]; decide) (by rw [hO]; exact Nat.le_of_ble_eq_true rfl) dX1_compare_23 (fun x2 => ?_)
  refine s_aload_n C 1 dX1_compare_26 rfl rfl ?_
  refine s_iload_n C 2 dX1_compare_27 rfl rfl ?_
  refine s_iload C 5 dX1_compare_28 rfl ?_
  refine s_iadd C dX1_compare_30 ?_
  refine s_invV_i C ci4 cy_X1_at (Or.inl wd_3_160) rfl wd_2_127 wd_2_128 (con_X1_at l G a1 (i2 + i5)) rfl rfl (Nat.le_of_ble_eq_true rfl) (by rw [hF]; decide) (by rw [hO]; exact Nat.le_of_ble_eq_true rfl) dX1_compare_31 (fun x3 => ?_)
  refine s_isub C dX1_compare_34 ?_
  refine s_let (fun x4 => ?_)
  refine s_istore (lv' := [(6, .int x4), (0, .ref a0), (1, .ref a1), (2, .int i2), (3, .int i3), (4, .int i4), (5, .int i5)]) C dX1_compare_35 (by decide) rfl ?_
  refine s_iload C 0 dX1_compare_37 rfl ?_
  refine s_if_eq (tgt := 45) C dX1_compare_39 (by decide) ?_ ?_
  · refine s_iincK (lv' := [(5, .int (i5 + 1)), (6, .int x4), (0, .ref a0), (1, .ref a1), (2, .int i2), (3, .int i3), (4, .int i4)]) (w := 1) C 6 dX1_compare_45 rfl (by decide) (by decide) rfl ?_
    refine s_goto (tgt := 13) C dX1_compare_48 (by decide) ?_
    refine s_sub [2, 3, 4, 5, 6, 0] rfl ?_
    exact hk13 a0 a1 i2 i3 i4 (i5 + 1)
  refine s_iload C 0 dX1_compare_42 rfl ?_
  exact s_iret C hr rfl dX1_compare_44
set_option maxRecDepth 20000 in
theorem X1_compare_b13_s (C : Cx G p R s m args meth c cX1_compare 7 yX1_compare.cls h0 h') (hF : R.frames = 1) (hO : R.locals = 30) (hr : meth.sig.returnType = (some .int)) (hm : meth.name = yX1_compare.name)  (n : Nat) : ∀ (a0 : Nat) (a1 : Nat) (i2 : Int32) (i3 : Int32) (i4 : Int32) (i5 : Int32), Sm G (QM G rvI below args s h0 r h') p l e R s m args below meth c 7 h0 r h' 13 [(0, .ref a0), (1, .ref a1), (2, .int i2), (3, .int i3), (4, .int i4), (5, .int i5)] [] (X1_compare_b13  n a0 a1 i2 i3 i4 i5) := by
  induction n with
  | zero => intro a0 a1 i2 i3 i4 i5; exact s_fl
  | succ n ih => intro a0 a1 i2 i3 i4 i5; exact X1_compare_b13b_s C hF hO hr hm  ih a0 a1 i2 i3 i4 i5
end
set_option maxRecDepth 20000 in
theorem con_X1_compare (l : Launch) (G : Gx) (a0 : Nat) (a1 : Nat) (i2 : Int32) (i3 : Int32) : Con G rvI l yX1_compare cX1_compare 7 (some .int) 1 30 [.ref a0, .ref a1, .int i2, .int i3] (X1_compare a0 a1 i2 i3) := by
  refine con_of (lv := [(0, .ref a0), (1, .ref a1), (2, .int i2), (3, .int i3)]) (by decide) (Nat.le_of_ble_eq_true rfl) rfl (fun p e R s m args below meth c h0 r h' C hF hO hr hm => ?_)
  refine s_aload_n C 0 dX1_compare_0 rfl rfl ?_
  refine s_gI C ci4 1 (by decide) (Or.inl wd_1_48) dX1_compare_1 (fun x1 => ?_)
  refine s_iload_n C 3 dX1_compare_4 rfl rfl ?_
  refine s_mmin C wd_5_43 wd_2_55 wd_1_14 wd_2_56 (by rw [hF]; decide) (by rw [hO]; exact Nat.le_of_ble_eq_true rfl) dX1_compare_5 ?_
  refine s_let (fun x2 => ?_)
  refine s_istore (lv' := [(4, .int x2), (0, .ref a0), (1, .ref a1), (2, .int i2), (3, .int i3)]) C dX1_compare_8 (by decide) rfl ?_
  refine s_iconst (v := 0) C dX1_compare_10 (by decide) ?_
  refine s_istore (lv' := [(5, .int 0), (4, .int x2), (0, .ref a0), (1, .ref a1), (2, .int i2), (3, .int i3)]) C dX1_compare_11 (by decide) rfl ?_
  refine s_sub [2, 3, 4, 5, 1, 0] rfl ?_
  exact X1_compare_b13_s C hF hO hr hm  FU a0 a1 i2 i3 x2 0
