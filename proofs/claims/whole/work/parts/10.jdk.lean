theorem dJxa1e45_init_da8c8_0 : decode cJxa1e45_init_da8c8 0 = .ok (.aload_n 0, 1) := by decide +kernel
theorem dJxa1e45_init_da8c8_1 : decode cJxa1e45_init_da8c8 1 = .ok (.invokespecial 1, 3) := by decide +kernel
theorem dJxa1e45_init_da8c8_4 : decode cJxa1e45_init_da8c8 4 = .ok (.return_, 1) := by decide +kernel
def Jxa1e45_init_da8c8 (a0 : Nat) : M Unit := pu ()
section
variable {G : Gx} {p : Program} {l : Launch} {e : Env} {R : Room} {s : State} {m : MethodId} {args : Array Value} {below : List Frame} {meth : Method} {c : Code} {h0 : Hp} {r : Unit} {h' : Hp}
end
set_option maxRecDepth 20000 in
theorem con_Jxa1e45_init_da8c8 (l : Launch) (G : Gx) (a0 : Nat) : Con G rvU l yJxa1e45_init_da8c8 cJxa1e45_init_da8c8 1 none 1 30 [.ref a0] (Jxa1e45_init_da8c8 a0) := by
  refine con_of (lv := [(0, .ref a0)]) (by decide) (Nat.le_of_ble_eq_true rfl) rfl (fun p e R s m args below meth c h0 r h' C hF hO hr hm => ?_)
  refine s_aload_n C 0 dJxa1e45_init_da8c8_0 rfl rfl ?_
  refine s_obj C wd_1_72 wd_1_39 wd_1_40 (by rw [hF]; decide) (by rw [hO]; exact Nat.le_of_ble_eq_true rfl) dJxa1e45_init_da8c8_1 ?_
  exact s_vret C hr rfl dJxa1e45_init_da8c8_4

theorem dJxc12de_init_da8c8_0 : decode cJxc12de_init_da8c8 0 = .ok (.aload_n 0, 1) := by decide +kernel
theorem dJxc12de_init_da8c8_1 : decode cJxc12de_init_da8c8 1 = .ok (.invokespecial 1, 3) := by decide +kernel
theorem dJxc12de_init_da8c8_4 : decode cJxc12de_init_da8c8 4 = .ok (.aload_n 0, 1) := by decide +kernel
theorem dJxc12de_init_da8c8_5 : decode cJxc12de_init_da8c8 5 = .ok (.iconst 0, 1) := by decide +kernel
theorem dJxc12de_init_da8c8_6 : decode cJxc12de_init_da8c8 6 = .ok (.putfield 7, 3) := by decide +kernel
theorem dJxc12de_init_da8c8_9 : decode cJxc12de_init_da8c8 9 = .ok (.return_, 1) := by decide +kernel
def Jxc12de_init_da8c8 (a0 : Nat) : M Unit := bd (Jxa1e45_init_da8c8 a0) (fun _ => bd (pV 2 0 a0 (.int 0)) (fun _ => pu ()))
section
variable {G : Gx} {p : Program} {l : Launch} {e : Env} {R : Room} {s : State} {m : MethodId} {args : Array Value} {below : List Frame} {meth : Method} {c : Code} {h0 : Hp} {r : Unit} {h' : Hp}
end
set_option maxRecDepth 20000 in
theorem con_Jxc12de_init_da8c8 (l : Launch) (G : Gx) (a0 : Nat) : Con G rvU l yJxc12de_init_da8c8 cJxc12de_init_da8c8 1 none 2 50 [.ref a0] (Jxc12de_init_da8c8 a0) := by
  refine con_of (lv := [(0, .ref a0)]) (by decide) (Nat.le_of_ble_eq_true rfl) rfl (fun p e R s m args below meth c h0 r h' C hF hO hr hm => ?_)
  refine s_aload_n C 0 dJxc12de_init_da8c8_0 rfl rfl ?_
  refine s_invI_u C cy_Jxa1e45_init_da8c8 (Or.inl wd_1_69) rfl wd_1_70 (con_Jxa1e45_init_da8c8 l G a0) rfl rfl (Nat.le_of_ble_eq_true rfl) (by rw [hF]; decide) (by rw [hO]; exact Nat.le_of_ble_eq_true rfl) dJxc12de_init_da8c8_1 ?_
  refine s_aload_n C 0 dJxc12de_init_da8c8_4 rfl rfl ?_
  refine s_iconst (v := 0) C dJxc12de_init_da8c8_5 (by decide) ?_
  refine s_pV C ci2 0 (by decide) rfl (Or.inl wd_1_77) dJxc12de_init_da8c8_6 rfl rfl ?_
  exact s_vret C hr rfl dJxc12de_init_da8c8_9

theorem dJx4a65c_init_da8c8_0 : decode cJx4a65c_init_da8c8 0 = .ok (.aload_n 0, 1) := by decide +kernel
theorem dJx4a65c_init_da8c8_1 : decode cJx4a65c_init_da8c8 1 = .ok (.invokespecial 1, 3) := by decide +kernel
theorem dJx4a65c_init_da8c8_4 : decode cJx4a65c_init_da8c8 4 = .ok (.aload_n 0, 1) := by decide +kernel
theorem dJx4a65c_init_da8c8_5 : decode cJx4a65c_init_da8c8 5 = .ok (.getstatic 39, 3) := by decide +kernel
theorem dJx4a65c_init_da8c8_8 : decode cJx4a65c_init_da8c8 8 = .ok (.putfield 9, 3) := by decide +kernel
theorem dJx4a65c_init_da8c8_11 : decode cJx4a65c_init_da8c8 11 = .ok (.return_, 1) := by decide +kernel
def Jx4a65c_init_da8c8 (a0 : Nat) : M Unit := bd (Jxc12de_init_da8c8 a0) (fun _ => bd (ge) (fun y1 => bd (pV 2 1 a0 (.ref y1)) (fun _ => pu ())))
section
variable {G : Gx} {p : Program} {l : Launch} {e : Env} {R : Room} {s : State} {m : MethodId} {args : Array Value} {below : List Frame} {meth : Method} {c : Code} {h0 : Hp} {r : Unit} {h' : Hp}
end
set_option maxRecDepth 20000 in
theorem con_Jx4a65c_init_da8c8 (l : Launch) (G : Gx) (a0 : Nat) : Con G rvU l yJx4a65c_init_da8c8 cJx4a65c_init_da8c8 1 none 3 70 [.ref a0] (Jx4a65c_init_da8c8 a0) := by
  refine con_of (lv := [(0, .ref a0)]) (by decide) (Nat.le_of_ble_eq_true rfl) rfl (fun p e R s m args below meth c h0 r h' C hF hO hr hm => ?_)
  refine s_aload_n C 0 dJx4a65c_init_da8c8_0 rfl rfl ?_
  refine s_invI_u C cy_Jxc12de_init_da8c8 (Or.inl wd_1_66) rfl wd_1_67 (con_Jxc12de_init_da8c8 l G a0) rfl rfl (Nat.le_of_ble_eq_true rfl) (by rw [hF]; decide) (by rw [hO]; exact Nat.le_of_ble_eq_true rfl) dJx4a65c_init_da8c8_1 ?_
  refine s_aload_n C 0 dJx4a65c_init_da8c8_4 rfl rfl ?_
  refine s_gE C wd_1_73 dJx4a65c_init_da8c8_5 (fun y1 => ?_)
  refine s_pV C ci2 1 (by decide) rfl (Or.inl wd_1_75) dJx4a65c_init_da8c8_8 rfl rfl ?_
  exact s_vret C hr rfl dJx4a65c_init_da8c8_11

theorem dJx4a65c_size_8abf5_0 : decode cJx4a65c_size_8abf5 0 = .ok (.aload_n 0, 1) := by decide +kernel
theorem dJx4a65c_size_8abf5_1 : decode cJx4a65c_size_8abf5 1 = .ok (.getfield 48, 3) := by decide +kernel
theorem dJx4a65c_size_8abf5_4 : decode cJx4a65c_size_8abf5 4 = .ok (.ireturn, 1) := by decide +kernel
def Jx4a65c_size_8abf5 (a0 : Nat) : M Int32 := bd (gI 2 2 a0) (fun x1 => pu x1)
section
variable {G : Gx} {p : Program} {l : Launch} {e : Env} {R : Room} {s : State} {m : MethodId} {args : Array Value} {below : List Frame} {meth : Method} {c : Code} {h0 : Hp} {r : Int32} {h' : Hp}
end
set_option maxRecDepth 20000 in
theorem con_Jx4a65c_size_8abf5 (l : Launch) (G : Gx) (a0 : Nat) : Con G rvI l yJx4a65c_size_8abf5 cJx4a65c_size_8abf5 1 (some .int) 0 0 [.ref a0] (Jx4a65c_size_8abf5 a0) := by
  refine con_of (lv := [(0, .ref a0)]) (by decide) (Nat.le_of_ble_eq_true rfl) rfl (fun p e R s m args below meth c h0 r h' C hF hO hr hm => ?_)
  refine s_aload_n C 0 dJx4a65c_size_8abf5_0 rfl rfl ?_
  refine s_gI C ci2 2 (by decide) (Or.inl wd_1_76) dJx4a65c_size_8abf5_1 (fun x1 => ?_)
  exact s_iret C hr rfl dJx4a65c_size_8abf5_4

theorem dJx4a65c_isEmpty_aae02_0 : decode cJx4a65c_isEmpty_aae02 0 = .ok (.aload_n 0, 1) := by decide +kernel
theorem dJx4a65c_isEmpty_aae02_1 : decode cJx4a65c_isEmpty_aae02 1 = .ok (.getfield 48, 3) := by decide +kernel
theorem dJx4a65c_isEmpty_aae02_4 : decode cJx4a65c_isEmpty_aae02 4 = .ok (.ifCond .ne 7, 3) := by decide +kernel
theorem dJx4a65c_isEmpty_aae02_7 : decode cJx4a65c_isEmpty_aae02 7 = .ok (.iconst 1, 1) := by decide +kernel
theorem dJx4a65c_isEmpty_aae02_8 : decode cJx4a65c_isEmpty_aae02 8 = .ok (.goto 4, 3) := by decide +kernel
theorem dJx4a65c_isEmpty_aae02_11 : decode cJx4a65c_isEmpty_aae02 11 = .ok (.iconst 0, 1) := by decide +kernel
theorem dJx4a65c_isEmpty_aae02_12 : decode cJx4a65c_isEmpty_aae02 12 = .ok (.ireturn, 1) := by decide +kernel
def Jx4a65c_isEmpty_aae02 (a0 : Nat) : M Int32 := bd (gI 2 2 a0) (fun x1 => it (¬ x1 = 0) (pu 0) (pu 1))
section
variable {G : Gx} {p : Program} {l : Launch} {e : Env} {R : Room} {s : State} {m : MethodId} {args : Array Value} {below : List Frame} {meth : Method} {c : Code} {h0 : Hp} {r : Int32} {h' : Hp}
end
set_option maxRecDepth 20000 in
theorem con_Jx4a65c_isEmpty_aae02 (l : Launch) (G : Gx) (a0 : Nat) : Con G rvI l yJx4a65c_isEmpty_aae02 cJx4a65c_isEmpty_aae02 1 (some .boolean) 0 0 [.ref a0] (Jx4a65c_isEmpty_aae02 a0) := by
  refine con_of (lv := [(0, .ref a0)]) (by decide) (Nat.le_of_ble_eq_true rfl) rfl (fun p e R s m args below meth c h0 r h' C hF hO hr hm => ?_)
  refine s_aload_n C 0 dJx4a65c_isEmpty_aae02_0 rfl rfl ?_
  refine s_gI C ci2 2 (by decide) (Or.inl wd_1_76) dJx4a65c_isEmpty_aae02_1 (fun x1 => ?_)
  refine s_if_ne (tgt := 11) C dJx4a65c_isEmpty_aae02_4 (by decide) ?_ ?_
  · refine s_iconst (v := 0) C dJx4a65c_isEmpty_aae02_11 (by decide) ?_
    exact s_zret C hr rfl (Or.inl rfl) dJx4a65c_isEmpty_aae02_12
  refine s_iconst (v := 1) C dJx4a65c_isEmpty_aae02_7 (by decide) ?_
  refine s_goto (tgt := 12) C dJx4a65c_isEmpty_aae02_8 (by decide) ?_
  exact s_zret C hr rfl (Or.inr rfl) dJx4a65c_isEmpty_aae02_12

theorem dJ3_checkIndex_8e157_0 : decode cJ3_checkIndex_8e157 0 = .ok (.iload_n 0, 1) := by decide +kernel
theorem dJ3_checkIndex_8e157_1 : decode cJ3_checkIndex_8e157 1 = .ok (.ifCond .lt 8, 3) := by decide +kernel
theorem dJ3_checkIndex_8e157_4 : decode cJ3_checkIndex_8e157 4 = .ok (.iload_n 0, 1) := by decide +kernel
theorem dJ3_checkIndex_8e157_5 : decode cJ3_checkIndex_8e157 5 = .ok (.iload_n 1, 1) := by decide +kernel
theorem dJ3_checkIndex_8e157_6 : decode cJ3_checkIndex_8e157 6 = .ok (.if_icmp .lt 10, 3) := by decide +kernel
theorem dJ3_checkIndex_8e157_9 : decode cJ3_checkIndex_8e157 9 = .ok (.aload_n 2, 1) := by decide +kernel
theorem dJ3_checkIndex_8e157_10 : decode cJ3_checkIndex_8e157 10 = .ok (.iload_n 0, 1) := by decide +kernel
theorem dJ3_checkIndex_8e157_11 : decode cJ3_checkIndex_8e157 11 = .ok (.iload_n 1, 1) := by decide +kernel
theorem dJ3_checkIndex_8e157_12 : decode cJ3_checkIndex_8e157 12 = .ok (.invokestatic 95, 3) := by decide +kernel
theorem dJ3_checkIndex_8e157_16 : decode cJ3_checkIndex_8e157 16 = .ok (.iload_n 0, 1) := by decide +kernel
theorem dJ3_checkIndex_8e157_17 : decode cJ3_checkIndex_8e157 17 = .ok (.ireturn, 1) := by decide +kernel
def J3_checkIndex_8e157_b9   (i0 : Int32) (i1 : Int32) (o2 : Option Nat) : M Int32 := fl
def J3_checkIndex_8e157 (i0 : Int32) (i1 : Int32) : M Int32 := it (i0 < 0) (J3_checkIndex_8e157_b9   i0 i1 none) (it (i0 < i1) (pu i0) (J3_checkIndex_8e157_b9   i0 i1 none))
section
variable {G : Gx} {p : Program} {l : Launch} {e : Env} {R : Room} {s : State} {m : MethodId} {args : Array Value} {below : List Frame} {meth : Method} {c : Code} {h0 : Hp} {r : Int32} {h' : Hp}
set_option maxRecDepth 20000 in
theorem J3_checkIndex_8e157_b9_s (C : Cx G p R s m args meth c cJ3_checkIndex_8e157 3 yJ3_checkIndex_8e157.cls h0 h') (hF : R.frames = 0) (hO : R.locals = 0) (hr : meth.sig.returnType = (some .int)) (hm : meth.name = yJ3_checkIndex_8e157.name)   (i0 : Int32) (i1 : Int32) (o2 : Option Nat) : Sm G (QM G rvI below args s h0 r h') p l e R s m args below meth c 3 h0 r h' 9 [(0, .int i0), (1, .int i1), (2, va_rf o2)] [] (J3_checkIndex_8e157_b9   i0 i1 o2) := by
  refine s_oload_n C 2 dJ3_checkIndex_8e157_9 rfl rfl ?_
  refine s_iload_n C 0 dJ3_checkIndex_8e157_10 rfl rfl ?_
  refine s_iload_n C 1 dJ3_checkIndex_8e157_11 rfl rfl ?_
  exact s_fl
end
set_option maxRecDepth 20000 in
theorem con_J3_checkIndex_8e157 (l : Launch) (G : Gx) (i0 : Int32) (i1 : Int32) : Con G rvI l yJ3_checkIndex_8e157 cJ3_checkIndex_8e157 3 (some .int) 0 0 [.int i0, .int i1, va_rf none] (J3_checkIndex_8e157 i0 i1) := by
  refine con_of (lv := [(0, .int i0), (1, .int i1), (2, va_rf none)]) (by decide) (Nat.le_of_ble_eq_true rfl) rfl (fun p e R s m args below meth c h0 r h' C hF hO hr hm => ?_)
  refine s_iload_n C 0 dJ3_checkIndex_8e157_0 rfl rfl ?_
  refine s_if_lt (tgt := 9) C dJ3_checkIndex_8e157_1 (by decide) ?_ ?_
  · exact J3_checkIndex_8e157_b9_s C hF hO hr hm   i0 i1 none
  refine s_iload_n C 0 dJ3_checkIndex_8e157_4 rfl rfl ?_
  refine s_iload_n C 1 dJ3_checkIndex_8e157_5 rfl rfl ?_
  refine s_icmp_lt (tgt := 16) C dJ3_checkIndex_8e157_6 (by decide) ?_ ?_
  · refine s_iload_n C 0 dJ3_checkIndex_8e157_16 rfl rfl ?_
    exact s_iret C hr rfl dJ3_checkIndex_8e157_17
  exact J3_checkIndex_8e157_b9_s C hF hO hr hm   i0 i1 none

theorem dJ15_checkIndex_7cf53_0 : decode cJ15_checkIndex_7cf53 0 = .ok (.iload_n 0, 1) := by decide +kernel
theorem dJ15_checkIndex_7cf53_1 : decode cJ15_checkIndex_7cf53 1 = .ok (.iload_n 1, 1) := by decide +kernel
theorem dJ15_checkIndex_7cf53_2 : decode cJ15_checkIndex_7cf53 2 = .ok (.aconst_null, 1) := by decide +kernel
theorem dJ15_checkIndex_7cf53_3 : decode cJ15_checkIndex_7cf53 3 = .ok (.invokestatic 105, 3) := by decide +kernel
theorem dJ15_checkIndex_7cf53_6 : decode cJ15_checkIndex_7cf53 6 = .ok (.ireturn, 1) := by decide +kernel
def J15_checkIndex_7cf53 (i0 : Int32) (i1 : Int32) : M Int32 := bd (J3_checkIndex_8e157 i0 i1) (fun x1 => pu x1)
section
variable {G : Gx} {p : Program} {l : Launch} {e : Env} {R : Room} {s : State} {m : MethodId} {args : Array Value} {below : List Frame} {meth : Method} {c : Code} {h0 : Hp} {r : Int32} {h' : Hp}
end
set_option maxRecDepth 20000 in
theorem con_J15_checkIndex_7cf53 (l : Launch) (G : Gx) (i0 : Int32) (i1 : Int32) : Con G rvI l yJ15_checkIndex_7cf53 cJ15_checkIndex_7cf53 2 (some .int) 1 22 [.int i0, .int i1] (J15_checkIndex_7cf53 i0 i1) := by
  refine con_of (lv := [(0, .int i0), (1, .int i1)]) (by decide) (Nat.le_of_ble_eq_true rfl) rfl (fun p e R s m args below meth c h0 r h' C hF hO hr hm => ?_)
  refine s_iload_n C 0 dJ15_checkIndex_7cf53_0 rfl rfl ?_
  refine s_iload_n C 1 dJ15_checkIndex_7cf53_1 rfl rfl ?_
  refine s_nullO C dJ15_checkIndex_7cf53_2 ?_
  refine s_invS_i C cy_J3_checkIndex_8e157 (Or.inl wd_1_227) wd_1_228 (con_J3_checkIndex_8e157 l G i0 i1) rfl rfl (Nat.le_of_ble_eq_true rfl) (by rw [hF]; decide) (by rw [hO]; exact Nat.le_of_ble_eq_true rfl) dJ15_checkIndex_7cf53_3 (fun x1 => ?_)
  exact s_iret C hr rfl dJ15_checkIndex_7cf53_6

theorem dJx4a65c_elementData_915e3_0 : decode cJx4a65c_elementData_915e3 0 = .ok (.aload_n 0, 1) := by decide +kernel
theorem dJx4a65c_elementData_915e3_1 : decode cJx4a65c_elementData_915e3 1 = .ok (.getfield 9, 3) := by decide +kernel
theorem dJx4a65c_elementData_915e3_4 : decode cJx4a65c_elementData_915e3 4 = .ok (.iload_n 1, 1) := by decide +kernel
theorem dJx4a65c_elementData_915e3_5 : decode cJx4a65c_elementData_915e3 5 = .ok (.aaload, 1) := by decide +kernel
theorem dJx4a65c_elementData_915e3_6 : decode cJx4a65c_elementData_915e3 6 = .ok (.areturn, 1) := by decide +kernel
def Jx4a65c_elementData_915e3 (a0 : Nat) (i1 : Int32) : M Nat := bd (gR 2 1 a0) (fun y1 => bd (ao y1 i1) (fun y2 => pu y2))
section
variable {G : Gx} {p : Program} {l : Launch} {e : Env} {R : Room} {s : State} {m : MethodId} {args : Array Value} {below : List Frame} {meth : Method} {c : Code} {h0 : Hp} {r : Nat} {h' : Hp}
end
set_option maxRecDepth 20000 in
theorem con_Jx4a65c_elementData_915e3 (l : Launch) (G : Gx) (a0 : Nat) (i1 : Int32) : Con G rvR l yJx4a65c_elementData_915e3 cJx4a65c_elementData_915e3 2 (some (.object "java/lang/Object")) 0 0 [.ref a0, .int i1] (Jx4a65c_elementData_915e3 a0 i1) := by
  refine con_of (lv := [(0, .ref a0), (1, .int i1)]) (by decide) (Nat.le_of_ble_eq_true rfl) rfl (fun p e R s m args below meth c h0 r h' C hF hO hr hm => ?_)
  refine s_aload_n C 0 dJx4a65c_elementData_915e3_0 rfl rfl ?_
  refine s_gR C ci2 1 (by decide) (Or.inl wd_1_75) dJx4a65c_elementData_915e3_1 (fun y1 => ?_)
  refine s_iload_n C 1 dJx4a65c_elementData_915e3_4 rfl rfl ?_
  refine s_ao C dJx4a65c_elementData_915e3_5 (fun y2 => ?_)
  exact s_aret (v := some y2) C hr (by first | exact Or.inl ⟨_, rfl⟩ | exact Or.inr ⟨_, rfl⟩) rfl dJx4a65c_elementData_915e3_6

theorem dJx4a65c_get_915e3_0 : decode cJx4a65c_get_915e3 0 = .ok (.iload_n 1, 1) := by decide +kernel
theorem dJx4a65c_get_915e3_1 : decode cJx4a65c_get_915e3 1 = .ok (.aload_n 0, 1) := by decide +kernel
theorem dJx4a65c_get_915e3_2 : decode cJx4a65c_get_915e3 2 = .ok (.getfield 48, 3) := by decide +kernel
theorem dJx4a65c_get_915e3_5 : decode cJx4a65c_get_915e3 5 = .ok (.invokestatic 118, 3) := by decide +kernel
theorem dJx4a65c_get_915e3_8 : decode cJx4a65c_get_915e3 8 = .ok (.pop, 1) := by decide +kernel
theorem dJx4a65c_get_915e3_9 : decode cJx4a65c_get_915e3 9 = .ok (.aload_n 0, 1) := by decide +kernel
theorem dJx4a65c_get_915e3_10 : decode cJx4a65c_get_915e3 10 = .ok (.iload_n 1, 1) := by decide +kernel
theorem dJx4a65c_get_915e3_11 : decode cJx4a65c_get_915e3 11 = .ok (.invokevirtual 123, 3) := by decide +kernel
theorem dJx4a65c_get_915e3_14 : decode cJx4a65c_get_915e3 14 = .ok (.areturn, 1) := by decide +kernel
def Jx4a65c_get_915e3 (a0 : Nat) (i1 : Int32) : M Nat := bd (gI 2 2 a0) (fun x1 => bd (J15_checkIndex_7cf53 i1 x1) (fun x2 => bd (ck 2 a0) (fun _ => bd (Jx4a65c_elementData_915e3 a0 i1) (fun y3 => pu y3))))
section
variable {G : Gx} {p : Program} {l : Launch} {e : Env} {R : Room} {s : State} {m : MethodId} {args : Array Value} {below : List Frame} {meth : Method} {c : Code} {h0 : Hp} {r : Nat} {h' : Hp}
end
set_option maxRecDepth 20000 in
theorem con_Jx4a65c_get_915e3 (l : Launch) (G : Gx) (a0 : Nat) (i1 : Int32) : Con G rvR l yJx4a65c_get_915e3 cJx4a65c_get_915e3 2 (some (.object "java/lang/Object")) 2 43 [.ref a0, .int i1] (Jx4a65c_get_915e3 a0 i1) := by
  refine con_of (lv := [(0, .ref a0), (1, .int i1)]) (by decide) (Nat.le_of_ble_eq_true rfl) rfl (fun p e R s m args below meth c h0 r h' C hF hO hr hm => ?_)
  refine s_iload_n C 1 dJx4a65c_get_915e3_0 rfl rfl ?_
  refine s_aload_n C 0 dJx4a65c_get_915e3_1 rfl rfl ?_
  refine s_gI C ci2 2 (by decide) (Or.inl wd_1_76) dJx4a65c_get_915e3_2 (fun x1 => ?_)
  refine s_invS_i C cy_J15_checkIndex_7cf53 (Or.inl wd_1_224) wd_1_225 (con_J15_checkIndex_7cf53 l G i1 x1) rfl rfl (Nat.le_of_ble_eq_true rfl) (by rw [hF]; decide) (by rw [hO]; exact Nat.le_of_ble_eq_true rfl) dJx4a65c_get_915e3_5 (fun x2 => ?_)
  refine s_pop C dJx4a65c_get_915e3_8 rfl ?_
  refine s_aload_n C 0 dJx4a65c_get_915e3_9 rfl rfl ?_
  refine s_iload_n C 1 dJx4a65c_get_915e3_10 rfl rfl ?_
  refine s_invV_r C ci2 cy_Jx4a65c_elementData_915e3 (Or.inl wd_2_142) rfl wd_2_143 wd_2_144 (con_Jx4a65c_elementData_915e3 l G a0 i1) rfl rfl (Nat.le_of_ble_eq_true rfl) (by rw [hF]; decide) (by rw [hO]; exact Nat.le_of_ble_eq_true rfl) dJx4a65c_get_915e3_11 (fun y3 => ?_)
  exact s_aret (v := some y3) C hr (by first | exact Or.inl ⟨_, rfl⟩ | exact Or.inr ⟨_, rfl⟩) rfl dJx4a65c_get_915e3_14

theorem dJ8_newLength_cabcc_0 : decode cJ8_newLength_cabcc 0 = .ok (.iload_n 0, 1) := by decide +kernel
theorem dJ8_newLength_cabcc_1 : decode cJ8_newLength_cabcc 1 = .ok (.iload_n 1, 1) := by decide +kernel
theorem dJ8_newLength_cabcc_2 : decode cJ8_newLength_cabcc 2 = .ok (.iload_n 2, 1) := by decide +kernel
theorem dJ8_newLength_cabcc_3 : decode cJ8_newLength_cabcc 3 = .ok (.invokestatic 194, 3) := by decide +kernel
theorem dJ8_newLength_cabcc_6 : decode cJ8_newLength_cabcc 6 = .ok (.iadd, 1) := by decide +kernel
theorem dJ8_newLength_cabcc_7 : decode cJ8_newLength_cabcc 7 = .ok (.istore_n 3, 1) := by decide +kernel
theorem dJ8_newLength_cabcc_8 : decode cJ8_newLength_cabcc 8 = .ok (.iconst 0, 1) := by decide +kernel
theorem dJ8_newLength_cabcc_9 : decode cJ8_newLength_cabcc 9 = .ok (.iload_n 3, 1) := by decide +kernel
theorem dJ8_newLength_cabcc_10 : decode cJ8_newLength_cabcc 10 = .ok (.if_icmp .ge 11, 3) := by decide +kernel
theorem dJ8_newLength_cabcc_13 : decode cJ8_newLength_cabcc 13 = .ok (.iload_n 3, 1) := by decide +kernel
theorem dJ8_newLength_cabcc_14 : decode cJ8_newLength_cabcc 14 = .ok (.ldc 200, 2) := by decide +kernel
theorem dJ8_newLength_cabcc_16 : decode cJ8_newLength_cabcc 16 = .ok (.if_icmp .gt 5, 3) := by decide +kernel
theorem dJ8_newLength_cabcc_19 : decode cJ8_newLength_cabcc 19 = .ok (.iload_n 3, 1) := by decide +kernel
theorem dJ8_newLength_cabcc_20 : decode cJ8_newLength_cabcc 20 = .ok (.ireturn, 1) := by decide +kernel
theorem dJ8_newLength_cabcc_21 : decode cJ8_newLength_cabcc 21 = .ok (.iload_n 0, 1) := by decide +kernel
theorem dJ8_newLength_cabcc_22 : decode cJ8_newLength_cabcc 22 = .ok (.iload_n 1, 1) := by decide +kernel
theorem dJ8_newLength_cabcc_23 : decode cJ8_newLength_cabcc 23 = .ok (.invokestatic 201, 3) := by decide +kernel
def J8_newLength_cabcc_b21   (i0 : Int32) (i1 : Int32) : M Int32 := fl
def J8_newLength_cabcc (i0 : Int32) (i1 : Int32) (i2 : Int32) : M Int32 := bd (pu (i0 + (imx i1 i2))) (fun x1 => it (x1 ≤ 0) (J8_newLength_cabcc_b21   i0 i1) (it (2147483639 < x1) (J8_newLength_cabcc_b21   i0 i1) (pu x1)))
section
variable {G : Gx} {p : Program} {l : Launch} {e : Env} {R : Room} {s : State} {m : MethodId} {args : Array Value} {below : List Frame} {meth : Method} {c : Code} {h0 : Hp} {r : Int32} {h' : Hp}
set_option maxRecDepth 20000 in
theorem J8_newLength_cabcc_b21_s (C : Cx G p R s m args meth c cJ8_newLength_cabcc 4 yJ8_newLength_cabcc.cls h0 h') (hF : R.frames = 1) (hO : R.locals = 30) (hr : meth.sig.returnType = (some .int)) (hm : meth.name = yJ8_newLength_cabcc.name)   (i0 : Int32) (i1 : Int32) : Sm G (QM G rvI below args s h0 r h') p l e R s m args below meth c 4 h0 r h' 21 [(0, .int i0), (1, .int i1)] [] (J8_newLength_cabcc_b21   i0 i1) := by
  refine s_iload_n C 0 dJ8_newLength_cabcc_21 rfl rfl ?_
  refine s_iload_n C 1 dJ8_newLength_cabcc_22 rfl rfl ?_
  exact s_fl
end
set_option maxRecDepth 20000 in
theorem con_J8_newLength_cabcc (l : Launch) (G : Gx) (i0 : Int32) (i1 : Int32) (i2 : Int32) : Con G rvI l yJ8_newLength_cabcc cJ8_newLength_cabcc 4 (some .int) 1 30 [.int i0, .int i1, .int i2] (J8_newLength_cabcc i0 i1 i2) := by
  refine con_of (lv := [(0, .int i0), (1, .int i1), (2, .int i2)]) (by decide) (Nat.le_of_ble_eq_true rfl) rfl (fun p e R s m args below meth c h0 r h' C hF hO hr hm => ?_)
  refine s_iload_n C 0 dJ8_newLength_cabcc_0 rfl rfl ?_
  refine s_iload_n C 1 dJ8_newLength_cabcc_1 rfl rfl ?_
  refine s_iload_n C 2 dJ8_newLength_cabcc_2 rfl rfl ?_
  refine s_mmax C wd_2_17 wd_2_18 wd_1_14 wd_2_19 (by rw [hF]; decide) (by rw [hO]; exact Nat.le_of_ble_eq_true rfl) dJ8_newLength_cabcc_3 ?_
  refine s_iadd C dJ8_newLength_cabcc_6 ?_
  refine s_let (fun x1 => ?_)
  refine s_istore_n (lv' := [(3, .int x1), (0, .int i0), (1, .int i1), (2, .int i2)]) C dJ8_newLength_cabcc_7 rfl (by decide) rfl ?_
  refine s_iconst (v := 0) C dJ8_newLength_cabcc_8 (by decide) ?_
  refine s_iload_n C 0 dJ8_newLength_cabcc_9 rfl rfl ?_
  refine s_icmp_ge (tgt := 21) C dJ8_newLength_cabcc_10 (by decide) ?_ ?_
  · refine s_sub [1, 2] rfl ?_
    exact J8_newLength_cabcc_b21_s C hF hO hr hm   i0 i1
  refine s_iload_n C 0 dJ8_newLength_cabcc_13 rfl rfl ?_
  refine s_ldc C dJ8_newLength_cabcc_14 wd_2_20 ?_
  refine s_icmp_gt (tgt := 21) C dJ8_newLength_cabcc_16 (by decide) ?_ ?_
  · refine s_sub [1, 2] rfl ?_
    exact J8_newLength_cabcc_b21_s C hF hO hr hm   i0 i1
  refine s_iload_n C 0 dJ8_newLength_cabcc_19 rfl rfl ?_
  exact s_iret C hr rfl dJ8_newLength_cabcc_20

theorem dJ7_copyOf_6403c_0 : decode cJ7_copyOf_6403c 0 = .ok (.aload_n 2, 1) := by decide +kernel
theorem dJ7_copyOf_6403c_1 : decode cJ7_copyOf_6403c 1 = .ok (.ldc 110, 2) := by decide +kernel
theorem dJ7_copyOf_6403c_3 : decode cJ7_copyOf_6403c 3 = .ok (.if_acmp .ne 10, 3) := by decide +kernel
theorem dJ7_copyOf_6403c_6 : decode cJ7_copyOf_6403c 6 = .ok (.iload_n 1, 1) := by decide +kernel
theorem dJ7_copyOf_6403c_7 : decode cJ7_copyOf_6403c 7 = .ok (.anewarray 2, 3) := by decide +kernel
theorem dJ7_copyOf_6403c_10 : decode cJ7_copyOf_6403c 10 = .ok (.goto 14, 3) := by decide +kernel
theorem dJ7_copyOf_6403c_24 : decode cJ7_copyOf_6403c 24 = .ok (.astore_n 3, 1) := by decide +kernel
theorem dJ7_copyOf_6403c_25 : decode cJ7_copyOf_6403c 25 = .ok (.aload_n 0, 1) := by decide +kernel
theorem dJ7_copyOf_6403c_26 : decode cJ7_copyOf_6403c 26 = .ok (.iconst 0, 1) := by decide +kernel
theorem dJ7_copyOf_6403c_27 : decode cJ7_copyOf_6403c 27 = .ok (.aload_n 3, 1) := by decide +kernel
theorem dJ7_copyOf_6403c_28 : decode cJ7_copyOf_6403c 28 = .ok (.iconst 0, 1) := by decide +kernel
theorem dJ7_copyOf_6403c_29 : decode cJ7_copyOf_6403c 29 = .ok (.aload_n 0, 1) := by decide +kernel
theorem dJ7_copyOf_6403c_30 : decode cJ7_copyOf_6403c 30 = .ok (.arraylength, 1) := by decide +kernel
theorem dJ7_copyOf_6403c_31 : decode cJ7_copyOf_6403c 31 = .ok (.iload_n 1, 1) := by decide +kernel
theorem dJ7_copyOf_6403c_32 : decode cJ7_copyOf_6403c 32 = .ok (.invokestatic 304, 3) := by decide +kernel
theorem dJ7_copyOf_6403c_35 : decode cJ7_copyOf_6403c 35 = .ok (.invokestatic 150, 3) := by decide +kernel
theorem dJ7_copyOf_6403c_38 : decode cJ7_copyOf_6403c 38 = .ok (.aload_n 3, 1) := by decide +kernel
theorem dJ7_copyOf_6403c_39 : decode cJ7_copyOf_6403c 39 = .ok (.areturn, 1) := by decide +kernel
def J7_copyOf_6403c (a0 : Nat) (i1 : Int32) : M Nat := bd (na 24 i1) (fun y1 => bd (ay a0) (fun x2 => bd (cr a0 0 y1 0 (imn x2 i1)) (fun _ => pu y1)))
section
variable {G : Gx} {p : Program} {l : Launch} {e : Env} {R : Room} {s : State} {m : MethodId} {args : Array Value} {below : List Frame} {meth : Method} {c : Code} {h0 : Hp} {r : Nat} {h' : Hp}
end
set_option maxRecDepth 20000 in
theorem con_J7_copyOf_6403c (l : Launch) (G : Gx) (a0 : Nat) (i1 : Int32) : Con G rvR l yJ7_copyOf_6403c cJ7_copyOf_6403c 4 (some (.array (.object "java/lang/Object"))) 1 100 [.ref a0, .int i1, .ref (gM G)] (J7_copyOf_6403c a0 i1) := by
  refine con_of (lv := [(0, .ref a0), (1, .int i1), (2, .ref (gM G))]) (by decide) (Nat.le_of_ble_eq_true rfl) rfl (fun p e R s m args below meth c h0 r h' C hF hO hr hm => ?_)
  refine s_aload_n C 2 dJ7_copyOf_6403c_0 rfl rfl ?_
  refine s_ldcM C wd_2_51 dJ7_copyOf_6403c_1 ?_
  refine s_acmpM (tgt := 13) C dJ7_copyOf_6403c_3 (by decide) ?_
  refine s_iload_n C 1 dJ7_copyOf_6403c_6 rfl rfl ?_
  refine s_na24 C wd_2_53 dJ7_copyOf_6403c_7 (fun y1 => ?_)
  refine s_goto (tgt := 24) C dJ7_copyOf_6403c_10 (by decide) ?_
  refine s_astore_n (lv' := [(3, .ref y1), (0, .ref a0), (1, .int i1), (2, .ref (gM G))]) C dJ7_copyOf_6403c_24 rfl (by decide) rfl ?_
  refine s_aload_n C 1 dJ7_copyOf_6403c_25 rfl rfl ?_
  refine s_iconst (v := 0) C dJ7_copyOf_6403c_26 (by decide) ?_
  refine s_aload_n C 0 dJ7_copyOf_6403c_27 rfl rfl ?_
  refine s_iconst (v := 0) C dJ7_copyOf_6403c_28 (by decide) ?_
  refine s_aload_n C 1 dJ7_copyOf_6403c_29 rfl rfl ?_
  refine s_ay C dJ7_copyOf_6403c_30 (fun x2 => ?_)
  refine s_iload_n C 2 dJ7_copyOf_6403c_31 rfl rfl ?_
  refine s_mmin C wd_2_54 wd_2_55 wd_1_14 wd_2_56 (by rw [hF]; decide) (by rw [hO]; exact Nat.le_of_ble_eq_true rfl) dJ7_copyOf_6403c_32 ?_
  refine s_cr C wd_2_57 wd_1_236 wd_1_235 wd_1_12 (by rw [hF]; decide) (by rw [hO]; exact Nat.le_of_ble_eq_true rfl) dJ7_copyOf_6403c_35 ?_
  refine s_aload_n C 0 dJ7_copyOf_6403c_38 rfl rfl ?_
  exact s_aret (v := some y1) C hr (by first | exact Or.inl ⟨_, rfl⟩ | exact Or.inr ⟨_, rfl⟩) rfl dJ7_copyOf_6403c_39

theorem dJ7_copyOf_1904c_0 : decode cJ7_copyOf_1904c 0 = .ok (.aload_n 0, 1) := by decide +kernel
theorem dJ7_copyOf_1904c_1 : decode cJ7_copyOf_1904c 1 = .ok (.iload_n 1, 1) := by decide +kernel
theorem dJ7_copyOf_1904c_2 : decode cJ7_copyOf_1904c 2 = .ok (.aload_n 0, 1) := by decide +kernel
theorem dJ7_copyOf_1904c_3 : decode cJ7_copyOf_1904c 3 = .ok (.invokevirtual 86, 3) := by decide +kernel
theorem dJ7_copyOf_1904c_6 : decode cJ7_copyOf_1904c 6 = .ok (.invokestatic 300, 3) := by decide +kernel
theorem dJ7_copyOf_1904c_9 : decode cJ7_copyOf_1904c 9 = .ok (.areturn, 1) := by decide +kernel
def J7_copyOf_1904c (a0 : Nat) (i1 : Int32) : M Nat := bd (ck 23 a0) (fun _ => bd (J7_copyOf_6403c a0 i1) (fun y1 => pu y1))
section
variable {G : Gx} {p : Program} {l : Launch} {e : Env} {R : Room} {s : State} {m : MethodId} {args : Array Value} {below : List Frame} {meth : Method} {c : Code} {h0 : Hp} {r : Nat} {h' : Hp}
end
set_option maxRecDepth 20000 in
theorem con_J7_copyOf_1904c (l : Launch) (G : Gx) (a0 : Nat) (i1 : Int32) : Con G rvR l yJ7_copyOf_1904c cJ7_copyOf_1904c 2 (some (.array (.object "java/lang/Object"))) 2 123 [.ref a0, .int i1] (J7_copyOf_1904c a0 i1) := by
  refine con_of (lv := [(0, .ref a0), (1, .int i1)]) (by decide) (Nat.le_of_ble_eq_true rfl) rfl (fun p e R s m args below meth c h0 r h' C hF hO hr hm => ?_)
  refine s_aload_n C 0 dJ7_copyOf_1904c_0 rfl rfl ?_
  refine s_iload_n C 1 dJ7_copyOf_1904c_1 rfl rfl ?_
  refine s_aload_n C 0 dJ7_copyOf_1904c_2 rfl rfl ?_
  refine s_getC C wd_2_27 wd_8_93 wd_2_28 wd_2_47 (by rw [hF]; decide) (by rw [hO]; exact Nat.le_of_ble_eq_true rfl) dJ7_copyOf_1904c_3 ?_
  refine s_invS_r C cy_J7_copyOf_6403c (Or.inl wd_2_48) wd_2_49 (con_J7_copyOf_6403c l G a0 i1) rfl rfl (Nat.le_of_ble_eq_true rfl) (by rw [hF]; decide) (by rw [hO]; exact Nat.le_of_ble_eq_true rfl) dJ7_copyOf_1904c_6 (fun y1 => ?_)
  exact s_aret (v := some y1) C hr (by first | exact Or.inl ⟨_, rfl⟩ | exact Or.inr ⟨_, rfl⟩) rfl dJ7_copyOf_1904c_9

theorem dJx4a65c_grow_92f84_0 : decode cJx4a65c_grow_92f84 0 = .ok (.aload_n 0, 1) := by decide +kernel
theorem dJx4a65c_grow_92f84_1 : decode cJx4a65c_grow_92f84 1 = .ok (.getfield 9, 3) := by decide +kernel
theorem dJx4a65c_grow_92f84_4 : decode cJx4a65c_grow_92f84 4 = .ok (.arraylength, 1) := by decide +kernel
theorem dJx4a65c_grow_92f84_5 : decode cJx4a65c_grow_92f84 5 = .ok (.istore_n 2, 1) := by decide +kernel
theorem dJx4a65c_grow_92f84_6 : decode cJx4a65c_grow_92f84 6 = .ok (.iload_n 2, 1) := by decide +kernel
theorem dJx4a65c_grow_92f84_7 : decode cJx4a65c_grow_92f84 7 = .ok (.ifCond .gt 13, 3) := by decide +kernel
theorem dJx4a65c_grow_92f84_10 : decode cJx4a65c_grow_92f84 10 = .ok (.aload_n 0, 1) := by decide +kernel
theorem dJx4a65c_grow_92f84_11 : decode cJx4a65c_grow_92f84 11 = .ok (.getfield 9, 3) := by decide +kernel
theorem dJx4a65c_grow_92f84_14 : decode cJx4a65c_grow_92f84 14 = .ok (.getstatic 39, 3) := by decide +kernel
theorem dJx4a65c_grow_92f84_17 : decode cJx4a65c_grow_92f84 17 = .ok (.if_acmp .eq 28, 3) := by decide +kernel
theorem dJx4a65c_grow_92f84_20 : decode cJx4a65c_grow_92f84 20 = .ok (.iload_n 2, 1) := by decide +kernel
theorem dJx4a65c_grow_92f84_21 : decode cJx4a65c_grow_92f84 21 = .ok (.iload_n 1, 1) := by decide +kernel
theorem dJx4a65c_grow_92f84_22 : decode cJx4a65c_grow_92f84 22 = .ok (.iload_n 2, 1) := by decide +kernel
theorem dJx4a65c_grow_92f84_23 : decode cJx4a65c_grow_92f84 23 = .ok (.isub, 1) := by decide +kernel
theorem dJx4a65c_grow_92f84_24 : decode cJx4a65c_grow_92f84 24 = .ok (.iload_n 2, 1) := by decide +kernel
theorem dJx4a65c_grow_92f84_25 : decode cJx4a65c_grow_92f84 25 = .ok (.iconst 1, 1) := by decide +kernel
theorem dJx4a65c_grow_92f84_26 : decode cJx4a65c_grow_92f84 26 = .ok (.ishr, 1) := by decide +kernel
theorem dJx4a65c_grow_92f84_27 : decode cJx4a65c_grow_92f84 27 = .ok (.invokestatic 73, 3) := by decide +kernel
theorem dJx4a65c_grow_92f84_30 : decode cJx4a65c_grow_92f84 30 = .ok (.istore_n 3, 1) := by decide +kernel
theorem dJx4a65c_grow_92f84_31 : decode cJx4a65c_grow_92f84 31 = .ok (.aload_n 0, 1) := by decide +kernel
theorem dJx4a65c_grow_92f84_32 : decode cJx4a65c_grow_92f84 32 = .ok (.aload_n 0, 1) := by decide +kernel
theorem dJx4a65c_grow_92f84_33 : decode cJx4a65c_grow_92f84 33 = .ok (.getfield 9, 3) := by decide +kernel
theorem dJx4a65c_grow_92f84_36 : decode cJx4a65c_grow_92f84 36 = .ok (.iload_n 3, 1) := by decide +kernel
theorem dJx4a65c_grow_92f84_37 : decode cJx4a65c_grow_92f84 37 = .ok (.invokestatic 66, 3) := by decide +kernel
theorem dJx4a65c_grow_92f84_40 : decode cJx4a65c_grow_92f84 40 = .ok (.dup_x1, 1) := by decide +kernel
theorem dJx4a65c_grow_92f84_41 : decode cJx4a65c_grow_92f84 41 = .ok (.putfield 9, 3) := by decide +kernel
theorem dJx4a65c_grow_92f84_44 : decode cJx4a65c_grow_92f84 44 = .ok (.areturn, 1) := by decide +kernel
theorem dJx4a65c_grow_92f84_45 : decode cJx4a65c_grow_92f84 45 = .ok (.aload_n 0, 1) := by decide +kernel
theorem dJx4a65c_grow_92f84_46 : decode cJx4a65c_grow_92f84 46 = .ok (.bipush 10, 2) := by decide +kernel
theorem dJx4a65c_grow_92f84_48 : decode cJx4a65c_grow_92f84 48 = .ok (.iload_n 1, 1) := by decide +kernel
theorem dJx4a65c_grow_92f84_49 : decode cJx4a65c_grow_92f84 49 = .ok (.invokestatic 79, 3) := by decide +kernel
theorem dJx4a65c_grow_92f84_52 : decode cJx4a65c_grow_92f84 52 = .ok (.anewarray 7, 3) := by decide +kernel
theorem dJx4a65c_grow_92f84_55 : decode cJx4a65c_grow_92f84 55 = .ok (.dup_x1, 1) := by decide +kernel
theorem dJx4a65c_grow_92f84_56 : decode cJx4a65c_grow_92f84 56 = .ok (.putfield 9, 3) := by decide +kernel
theorem dJx4a65c_grow_92f84_59 : decode cJx4a65c_grow_92f84 59 = .ok (.areturn, 1) := by decide +kernel
def Jx4a65c_grow_92f84_b20   (a0 : Nat) (i1 : Int32) (i2 : Int32) : M Nat := bd (J8_newLength_cabcc i2 (i1 - i2) (i2 >>> (1 &&& 31))) (fun x1 => bd (gR 2 1 a0) (fun y2 => bd (J7_copyOf_1904c y2 x1) (fun y3 => bd (pV 2 1 a0 (.ref y3)) (fun _ => pu y3))))
def Jx4a65c_grow_92f84 (a0 : Nat) (i1 : Int32) : M Nat := bd (gR 2 1 a0) (fun y1 => bd (ay y1) (fun x2 => it (0 < x2) (Jx4a65c_grow_92f84_b20   a0 i1 x2) (bd (gR 2 1 a0) (fun y3 => bd (ge) (fun y4 => it ((some y3) = (some y4)) (bd (na 24 (imx 10 i1)) (fun y5 => bd (pV 2 1 a0 (.ref y5)) (fun _ => pu y5))) (Jx4a65c_grow_92f84_b20   a0 i1 x2))))))
section
variable {G : Gx} {p : Program} {l : Launch} {e : Env} {R : Room} {s : State} {m : MethodId} {args : Array Value} {below : List Frame} {meth : Method} {c : Code} {h0 : Hp} {r : Nat} {h' : Hp}
set_option maxRecDepth 20000 in
theorem Jx4a65c_grow_92f84_b20_s (C : Cx G p R s m args meth c cJx4a65c_grow_92f84 4 yJx4a65c_grow_92f84.cls h0 h') (hF : R.frames = 3) (hO : R.locals = 144) (hr : meth.sig.returnType = (some (.array (.object "java/lang/Object")))) (hm : meth.name = yJx4a65c_grow_92f84.name)   (a0 : Nat) (i1 : Int32) (i2 : Int32) : Sm G (QM G rvR below args s h0 r h') p l e R s m args below meth c 4 h0 r h' 20 [(0, .ref a0), (1, .int i1), (2, .int i2)] [] (Jx4a65c_grow_92f84_b20   a0 i1 i2) := by
  refine s_iload_n C 2 dJx4a65c_grow_92f84_20 rfl rfl ?_
  refine s_iload_n C 1 dJx4a65c_grow_92f84_21 rfl rfl ?_
  refine s_iload_n C 2 dJx4a65c_grow_92f84_22 rfl rfl ?_
  refine s_isub C dJx4a65c_grow_92f84_23 ?_
  refine s_iload_n C 2 dJx4a65c_grow_92f84_24 rfl rfl ?_
  refine s_iconst (v := 1) C dJx4a65c_grow_92f84_25 (by decide) ?_
  refine s_ishr C dJx4a65c_grow_92f84_26 ?_
  refine s_invS_i C cy_J8_newLength_cabcc (Or.inl wd_2_14) wd_2_15 (con_J8_newLength_cabcc l G i2 (i1 - i2) (i2 >>> (1 &&& 31))) rfl rfl (Nat.le_of_ble_eq_true rfl) (by rw [hF]; decide) (by rw [hO]; exact Nat.le_of_ble_eq_true rfl) dJx4a65c_grow_92f84_27 (fun x1 => ?_)
  refine s_istore_n (lv' := [(3, .int x1), (0, .ref a0), (1, .int i1), (2, .int i2)]) C dJx4a65c_grow_92f84_30 rfl (by decide) rfl ?_
  refine s_aload_n C 1 dJx4a65c_grow_92f84_31 rfl rfl ?_
  refine s_aload_n C 1 dJx4a65c_grow_92f84_32 rfl rfl ?_
  refine s_gR C ci2 1 (by decide) (Or.inl wd_1_75) dJx4a65c_grow_92f84_33 (fun y2 => ?_)
  refine s_iload_n C 0 dJx4a65c_grow_92f84_36 rfl rfl ?_
  refine s_invS_r C cy_J7_copyOf_1904c (Or.inl wd_2_24) wd_2_25 (con_J7_copyOf_1904c l G y2 x1) rfl rfl (Nat.le_of_ble_eq_true rfl) (by rw [hF]; decide) (by rw [hO]; exact Nat.le_of_ble_eq_true rfl) dJx4a65c_grow_92f84_37 (fun y3 => ?_)
  refine s_dup_x1 C dJx4a65c_grow_92f84_40 rfl rfl ?_
  refine s_pV C ci2 1 (by decide) rfl (Or.inl wd_1_75) dJx4a65c_grow_92f84_41 rfl rfl ?_
  exact s_aret (v := some y3) C hr (by first | exact Or.inl ⟨_, rfl⟩ | exact Or.inr ⟨_, rfl⟩) rfl dJx4a65c_grow_92f84_44
end
set_option maxRecDepth 20000 in
theorem con_Jx4a65c_grow_92f84 (l : Launch) (G : Gx) (a0 : Nat) (i1 : Int32) : Con G rvR l yJx4a65c_grow_92f84 cJx4a65c_grow_92f84 4 (some (.array (.object "java/lang/Object"))) 3 144 [.ref a0, .int i1] (Jx4a65c_grow_92f84 a0 i1) := by
  refine con_of (lv := [(0, .ref a0), (1, .int i1)]) (by decide) (Nat.le_of_ble_eq_true rfl) rfl (fun p e R s m args below meth c h0 r h' C hF hO hr hm => ?_)
  refine s_aload_n C 0 dJx4a65c_grow_92f84_0 rfl rfl ?_
  refine s_gR C ci2 1 (by decide) (Or.inl wd_1_75) dJx4a65c_grow_92f84_1 (fun y1 => ?_)
  refine s_ay C dJx4a65c_grow_92f84_4 (fun x2 => ?_)
  refine s_istore_n (lv' := [(2, .int x2), (0, .ref a0), (1, .int i1)]) C dJx4a65c_grow_92f84_5 rfl (by decide) rfl ?_
  refine s_iload_n C 0 dJx4a65c_grow_92f84_6 rfl rfl ?_
  refine s_if_gt (tgt := 20) C dJx4a65c_grow_92f84_7 (by decide) ?_ ?_
  · refine s_sub [1, 2, 0] rfl ?_
    exact Jx4a65c_grow_92f84_b20_s C hF hO hr hm   a0 i1 x2
  refine s_aload_n C 1 dJx4a65c_grow_92f84_10 rfl rfl ?_
  refine s_gR C ci2 1 (by decide) (Or.inl wd_1_75) dJx4a65c_grow_92f84_11 (fun y3 => ?_)
  refine s_gE C wd_1_73 dJx4a65c_grow_92f84_14 (fun y4 => ?_)
  refine s_acmp_eq (x := (some y3)) (y := (some y4)) (tgt := 45) C dJx4a65c_grow_92f84_17 (by decide) ?_ ?_
  · refine s_aload_n C 1 dJx4a65c_grow_92f84_45 rfl rfl ?_
    refine s_bipush (v := 10) C dJx4a65c_grow_92f84_46 (by decide) ?_
    refine s_iload_n C 2 dJx4a65c_grow_92f84_48 rfl rfl ?_
    refine s_mmax C wd_2_58 wd_2_18 wd_1_14 wd_2_19 (by rw [hF]; decide) (by rw [hO]; exact Nat.le_of_ble_eq_true rfl) dJx4a65c_grow_92f84_49 ?_
    refine s_na24 C wd_2_59 dJx4a65c_grow_92f84_52 (fun y5 => ?_)
    refine s_dup_x1 C dJx4a65c_grow_92f84_55 rfl rfl ?_
    refine s_pV C ci2 1 (by decide) rfl (Or.inl wd_1_75) dJx4a65c_grow_92f84_56 rfl rfl ?_
    exact s_aret (v := some y5) C hr (by first | exact Or.inl ⟨_, rfl⟩ | exact Or.inr ⟨_, rfl⟩) rfl dJx4a65c_grow_92f84_59
  refine s_sub [1, 2, 0] rfl ?_
  exact Jx4a65c_grow_92f84_b20_s C hF hO hr hm   a0 i1 x2

theorem dJx4a65c_grow_d5877_0 : decode cJx4a65c_grow_d5877 0 = .ok (.aload_n 0, 1) := by decide +kernel
theorem dJx4a65c_grow_d5877_1 : decode cJx4a65c_grow_d5877 1 = .ok (.aload_n 0, 1) := by decide +kernel
theorem dJx4a65c_grow_d5877_2 : decode cJx4a65c_grow_d5877 2 = .ok (.getfield 48, 3) := by decide +kernel
theorem dJx4a65c_grow_d5877_5 : decode cJx4a65c_grow_d5877 5 = .ok (.iconst 1, 1) := by decide +kernel
theorem dJx4a65c_grow_d5877_6 : decode cJx4a65c_grow_d5877 6 = .ok (.iadd, 1) := by decide +kernel
theorem dJx4a65c_grow_d5877_7 : decode cJx4a65c_grow_d5877 7 = .ok (.invokevirtual 69, 3) := by decide +kernel
theorem dJx4a65c_grow_d5877_10 : decode cJx4a65c_grow_d5877 10 = .ok (.areturn, 1) := by decide +kernel
def Jx4a65c_grow_d5877 (a0 : Nat) : M Nat := bd (gI 2 2 a0) (fun x1 => bd (ck 2 a0) (fun _ => bd (Jx4a65c_grow_92f84 a0 (x1 + 1)) (fun y2 => pu y2)))
section
variable {G : Gx} {p : Program} {l : Launch} {e : Env} {R : Room} {s : State} {m : MethodId} {args : Array Value} {below : List Frame} {meth : Method} {c : Code} {h0 : Hp} {r : Nat} {h' : Hp}
end
set_option maxRecDepth 20000 in
theorem con_Jx4a65c_grow_d5877 (l : Launch) (G : Gx) (a0 : Nat) : Con G rvR l yJx4a65c_grow_d5877 cJx4a65c_grow_d5877 1 (some (.array (.object "java/lang/Object"))) 4 167 [.ref a0] (Jx4a65c_grow_d5877 a0) := by
  refine con_of (lv := [(0, .ref a0)]) (by decide) (Nat.le_of_ble_eq_true rfl) rfl (fun p e R s m args below meth c h0 r h' C hF hO hr hm => ?_)
  refine s_aload_n C 0 dJx4a65c_grow_d5877_0 rfl rfl ?_
  refine s_aload_n C 0 dJx4a65c_grow_d5877_1 rfl rfl ?_
  refine s_gI C ci2 2 (by decide) (Or.inl wd_1_76) dJx4a65c_grow_d5877_2 (fun x1 => ?_)
  refine s_iconst (v := 1) C dJx4a65c_grow_d5877_5 (by decide) ?_
  refine s_iadd C dJx4a65c_grow_d5877_6 ?_
  refine s_invV_r C ci2 cy_Jx4a65c_grow_92f84 (Or.inl wd_2_10) rfl wd_2_12 wp_5 (con_Jx4a65c_grow_92f84 l G a0 (x1 + 1)) rfl rfl (Nat.le_of_ble_eq_true rfl) (by rw [hF]; decide) (by rw [hO]; exact Nat.le_of_ble_eq_true rfl) dJx4a65c_grow_d5877_7 (fun y2 => ?_)
  exact s_aret (v := some y2) C hr (by first | exact Or.inl ⟨_, rfl⟩ | exact Or.inr ⟨_, rfl⟩) rfl dJx4a65c_grow_d5877_10

theorem dJx4a65c_add_72be8_0 : decode cJx4a65c_add_72be8 0 = .ok (.iload_n 3, 1) := by decide +kernel
theorem dJx4a65c_add_72be8_1 : decode cJx4a65c_add_72be8 1 = .ok (.aload_n 2, 1) := by decide +kernel
theorem dJx4a65c_add_72be8_2 : decode cJx4a65c_add_72be8 2 = .ok (.arraylength, 1) := by decide +kernel
theorem dJx4a65c_add_72be8_3 : decode cJx4a65c_add_72be8 3 = .ok (.if_icmp .ne 8, 3) := by decide +kernel
theorem dJx4a65c_add_72be8_6 : decode cJx4a65c_add_72be8 6 = .ok (.aload_n 0, 1) := by decide +kernel
theorem dJx4a65c_add_72be8_7 : decode cJx4a65c_add_72be8 7 = .ok (.invokevirtual 129, 3) := by decide +kernel
theorem dJx4a65c_add_72be8_10 : decode cJx4a65c_add_72be8 10 = .ok (.astore_n 2, 1) := by decide +kernel
theorem dJx4a65c_add_72be8_11 : decode cJx4a65c_add_72be8 11 = .ok (.aload_n 2, 1) := by decide +kernel
theorem dJx4a65c_add_72be8_12 : decode cJx4a65c_add_72be8 12 = .ok (.iload_n 3, 1) := by decide +kernel
theorem dJx4a65c_add_72be8_13 : decode cJx4a65c_add_72be8 13 = .ok (.aload_n 1, 1) := by decide +kernel
theorem dJx4a65c_add_72be8_14 : decode cJx4a65c_add_72be8 14 = .ok (.aastore, 1) := by decide +kernel
theorem dJx4a65c_add_72be8_15 : decode cJx4a65c_add_72be8 15 = .ok (.aload_n 0, 1) := by decide +kernel
theorem dJx4a65c_add_72be8_16 : decode cJx4a65c_add_72be8 16 = .ok (.iload_n 3, 1) := by decide +kernel
theorem dJx4a65c_add_72be8_17 : decode cJx4a65c_add_72be8 17 = .ok (.iconst 1, 1) := by decide +kernel
theorem dJx4a65c_add_72be8_18 : decode cJx4a65c_add_72be8 18 = .ok (.iadd, 1) := by decide +kernel
theorem dJx4a65c_add_72be8_19 : decode cJx4a65c_add_72be8 19 = .ok (.putfield 48, 3) := by decide +kernel
theorem dJx4a65c_add_72be8_22 : decode cJx4a65c_add_72be8 22 = .ok (.return_, 1) := by decide +kernel
def Jx4a65c_add_72be8_b11   (a0 : Nat) (a1 : Nat) (a2 : Nat) (i3 : Int32) : M Unit := bd (az a2 i3 (some a1)) (fun _ => bd (pV 2 2 a0 (.int (i3 + 1))) (fun _ => pu ()))
def Jx4a65c_add_72be8 (a0 : Nat) (a1 : Nat) (a2 : Nat) (i3 : Int32) : M Unit := bd (ay a2) (fun x1 => it (¬ i3 = x1) (Jx4a65c_add_72be8_b11   a0 a1 a2 i3) (bd (ck 2 a0) (fun _ => bd (Jx4a65c_grow_d5877 a0) (fun y2 => Jx4a65c_add_72be8_b11   a0 a1 y2 i3))))
section
variable {G : Gx} {p : Program} {l : Launch} {e : Env} {R : Room} {s : State} {m : MethodId} {args : Array Value} {below : List Frame} {meth : Method} {c : Code} {h0 : Hp} {r : Unit} {h' : Hp}
set_option maxRecDepth 20000 in
theorem Jx4a65c_add_72be8_b11_s (C : Cx G p R s m args meth c cJx4a65c_add_72be8 4 yJx4a65c_add_72be8.cls h0 h') (hF : R.frames = 5) (hO : R.locals = 187) (hr : meth.sig.returnType = none) (hm : meth.name = yJx4a65c_add_72be8.name)   (a0 : Nat) (a1 : Nat) (a2 : Nat) (i3 : Int32) : Sm G (QM G rvU below args s h0 r h') p l e R s m args below meth c 4 h0 r h' 11 [(0, .ref a0), (1, .ref a1), (2, .ref a2), (3, .int i3)] [] (Jx4a65c_add_72be8_b11   a0 a1 a2 i3) := by
  refine s_aload_n C 2 dJx4a65c_add_72be8_11 rfl rfl ?_
  refine s_iload_n C 3 dJx4a65c_add_72be8_12 rfl rfl ?_
  refine s_aload_n C 1 dJx4a65c_add_72be8_13 rfl rfl ?_
  refine s_az (x := (some a1)) C dJx4a65c_add_72be8_14 ?_
  refine s_aload_n C 0 dJx4a65c_add_72be8_15 rfl rfl ?_
  refine s_iload_n C 3 dJx4a65c_add_72be8_16 rfl rfl ?_
  refine s_iconst (v := 1) C dJx4a65c_add_72be8_17 (by decide) ?_
  refine s_iadd C dJx4a65c_add_72be8_18 ?_
  refine s_pV C ci2 2 (by decide) rfl (Or.inl wd_1_76) dJx4a65c_add_72be8_19 rfl rfl ?_
  exact s_vret C hr rfl dJx4a65c_add_72be8_22
end
set_option maxRecDepth 20000 in
theorem con_Jx4a65c_add_72be8 (l : Launch) (G : Gx) (a0 : Nat) (a1 : Nat) (a2 : Nat) (i3 : Int32) : Con G rvU l yJx4a65c_add_72be8 cJx4a65c_add_72be8 4 none 5 187 [.ref a0, .ref a1, .ref a2, .int i3] (Jx4a65c_add_72be8 a0 a1 a2 i3) := by
  refine con_of (lv := [(0, .ref a0), (1, .ref a1), (2, .ref a2), (3, .int i3)]) (by decide) (Nat.le_of_ble_eq_true rfl) rfl (fun p e R s m args below meth c h0 r h' C hF hO hr hm => ?_)
  refine s_iload_n C 3 dJx4a65c_add_72be8_0 rfl rfl ?_
  refine s_aload_n C 2 dJx4a65c_add_72be8_1 rfl rfl ?_
  refine s_ay C dJx4a65c_add_72be8_2 (fun x1 => ?_)
  refine s_icmp_ne (tgt := 11) C dJx4a65c_add_72be8_3 (by decide) ?_ ?_
  · exact Jx4a65c_add_72be8_b11_s C hF hO hr hm   a0 a1 a2 i3
  refine s_aload_n C 0 dJx4a65c_add_72be8_6 rfl rfl ?_
  refine s_invV_r C ci2 cy_Jx4a65c_grow_d5877 (Or.inl wd_2_6) rfl wd_2_8 wp_4 (con_Jx4a65c_grow_d5877 l G a0) rfl rfl (Nat.le_of_ble_eq_true rfl) (by rw [hF]; decide) (by rw [hO]; exact Nat.le_of_ble_eq_true rfl) dJx4a65c_add_72be8_7 (fun y2 => ?_)
  refine s_astore_n (lv' := [(2, .ref y2), (0, .ref a0), (1, .ref a1), (3, .int i3)]) C dJx4a65c_add_72be8_10 rfl (by decide) rfl ?_
  refine s_sub [1, 2, 0, 3] rfl ?_
  exact Jx4a65c_add_72be8_b11_s C hF hO hr hm   a0 a1 y2 i3

theorem dJx4a65c_add_9ea2d_0 : decode cJx4a65c_add_9ea2d 0 = .ok (.aload_n 0, 1) := by decide +kernel
theorem dJx4a65c_add_9ea2d_1 : decode cJx4a65c_add_9ea2d 1 = .ok (.dup, 1) := by decide +kernel
theorem dJx4a65c_add_9ea2d_2 : decode cJx4a65c_add_9ea2d 2 = .ok (.getfield 63, 3) := by decide +kernel
theorem dJx4a65c_add_9ea2d_5 : decode cJx4a65c_add_9ea2d 5 = .ok (.iconst 1, 1) := by decide +kernel
theorem dJx4a65c_add_9ea2d_6 : decode cJx4a65c_add_9ea2d 6 = .ok (.iadd, 1) := by decide +kernel
theorem dJx4a65c_add_9ea2d_7 : decode cJx4a65c_add_9ea2d 7 = .ok (.putfield 63, 3) := by decide +kernel
theorem dJx4a65c_add_9ea2d_10 : decode cJx4a65c_add_9ea2d 10 = .ok (.aload_n 0, 1) := by decide +kernel
theorem dJx4a65c_add_9ea2d_11 : decode cJx4a65c_add_9ea2d 11 = .ok (.aload_n 1, 1) := by decide +kernel
theorem dJx4a65c_add_9ea2d_12 : decode cJx4a65c_add_9ea2d 12 = .ok (.aload_n 0, 1) := by decide +kernel
theorem dJx4a65c_add_9ea2d_13 : decode cJx4a65c_add_9ea2d 13 = .ok (.getfield 9, 3) := by decide +kernel
theorem dJx4a65c_add_9ea2d_16 : decode cJx4a65c_add_9ea2d 16 = .ok (.aload_n 0, 1) := by decide +kernel
theorem dJx4a65c_add_9ea2d_17 : decode cJx4a65c_add_9ea2d 17 = .ok (.getfield 48, 3) := by decide +kernel
theorem dJx4a65c_add_9ea2d_20 : decode cJx4a65c_add_9ea2d 20 = .ok (.invokevirtual 131, 3) := by decide +kernel
theorem dJx4a65c_add_9ea2d_23 : decode cJx4a65c_add_9ea2d 23 = .ok (.iconst 1, 1) := by decide +kernel
theorem dJx4a65c_add_9ea2d_24 : decode cJx4a65c_add_9ea2d 24 = .ok (.ireturn, 1) := by decide +kernel
def Jx4a65c_add_9ea2d (a0 : Nat) (a1 : Nat) : M Int32 := bd (gI 2 0 a0) (fun x1 => bd (pV 2 0 a0 (.int (x1 + 1))) (fun _ => bd (gR 2 1 a0) (fun y2 => bd (gI 2 2 a0) (fun x3 => bd (ck 2 a0) (fun _ => bd (Jx4a65c_add_72be8 a0 a1 y2 x3) (fun _ => pu 1))))))
section
variable {G : Gx} {p : Program} {l : Launch} {e : Env} {R : Room} {s : State} {m : MethodId} {args : Array Value} {below : List Frame} {meth : Method} {c : Code} {h0 : Hp} {r : Int32} {h' : Hp}
end
set_option maxRecDepth 20000 in
theorem con_Jx4a65c_add_9ea2d (l : Launch) (G : Gx) (a0 : Nat) (a1 : Nat) : Con G rvI l yJx4a65c_add_9ea2d cJx4a65c_add_9ea2d 2 (some .boolean) 6 210 [.ref a0, .ref a1] (Jx4a65c_add_9ea2d a0 a1) := by
  refine con_of (lv := [(0, .ref a0), (1, .ref a1)]) (by decide) (Nat.le_of_ble_eq_true rfl) rfl (fun p e R s m args below meth c h0 r h' C hF hO hr hm => ?_)
  refine s_aload_n C 0 dJx4a65c_add_9ea2d_0 rfl rfl ?_
  refine s_dup C dJx4a65c_add_9ea2d_1 rfl ?_
  refine s_gI C ci2 0 (by decide) (Or.inr (Or.inl ⟨_, wd_1_78, wd_1_79⟩)) dJx4a65c_add_9ea2d_2 (fun x1 => ?_)
  refine s_iconst (v := 1) C dJx4a65c_add_9ea2d_5 (by decide) ?_
  refine s_iadd C dJx4a65c_add_9ea2d_6 ?_
  refine s_pV C ci2 0 (by decide) rfl (Or.inr (Or.inl ⟨_, wd_1_78, wd_1_79⟩)) dJx4a65c_add_9ea2d_7 rfl rfl ?_
  refine s_aload_n C 0 dJx4a65c_add_9ea2d_10 rfl rfl ?_
  refine s_aload_n C 1 dJx4a65c_add_9ea2d_11 rfl rfl ?_
  refine s_aload_n C 0 dJx4a65c_add_9ea2d_12 rfl rfl ?_
  refine s_gR C ci2 1 (by decide) (Or.inl wd_1_75) dJx4a65c_add_9ea2d_13 (fun y2 => ?_)
  refine s_aload_n C 0 dJx4a65c_add_9ea2d_16 rfl rfl ?_
  refine s_gI C ci2 2 (by decide) (Or.inl wd_1_76) dJx4a65c_add_9ea2d_17 (fun x3 => ?_)
  refine s_invV_u C ci2 cy_Jx4a65c_add_72be8 (Or.inl wd_2_2) rfl wd_2_4 wp_3 (con_Jx4a65c_add_72be8 l G a0 a1 y2 x3) rfl rfl (Nat.le_of_ble_eq_true rfl) (by rw [hF]; decide) (by rw [hO]; exact Nat.le_of_ble_eq_true rfl) dJx4a65c_add_9ea2d_20 ?_
  refine s_iconst (v := 1) C dJx4a65c_add_9ea2d_23 (by decide) ?_
  exact s_zret C hr rfl (Or.inr rfl) dJx4a65c_add_9ea2d_24

theorem dJx4a65c_rangeCheckForAdd_d00df_0 : decode cJx4a65c_rangeCheckForAdd_d00df 0 = .ok (.iload_n 1, 1) := by decide +kernel
theorem dJx4a65c_rangeCheckForAdd_d00df_1 : decode cJx4a65c_rangeCheckForAdd_d00df 1 = .ok (.aload_n 0, 1) := by decide +kernel
theorem dJx4a65c_rangeCheckForAdd_d00df_2 : decode cJx4a65c_rangeCheckForAdd_d00df 2 = .ok (.getfield 48, 3) := by decide +kernel
theorem dJx4a65c_rangeCheckForAdd_d00df_5 : decode cJx4a65c_rangeCheckForAdd_d00df 5 = .ok (.if_icmp .gt 7, 3) := by decide +kernel
theorem dJx4a65c_rangeCheckForAdd_d00df_8 : decode cJx4a65c_rangeCheckForAdd_d00df 8 = .ok (.iload_n 1, 1) := by decide +kernel
theorem dJx4a65c_rangeCheckForAdd_d00df_9 : decode cJx4a65c_rangeCheckForAdd_d00df 9 = .ok (.ifCond .ge 16, 3) := by decide +kernel
theorem dJx4a65c_rangeCheckForAdd_d00df_12 : decode cJx4a65c_rangeCheckForAdd_d00df 12 = .ok (.new 187, 3) := by decide +kernel
theorem dJx4a65c_rangeCheckForAdd_d00df_25 : decode cJx4a65c_rangeCheckForAdd_d00df 25 = .ok (.return_, 1) := by decide +kernel
def Jx4a65c_rangeCheckForAdd_d00df_b12    : M Unit := fl
def Jx4a65c_rangeCheckForAdd_d00df (a0 : Nat) (i1 : Int32) : M Unit := bd (gI 2 2 a0) (fun x1 => it (x1 < i1) (Jx4a65c_rangeCheckForAdd_d00df_b12   ) (it (0 ≤ i1) (pu ()) (Jx4a65c_rangeCheckForAdd_d00df_b12   )))
section
variable {G : Gx} {p : Program} {l : Launch} {e : Env} {R : Room} {s : State} {m : MethodId} {args : Array Value} {below : List Frame} {meth : Method} {c : Code} {h0 : Hp} {r : Unit} {h' : Hp}
set_option maxRecDepth 20000 in
theorem Jx4a65c_rangeCheckForAdd_d00df_b12_s (C : Cx G p R s m args meth c cJx4a65c_rangeCheckForAdd_d00df 2 yJx4a65c_rangeCheckForAdd_d00df.cls h0 h') (hF : R.frames = 0) (hO : R.locals = 0) (hr : meth.sig.returnType = none) (hm : meth.name = yJx4a65c_rangeCheckForAdd_d00df.name)    : Sm G (QM G rvU below args s h0 r h') p l e R s m args below meth c 2 h0 r h' 12 [] [] (Jx4a65c_rangeCheckForAdd_d00df_b12   ) := by
  exact s_fl
end
set_option maxRecDepth 20000 in
theorem con_Jx4a65c_rangeCheckForAdd_d00df (l : Launch) (G : Gx) (a0 : Nat) (i1 : Int32) : Con G rvU l yJx4a65c_rangeCheckForAdd_d00df cJx4a65c_rangeCheckForAdd_d00df 2 none 0 0 [.ref a0, .int i1] (Jx4a65c_rangeCheckForAdd_d00df a0 i1) := by
  refine con_of (lv := [(0, .ref a0), (1, .int i1)]) (by decide) (Nat.le_of_ble_eq_true rfl) rfl (fun p e R s m args below meth c h0 r h' C hF hO hr hm => ?_)
  refine s_iload_n C 1 dJx4a65c_rangeCheckForAdd_d00df_0 rfl rfl ?_
  refine s_aload_n C 0 dJx4a65c_rangeCheckForAdd_d00df_1 rfl rfl ?_
  refine s_gI C ci2 2 (by decide) (Or.inl wd_1_76) dJx4a65c_rangeCheckForAdd_d00df_2 (fun x1 => ?_)
  refine s_icmp_gt (tgt := 12) C dJx4a65c_rangeCheckForAdd_d00df_5 (by decide) ?_ ?_
  · refine s_sub [] rfl ?_
    exact Jx4a65c_rangeCheckForAdd_d00df_b12_s C hF hO hr hm   
  refine s_iload_n C 1 dJx4a65c_rangeCheckForAdd_d00df_8 rfl rfl ?_
  refine s_if_ge (tgt := 25) C dJx4a65c_rangeCheckForAdd_d00df_9 (by decide) ?_ ?_
  · exact s_vret C hr rfl dJx4a65c_rangeCheckForAdd_d00df_25
  refine s_sub [] rfl ?_
  exact Jx4a65c_rangeCheckForAdd_d00df_b12_s C hF hO hr hm   

theorem dJx4a65c_add_7a177_0 : decode cJx4a65c_add_7a177 0 = .ok (.aload_n 0, 1) := by decide +kernel
theorem dJx4a65c_add_7a177_1 : decode cJx4a65c_add_7a177 1 = .ok (.iload_n 1, 1) := by decide +kernel
theorem dJx4a65c_add_7a177_2 : decode cJx4a65c_add_7a177 2 = .ok (.invokevirtual 135, 3) := by decide +kernel
theorem dJx4a65c_add_7a177_5 : decode cJx4a65c_add_7a177 5 = .ok (.aload_n 0, 1) := by decide +kernel
theorem dJx4a65c_add_7a177_6 : decode cJx4a65c_add_7a177 6 = .ok (.dup, 1) := by decide +kernel
theorem dJx4a65c_add_7a177_7 : decode cJx4a65c_add_7a177 7 = .ok (.getfield 63, 3) := by decide +kernel
theorem dJx4a65c_add_7a177_10 : decode cJx4a65c_add_7a177 10 = .ok (.iconst 1, 1) := by decide +kernel
theorem dJx4a65c_add_7a177_11 : decode cJx4a65c_add_7a177 11 = .ok (.iadd, 1) := by decide +kernel
theorem dJx4a65c_add_7a177_12 : decode cJx4a65c_add_7a177 12 = .ok (.putfield 63, 3) := by decide +kernel
theorem dJx4a65c_add_7a177_15 : decode cJx4a65c_add_7a177 15 = .ok (.aload_n 0, 1) := by decide +kernel
theorem dJx4a65c_add_7a177_16 : decode cJx4a65c_add_7a177 16 = .ok (.getfield 48, 3) := by decide +kernel
theorem dJx4a65c_add_7a177_19 : decode cJx4a65c_add_7a177 19 = .ok (.dup, 1) := by decide +kernel
theorem dJx4a65c_add_7a177_20 : decode cJx4a65c_add_7a177 20 = .ok (.istore_n 3, 1) := by decide +kernel
theorem dJx4a65c_add_7a177_21 : decode cJx4a65c_add_7a177 21 = .ok (.aload_n 0, 1) := by decide +kernel
theorem dJx4a65c_add_7a177_22 : decode cJx4a65c_add_7a177 22 = .ok (.getfield 9, 3) := by decide +kernel
theorem dJx4a65c_add_7a177_25 : decode cJx4a65c_add_7a177 25 = .ok (.dup, 1) := by decide +kernel
theorem dJx4a65c_add_7a177_26 : decode cJx4a65c_add_7a177 26 = .ok (.astore 4, 2) := by decide +kernel
theorem dJx4a65c_add_7a177_28 : decode cJx4a65c_add_7a177 28 = .ok (.arraylength, 1) := by decide +kernel
theorem dJx4a65c_add_7a177_29 : decode cJx4a65c_add_7a177 29 = .ok (.if_icmp .ne 9, 3) := by decide +kernel
theorem dJx4a65c_add_7a177_32 : decode cJx4a65c_add_7a177 32 = .ok (.aload_n 0, 1) := by decide +kernel
theorem dJx4a65c_add_7a177_33 : decode cJx4a65c_add_7a177 33 = .ok (.invokevirtual 129, 3) := by decide +kernel
theorem dJx4a65c_add_7a177_36 : decode cJx4a65c_add_7a177 36 = .ok (.astore 4, 2) := by decide +kernel
theorem dJx4a65c_add_7a177_38 : decode cJx4a65c_add_7a177 38 = .ok (.aload 4, 2) := by decide +kernel
theorem dJx4a65c_add_7a177_40 : decode cJx4a65c_add_7a177 40 = .ok (.iload_n 1, 1) := by decide +kernel
theorem dJx4a65c_add_7a177_41 : decode cJx4a65c_add_7a177 41 = .ok (.aload 4, 2) := by decide +kernel
theorem dJx4a65c_add_7a177_43 : decode cJx4a65c_add_7a177 43 = .ok (.iload_n 1, 1) := by decide +kernel
theorem dJx4a65c_add_7a177_44 : decode cJx4a65c_add_7a177 44 = .ok (.iconst 1, 1) := by decide +kernel
theorem dJx4a65c_add_7a177_45 : decode cJx4a65c_add_7a177 45 = .ok (.iadd, 1) := by decide +kernel
theorem dJx4a65c_add_7a177_46 : decode cJx4a65c_add_7a177 46 = .ok (.iload_n 3, 1) := by decide +kernel
theorem dJx4a65c_add_7a177_47 : decode cJx4a65c_add_7a177 47 = .ok (.iload_n 1, 1) := by decide +kernel
theorem dJx4a65c_add_7a177_48 : decode cJx4a65c_add_7a177 48 = .ok (.isub, 1) := by decide +kernel
theorem dJx4a65c_add_7a177_49 : decode cJx4a65c_add_7a177 49 = .ok (.invokestatic 112, 3) := by decide +kernel
theorem dJx4a65c_add_7a177_52 : decode cJx4a65c_add_7a177 52 = .ok (.aload 4, 2) := by decide +kernel
theorem dJx4a65c_add_7a177_54 : decode cJx4a65c_add_7a177 54 = .ok (.iload_n 1, 1) := by decide +kernel
theorem dJx4a65c_add_7a177_55 : decode cJx4a65c_add_7a177 55 = .ok (.aload_n 2, 1) := by decide +kernel
theorem dJx4a65c_add_7a177_56 : decode cJx4a65c_add_7a177 56 = .ok (.aastore, 1) := by decide +kernel
theorem dJx4a65c_add_7a177_57 : decode cJx4a65c_add_7a177 57 = .ok (.aload_n 0, 1) := by decide +kernel
theorem dJx4a65c_add_7a177_58 : decode cJx4a65c_add_7a177 58 = .ok (.iload_n 3, 1) := by decide +kernel
theorem dJx4a65c_add_7a177_59 : decode cJx4a65c_add_7a177 59 = .ok (.iconst 1, 1) := by decide +kernel
theorem dJx4a65c_add_7a177_60 : decode cJx4a65c_add_7a177 60 = .ok (.iadd, 1) := by decide +kernel
theorem dJx4a65c_add_7a177_61 : decode cJx4a65c_add_7a177 61 = .ok (.putfield 48, 3) := by decide +kernel
theorem dJx4a65c_add_7a177_64 : decode cJx4a65c_add_7a177 64 = .ok (.return_, 1) := by decide +kernel
def Jx4a65c_add_7a177_b38   (a0 : Nat) (i1 : Int32) (a2 : Nat) (i3 : Int32) (a4 : Nat) : M Unit := bd (cr a4 i1 a4 (i1 + 1) (i3 - i1)) (fun _ => bd (az a4 i1 (some a2)) (fun _ => bd (pV 2 2 a0 (.int (i3 + 1))) (fun _ => pu ())))
def Jx4a65c_add_7a177 (a0 : Nat) (i1 : Int32) (a2 : Nat) : M Unit := bd (ck 2 a0) (fun _ => bd (Jx4a65c_rangeCheckForAdd_d00df a0 i1) (fun _ => bd (gI 2 0 a0) (fun x1 => bd (pV 2 0 a0 (.int (x1 + 1))) (fun _ => bd (gI 2 2 a0) (fun x2 => bd (gR 2 1 a0) (fun y3 => bd (ay y3) (fun x4 => it (¬ x2 = x4) (Jx4a65c_add_7a177_b38   a0 i1 a2 x2 y3) (bd (ck 2 a0) (fun _ => bd (Jx4a65c_grow_d5877 a0) (fun y5 => Jx4a65c_add_7a177_b38   a0 i1 a2 x2 y5))))))))))
section
variable {G : Gx} {p : Program} {l : Launch} {e : Env} {R : Room} {s : State} {m : MethodId} {args : Array Value} {below : List Frame} {meth : Method} {c : Code} {h0 : Hp} {r : Unit} {h' : Hp}
set_option maxRecDepth 20000 in
theorem Jx4a65c_add_7a177_b38_s (C : Cx G p R s m args meth c cJx4a65c_add_7a177 5 yJx4a65c_add_7a177.cls h0 h') (hF : R.frames = 5) (hO : R.locals = 187) (hr : meth.sig.returnType = none) (hm : meth.name = yJx4a65c_add_7a177.name)   (a0 : Nat) (i1 : Int32) (a2 : Nat) (i3 : Int32) (a4 : Nat) : Sm G (QM G rvU below args s h0 r h') p l e R s m args below meth c 5 h0 r h' 38 [(0, .ref a0), (1, .int i1), (2, .ref a2), (3, .int i3), (4, .ref a4)] [] (Jx4a65c_add_7a177_b38   a0 i1 a2 i3 a4) := by
  refine s_aload C 4 dJx4a65c_add_7a177_38 rfl ?_
  refine s_iload_n C 1 dJx4a65c_add_7a177_40 rfl rfl ?_
  refine s_aload C 4 dJx4a65c_add_7a177_41 rfl ?_
  refine s_iload_n C 1 dJx4a65c_add_7a177_43 rfl rfl ?_
  refine s_iconst (v := 1) C dJx4a65c_add_7a177_44 (by decide) ?_
  refine s_iadd C dJx4a65c_add_7a177_45 ?_
  refine s_iload_n C 3 dJx4a65c_add_7a177_46 rfl rfl ?_
  refine s_iload_n C 1 dJx4a65c_add_7a177_47 rfl rfl ?_
  refine s_isub C dJx4a65c_add_7a177_48 ?_
  refine s_cr C wd_1_234 wd_1_236 wd_1_235 wd_1_12 (by rw [hF]; decide) (by rw [hO]; exact Nat.le_of_ble_eq_true rfl) dJx4a65c_add_7a177_49 ?_
  refine s_aload C 4 dJx4a65c_add_7a177_52 rfl ?_
  refine s_iload_n C 1 dJx4a65c_add_7a177_54 rfl rfl ?_
  refine s_aload_n C 2 dJx4a65c_add_7a177_55 rfl rfl ?_
  refine s_az (x := (some a2)) C dJx4a65c_add_7a177_56 ?_
  refine s_aload_n C 0 dJx4a65c_add_7a177_57 rfl rfl ?_
  refine s_iload_n C 3 dJx4a65c_add_7a177_58 rfl rfl ?_
  refine s_iconst (v := 1) C dJx4a65c_add_7a177_59 (by decide) ?_
  refine s_iadd C dJx4a65c_add_7a177_60 ?_
  refine s_pV C ci2 2 (by decide) rfl (Or.inl wd_1_76) dJx4a65c_add_7a177_61 rfl rfl ?_
  exact s_vret C hr rfl dJx4a65c_add_7a177_64
end
set_option maxRecDepth 20000 in
theorem con_Jx4a65c_add_7a177 (l : Launch) (G : Gx) (a0 : Nat) (i1 : Int32) (a2 : Nat) : Con G rvU l yJx4a65c_add_7a177 cJx4a65c_add_7a177 5 none 5 187 [.ref a0, .int i1, .ref a2] (Jx4a65c_add_7a177 a0 i1 a2) := by
  refine con_of (lv := [(0, .ref a0), (1, .int i1), (2, .ref a2)]) (by decide) (Nat.le_of_ble_eq_true rfl) rfl (fun p e R s m args below meth c h0 r h' C hF hO hr hm => ?_)
  refine s_aload_n C 0 dJx4a65c_add_7a177_0 rfl rfl ?_
  refine s_iload_n C 1 dJx4a65c_add_7a177_1 rfl rfl ?_
  refine s_invV_u C ci2 cy_Jx4a65c_rangeCheckForAdd_d00df (Or.inl wd_4_3) rfl wd_4_5 wp_15 (con_Jx4a65c_rangeCheckForAdd_d00df l G a0 i1) rfl rfl (Nat.le_of_ble_eq_true rfl) (by rw [hF]; decide) (by rw [hO]; exact Nat.le_of_ble_eq_true rfl) dJx4a65c_add_7a177_2 ?_
  refine s_aload_n C 0 dJx4a65c_add_7a177_5 rfl rfl ?_
  refine s_dup C dJx4a65c_add_7a177_6 rfl ?_
  refine s_gI C ci2 0 (by decide) (Or.inr (Or.inl ⟨_, wd_1_78, wd_1_79⟩)) dJx4a65c_add_7a177_7 (fun x1 => ?_)
  refine s_iconst (v := 1) C dJx4a65c_add_7a177_10 (by decide) ?_
  refine s_iadd C dJx4a65c_add_7a177_11 ?_
  refine s_pV C ci2 0 (by decide) rfl (Or.inr (Or.inl ⟨_, wd_1_78, wd_1_79⟩)) dJx4a65c_add_7a177_12 rfl rfl ?_
  refine s_aload_n C 0 dJx4a65c_add_7a177_15 rfl rfl ?_
  refine s_gI C ci2 2 (by decide) (Or.inl wd_1_76) dJx4a65c_add_7a177_16 (fun x2 => ?_)
  refine s_dup C dJx4a65c_add_7a177_19 rfl ?_
  refine s_istore_n (lv' := [(3, .int x2), (0, .ref a0), (1, .int i1), (2, .ref a2)]) C dJx4a65c_add_7a177_20 rfl (by decide) rfl ?_
  refine s_aload_n C 1 dJx4a65c_add_7a177_21 rfl rfl ?_
  refine s_gR C ci2 1 (by decide) (Or.inl wd_1_75) dJx4a65c_add_7a177_22 (fun y3 => ?_)
  refine s_dup C dJx4a65c_add_7a177_25 rfl ?_
  refine s_astore (lv' := [(4, .ref y3), (3, .int x2), (0, .ref a0), (1, .int i1), (2, .ref a2)]) C dJx4a65c_add_7a177_26 (by decide) rfl ?_
  refine s_ay C dJx4a65c_add_7a177_28 (fun x4 => ?_)
  refine s_icmp_ne (tgt := 38) C dJx4a65c_add_7a177_29 (by decide) ?_ ?_
  · refine s_sub [2, 3, 4, 1, 0] rfl ?_
    exact Jx4a65c_add_7a177_b38_s C hF hO hr hm   a0 i1 a2 x2 y3
  refine s_aload_n C 2 dJx4a65c_add_7a177_32 rfl rfl ?_
  refine s_invV_r C ci2 cy_Jx4a65c_grow_d5877 (Or.inl wd_2_6) rfl wd_2_8 wp_4 (con_Jx4a65c_grow_d5877 l G a0) rfl rfl (Nat.le_of_ble_eq_true rfl) (by rw [hF]; decide) (by rw [hO]; exact Nat.le_of_ble_eq_true rfl) dJx4a65c_add_7a177_33 (fun y5 => ?_)
  refine s_astore (lv' := [(4, .ref y5), (3, .int x2), (0, .ref a0), (1, .int i1), (2, .ref a2)]) C dJx4a65c_add_7a177_36 (by decide) rfl ?_
  refine s_sub [2, 3, 4, 1, 0] rfl ?_
  exact Jx4a65c_add_7a177_b38_s C hF hO hr hm   a0 i1 a2 x2 y5

theorem dJx4a65c_fastRemove_b59b0_0 : decode cJx4a65c_fastRemove_b59b0 0 = .ok (.aload_n 0, 1) := by decide +kernel
theorem dJx4a65c_fastRemove_b59b0_1 : decode cJx4a65c_fastRemove_b59b0 1 = .ok (.dup, 1) := by decide +kernel
theorem dJx4a65c_fastRemove_b59b0_2 : decode cJx4a65c_fastRemove_b59b0 2 = .ok (.getfield 63, 3) := by decide +kernel
theorem dJx4a65c_fastRemove_b59b0_5 : decode cJx4a65c_fastRemove_b59b0 5 = .ok (.iconst 1, 1) := by decide +kernel
theorem dJx4a65c_fastRemove_b59b0_6 : decode cJx4a65c_fastRemove_b59b0 6 = .ok (.iadd, 1) := by decide +kernel
theorem dJx4a65c_fastRemove_b59b0_7 : decode cJx4a65c_fastRemove_b59b0 7 = .ok (.putfield 63, 3) := by decide +kernel
theorem dJx4a65c_fastRemove_b59b0_10 : decode cJx4a65c_fastRemove_b59b0 10 = .ok (.aload_n 0, 1) := by decide +kernel
theorem dJx4a65c_fastRemove_b59b0_11 : decode cJx4a65c_fastRemove_b59b0 11 = .ok (.getfield 48, 3) := by decide +kernel
theorem dJx4a65c_fastRemove_b59b0_14 : decode cJx4a65c_fastRemove_b59b0 14 = .ok (.iconst 1, 1) := by decide +kernel
theorem dJx4a65c_fastRemove_b59b0_15 : decode cJx4a65c_fastRemove_b59b0 15 = .ok (.isub, 1) := by decide +kernel
theorem dJx4a65c_fastRemove_b59b0_16 : decode cJx4a65c_fastRemove_b59b0 16 = .ok (.dup, 1) := by decide +kernel
theorem dJx4a65c_fastRemove_b59b0_17 : decode cJx4a65c_fastRemove_b59b0 17 = .ok (.istore_n 3, 1) := by decide +kernel
theorem dJx4a65c_fastRemove_b59b0_18 : decode cJx4a65c_fastRemove_b59b0 18 = .ok (.iload_n 2, 1) := by decide +kernel
theorem dJx4a65c_fastRemove_b59b0_19 : decode cJx4a65c_fastRemove_b59b0 19 = .ok (.if_icmp .le 15, 3) := by decide +kernel
theorem dJx4a65c_fastRemove_b59b0_22 : decode cJx4a65c_fastRemove_b59b0 22 = .ok (.aload_n 1, 1) := by decide +kernel
theorem dJx4a65c_fastRemove_b59b0_23 : decode cJx4a65c_fastRemove_b59b0 23 = .ok (.iload_n 2, 1) := by decide +kernel
theorem dJx4a65c_fastRemove_b59b0_24 : decode cJx4a65c_fastRemove_b59b0 24 = .ok (.iconst 1, 1) := by decide +kernel
theorem dJx4a65c_fastRemove_b59b0_25 : decode cJx4a65c_fastRemove_b59b0 25 = .ok (.iadd, 1) := by decide +kernel
theorem dJx4a65c_fastRemove_b59b0_26 : decode cJx4a65c_fastRemove_b59b0 26 = .ok (.aload_n 1, 1) := by decide +kernel
theorem dJx4a65c_fastRemove_b59b0_27 : decode cJx4a65c_fastRemove_b59b0 27 = .ok (.iload_n 2, 1) := by decide +kernel
theorem dJx4a65c_fastRemove_b59b0_28 : decode cJx4a65c_fastRemove_b59b0 28 = .ok (.iload_n 3, 1) := by decide +kernel
theorem dJx4a65c_fastRemove_b59b0_29 : decode cJx4a65c_fastRemove_b59b0 29 = .ok (.iload_n 2, 1) := by decide +kernel
theorem dJx4a65c_fastRemove_b59b0_30 : decode cJx4a65c_fastRemove_b59b0 30 = .ok (.isub, 1) := by decide +kernel
theorem dJx4a65c_fastRemove_b59b0_31 : decode cJx4a65c_fastRemove_b59b0 31 = .ok (.invokestatic 112, 3) := by decide +kernel
theorem dJx4a65c_fastRemove_b59b0_34 : decode cJx4a65c_fastRemove_b59b0 34 = .ok (.aload_n 1, 1) := by decide +kernel
theorem dJx4a65c_fastRemove_b59b0_35 : decode cJx4a65c_fastRemove_b59b0 35 = .ok (.aload_n 0, 1) := by decide +kernel
theorem dJx4a65c_fastRemove_b59b0_36 : decode cJx4a65c_fastRemove_b59b0 36 = .ok (.iload_n 3, 1) := by decide +kernel
theorem dJx4a65c_fastRemove_b59b0_37 : decode cJx4a65c_fastRemove_b59b0 37 = .ok (.dup_x1, 1) := by decide +kernel
theorem dJx4a65c_fastRemove_b59b0_38 : decode cJx4a65c_fastRemove_b59b0 38 = .ok (.putfield 48, 3) := by decide +kernel
theorem dJx4a65c_fastRemove_b59b0_41 : decode cJx4a65c_fastRemove_b59b0 41 = .ok (.aconst_null, 1) := by decide +kernel
theorem dJx4a65c_fastRemove_b59b0_42 : decode cJx4a65c_fastRemove_b59b0 42 = .ok (.aastore, 1) := by decide +kernel
theorem dJx4a65c_fastRemove_b59b0_43 : decode cJx4a65c_fastRemove_b59b0 43 = .ok (.return_, 1) := by decide +kernel
def Jx4a65c_fastRemove_b59b0_b34   (a0 : Nat) (a1 : Nat) (i3 : Int32) : M Unit := bd (pV 2 2 a0 (.int i3)) (fun _ => bd (az a1 i3 none) (fun _ => pu ()))
def Jx4a65c_fastRemove_b59b0 (a0 : Nat) (a1 : Nat) (i2 : Int32) : M Unit := bd (gI 2 0 a0) (fun x1 => bd (pV 2 0 a0 (.int (x1 + 1))) (fun _ => bd (gI 2 2 a0) (fun x2 => bd (pu (x2 - 1)) (fun x3 => it ((x2 - 1) ≤ i2) (Jx4a65c_fastRemove_b59b0_b34   a0 a1 x3) (bd (cr a1 (i2 + 1) a1 i2 (x3 - i2)) (fun _ => Jx4a65c_fastRemove_b59b0_b34   a0 a1 x3))))))
section
variable {G : Gx} {p : Program} {l : Launch} {e : Env} {R : Room} {s : State} {m : MethodId} {args : Array Value} {below : List Frame} {meth : Method} {c : Code} {h0 : Hp} {r : Unit} {h' : Hp}
set_option maxRecDepth 20000 in
theorem Jx4a65c_fastRemove_b59b0_b34_s (C : Cx G p R s m args meth c cJx4a65c_fastRemove_b59b0 4 yJx4a65c_fastRemove_b59b0.cls h0 h') (hF : R.frames = 1) (hO : R.locals = 100) (hr : meth.sig.returnType = none) (hm : meth.name = yJx4a65c_fastRemove_b59b0.name)   (a0 : Nat) (a1 : Nat) (i3 : Int32) : Sm G (QM G rvU below args s h0 r h') p l e R s m args below meth c 4 h0 r h' 34 [(0, .ref a0), (1, .ref a1), (3, .int i3)] [] (Jx4a65c_fastRemove_b59b0_b34   a0 a1 i3) := by
  refine s_aload_n C 1 dJx4a65c_fastRemove_b59b0_34 rfl rfl ?_
  refine s_aload_n C 0 dJx4a65c_fastRemove_b59b0_35 rfl rfl ?_
  refine s_iload_n C 2 dJx4a65c_fastRemove_b59b0_36 rfl rfl ?_
  refine s_dup_x1 C dJx4a65c_fastRemove_b59b0_37 rfl rfl ?_
  refine s_pV C ci2 2 (by decide) rfl (Or.inl wd_1_76) dJx4a65c_fastRemove_b59b0_38 rfl rfl ?_
  refine s_nullO C dJx4a65c_fastRemove_b59b0_41 ?_
  refine s_az (x := none) C dJx4a65c_fastRemove_b59b0_42 ?_
  exact s_vret C hr rfl dJx4a65c_fastRemove_b59b0_43
end
set_option maxRecDepth 20000 in
theorem con_Jx4a65c_fastRemove_b59b0 (l : Launch) (G : Gx) (a0 : Nat) (a1 : Nat) (i2 : Int32) : Con G rvU l yJx4a65c_fastRemove_b59b0 cJx4a65c_fastRemove_b59b0 4 none 1 100 [.ref a0, .ref a1, .int i2] (Jx4a65c_fastRemove_b59b0 a0 a1 i2) := by
  refine con_of (lv := [(0, .ref a0), (1, .ref a1), (2, .int i2)]) (by decide) (Nat.le_of_ble_eq_true rfl) rfl (fun p e R s m args below meth c h0 r h' C hF hO hr hm => ?_)
  refine s_aload_n C 0 dJx4a65c_fastRemove_b59b0_0 rfl rfl ?_
  refine s_dup C dJx4a65c_fastRemove_b59b0_1 rfl ?_
  refine s_gI C ci2 0 (by decide) (Or.inr (Or.inl ⟨_, wd_1_78, wd_1_79⟩)) dJx4a65c_fastRemove_b59b0_2 (fun x1 => ?_)
  refine s_iconst (v := 1) C dJx4a65c_fastRemove_b59b0_5 (by decide) ?_
  refine s_iadd C dJx4a65c_fastRemove_b59b0_6 ?_
  refine s_pV C ci2 0 (by decide) rfl (Or.inr (Or.inl ⟨_, wd_1_78, wd_1_79⟩)) dJx4a65c_fastRemove_b59b0_7 rfl rfl ?_
  refine s_aload_n C 0 dJx4a65c_fastRemove_b59b0_10 rfl rfl ?_
  refine s_gI C ci2 2 (by decide) (Or.inl wd_1_76) dJx4a65c_fastRemove_b59b0_11 (fun x2 => ?_)
  refine s_iconst (v := 1) C dJx4a65c_fastRemove_b59b0_14 (by decide) ?_
  refine s_isub C dJx4a65c_fastRemove_b59b0_15 ?_
  refine s_dup C dJx4a65c_fastRemove_b59b0_16 rfl ?_
  refine s_let (fun x3 => ?_)
  refine s_istore_n (lv' := [(3, .int x3), (0, .ref a0), (1, .ref a1), (2, .int i2)]) C dJx4a65c_fastRemove_b59b0_17 rfl (by decide) rfl ?_
  refine s_iload_n C 3 dJx4a65c_fastRemove_b59b0_18 rfl rfl ?_
  refine s_icmp_le (tgt := 34) C dJx4a65c_fastRemove_b59b0_19 (by decide) ?_ ?_
  · refine s_sub [1, 2, 0] rfl ?_
    exact Jx4a65c_fastRemove_b59b0_b34_s C hF hO hr hm   a0 a1 x3
  refine s_aload_n C 2 dJx4a65c_fastRemove_b59b0_22 rfl rfl ?_
  refine s_iload_n C 3 dJx4a65c_fastRemove_b59b0_23 rfl rfl ?_
  refine s_iconst (v := 1) C dJx4a65c_fastRemove_b59b0_24 (by decide) ?_
  refine s_iadd C dJx4a65c_fastRemove_b59b0_25 ?_
  refine s_aload_n C 2 dJx4a65c_fastRemove_b59b0_26 rfl rfl ?_
  refine s_iload_n C 3 dJx4a65c_fastRemove_b59b0_27 rfl rfl ?_
  refine s_iload_n C 0 dJx4a65c_fastRemove_b59b0_28 rfl rfl ?_
  refine s_iload_n C 3 dJx4a65c_fastRemove_b59b0_29 rfl rfl ?_
  refine s_isub C dJx4a65c_fastRemove_b59b0_30 ?_
  refine s_cr C wd_1_234 wd_1_236 wd_1_235 wd_1_12 (by rw [hF]; decide) (by rw [hO]; exact Nat.le_of_ble_eq_true rfl) dJx4a65c_fastRemove_b59b0_31 ?_
  refine s_sub [1, 2, 0] rfl ?_
  exact Jx4a65c_fastRemove_b59b0_b34_s C hF hO hr hm   a0 a1 x3

theorem dJx4a65c_remove_915e3_0 : decode cJx4a65c_remove_915e3 0 = .ok (.iload_n 1, 1) := by decide +kernel
theorem dJx4a65c_remove_915e3_1 : decode cJx4a65c_remove_915e3 1 = .ok (.aload_n 0, 1) := by decide +kernel
theorem dJx4a65c_remove_915e3_2 : decode cJx4a65c_remove_915e3 2 = .ok (.getfield 48, 3) := by decide +kernel
theorem dJx4a65c_remove_915e3_5 : decode cJx4a65c_remove_915e3 5 = .ok (.invokestatic 118, 3) := by decide +kernel
theorem dJx4a65c_remove_915e3_8 : decode cJx4a65c_remove_915e3 8 = .ok (.pop, 1) := by decide +kernel
theorem dJx4a65c_remove_915e3_9 : decode cJx4a65c_remove_915e3 9 = .ok (.aload_n 0, 1) := by decide +kernel
theorem dJx4a65c_remove_915e3_10 : decode cJx4a65c_remove_915e3 10 = .ok (.getfield 9, 3) := by decide +kernel
theorem dJx4a65c_remove_915e3_13 : decode cJx4a65c_remove_915e3 13 = .ok (.astore_n 2, 1) := by decide +kernel
theorem dJx4a65c_remove_915e3_14 : decode cJx4a65c_remove_915e3 14 = .ok (.aload_n 2, 1) := by decide +kernel
theorem dJx4a65c_remove_915e3_15 : decode cJx4a65c_remove_915e3 15 = .ok (.iload_n 1, 1) := by decide +kernel
theorem dJx4a65c_remove_915e3_16 : decode cJx4a65c_remove_915e3 16 = .ok (.aaload, 1) := by decide +kernel
theorem dJx4a65c_remove_915e3_17 : decode cJx4a65c_remove_915e3 17 = .ok (.astore_n 3, 1) := by decide +kernel
theorem dJx4a65c_remove_915e3_18 : decode cJx4a65c_remove_915e3 18 = .ok (.aload_n 0, 1) := by decide +kernel
theorem dJx4a65c_remove_915e3_19 : decode cJx4a65c_remove_915e3 19 = .ok (.aload_n 2, 1) := by decide +kernel
theorem dJx4a65c_remove_915e3_20 : decode cJx4a65c_remove_915e3 20 = .ok (.iload_n 1, 1) := by decide +kernel
theorem dJx4a65c_remove_915e3_21 : decode cJx4a65c_remove_915e3 21 = .ok (.invokevirtual 144, 3) := by decide +kernel
theorem dJx4a65c_remove_915e3_24 : decode cJx4a65c_remove_915e3 24 = .ok (.aload_n 3, 1) := by decide +kernel
theorem dJx4a65c_remove_915e3_25 : decode cJx4a65c_remove_915e3 25 = .ok (.areturn, 1) := by decide +kernel
def Jx4a65c_remove_915e3 (a0 : Nat) (i1 : Int32) : M Nat := bd (gI 2 2 a0) (fun x1 => bd (J15_checkIndex_7cf53 i1 x1) (fun x2 => bd (gR 2 1 a0) (fun y3 => bd (ao y3 i1) (fun y4 => bd (ck 2 a0) (fun _ => bd (Jx4a65c_fastRemove_b59b0 a0 y3 i1) (fun _ => pu y4))))))
section
variable {G : Gx} {p : Program} {l : Launch} {e : Env} {R : Room} {s : State} {m : MethodId} {args : Array Value} {below : List Frame} {meth : Method} {c : Code} {h0 : Hp} {r : Nat} {h' : Hp}
end
set_option maxRecDepth 20000 in
theorem con_Jx4a65c_remove_915e3 (l : Launch) (G : Gx) (a0 : Nat) (i1 : Int32) : Con G rvR l yJx4a65c_remove_915e3 cJx4a65c_remove_915e3 4 (some (.object "java/lang/Object")) 2 123 [.ref a0, .int i1] (Jx4a65c_remove_915e3 a0 i1) := by
  refine con_of (lv := [(0, .ref a0), (1, .int i1)]) (by decide) (Nat.le_of_ble_eq_true rfl) rfl (fun p e R s m args below meth c h0 r h' C hF hO hr hm => ?_)
  refine s_iload_n C 1 dJx4a65c_remove_915e3_0 rfl rfl ?_
  refine s_aload_n C 0 dJx4a65c_remove_915e3_1 rfl rfl ?_
  refine s_gI C ci2 2 (by decide) (Or.inl wd_1_76) dJx4a65c_remove_915e3_2 (fun x1 => ?_)
  refine s_invS_i C cy_J15_checkIndex_7cf53 (Or.inl wd_1_224) wd_1_225 (con_J15_checkIndex_7cf53 l G i1 x1) rfl rfl (Nat.le_of_ble_eq_true rfl) (by rw [hF]; decide) (by rw [hO]; exact Nat.le_of_ble_eq_true rfl) dJx4a65c_remove_915e3_5 (fun x2 => ?_)
  refine s_pop C dJx4a65c_remove_915e3_8 rfl ?_
  refine s_aload_n C 0 dJx4a65c_remove_915e3_9 rfl rfl ?_
  refine s_gR C ci2 1 (by decide) (Or.inl wd_1_75) dJx4a65c_remove_915e3_10 (fun y3 => ?_)
  refine s_astore_n (lv' := [(2, .ref y3), (0, .ref a0), (1, .int i1)]) C dJx4a65c_remove_915e3_13 rfl (by decide) rfl ?_
  refine s_aload_n C 0 dJx4a65c_remove_915e3_14 rfl rfl ?_
  refine s_iload_n C 2 dJx4a65c_remove_915e3_15 rfl rfl ?_
  refine s_ao C dJx4a65c_remove_915e3_16 (fun y4 => ?_)
  refine s_astore_n (lv' := [(3, .ref y4), (2, .ref y3), (0, .ref a0), (1, .int i1)]) C dJx4a65c_remove_915e3_17 rfl (by decide) rfl ?_
  refine s_aload_n C 2 dJx4a65c_remove_915e3_18 rfl rfl ?_
  refine s_aload_n C 1 dJx4a65c_remove_915e3_19 rfl rfl ?_
  refine s_iload_n C 3 dJx4a65c_remove_915e3_20 rfl rfl ?_
  refine s_invV_u C ci2 cy_Jx4a65c_fastRemove_b59b0 (Or.inl wd_1_230) rfl wd_1_232 wp_2 (con_Jx4a65c_fastRemove_b59b0 l G a0 y3 i1) rfl rfl (Nat.le_of_ble_eq_true rfl) (by rw [hF]; decide) (by rw [hO]; exact Nat.le_of_ble_eq_true rfl) dJx4a65c_remove_915e3_21 ?_
  refine s_aload_n C 0 dJx4a65c_remove_915e3_24 rfl rfl ?_
  exact s_aret (v := some y4) C hr (by first | exact Or.inl ⟨_, rfl⟩ | exact Or.inr ⟨_, rfl⟩) rfl dJx4a65c_remove_915e3_25

theorem dJ7_copyOf_9075b_0 : decode cJ7_copyOf_9075b 0 = .ok (.iload_n 1, 1) := by decide +kernel
theorem dJ7_copyOf_9075b_1 : decode cJ7_copyOf_9075b 1 = .ok (.aload_n 0, 1) := by decide +kernel
theorem dJ7_copyOf_9075b_2 : decode cJ7_copyOf_9075b 2 = .ok (.arraylength, 1) := by decide +kernel
theorem dJ7_copyOf_9075b_3 : decode cJ7_copyOf_9075b 3 = .ok (.if_icmp .ne 11, 3) := by decide +kernel
theorem dJ7_copyOf_9075b_6 : decode cJ7_copyOf_9075b 6 = .ok (.aload_n 0, 1) := by decide +kernel
theorem dJ7_copyOf_9075b_7 : decode cJ7_copyOf_9075b 7 = .ok (.invokevirtual 310, 3) := by decide +kernel
theorem dJ7_copyOf_9075b_14 : decode cJ7_copyOf_9075b 14 = .ok (.iload_n 1, 1) := by decide +kernel
theorem dJ7_copyOf_9075b_15 : decode cJ7_copyOf_9075b 15 = .ok (.newarray .byte, 2) := by decide +kernel
theorem dJ7_copyOf_9075b_17 : decode cJ7_copyOf_9075b 17 = .ok (.astore_n 2, 1) := by decide +kernel
theorem dJ7_copyOf_9075b_18 : decode cJ7_copyOf_9075b 18 = .ok (.aload_n 0, 1) := by decide +kernel
theorem dJ7_copyOf_9075b_19 : decode cJ7_copyOf_9075b 19 = .ok (.iconst 0, 1) := by decide +kernel
theorem dJ7_copyOf_9075b_20 : decode cJ7_copyOf_9075b 20 = .ok (.aload_n 2, 1) := by decide +kernel
theorem dJ7_copyOf_9075b_21 : decode cJ7_copyOf_9075b 21 = .ok (.iconst 0, 1) := by decide +kernel
theorem dJ7_copyOf_9075b_22 : decode cJ7_copyOf_9075b 22 = .ok (.aload_n 0, 1) := by decide +kernel
theorem dJ7_copyOf_9075b_23 : decode cJ7_copyOf_9075b 23 = .ok (.arraylength, 1) := by decide +kernel
theorem dJ7_copyOf_9075b_24 : decode cJ7_copyOf_9075b 24 = .ok (.iload_n 1, 1) := by decide +kernel
theorem dJ7_copyOf_9075b_25 : decode cJ7_copyOf_9075b 25 = .ok (.invokestatic 304, 3) := by decide +kernel
theorem dJ7_copyOf_9075b_28 : decode cJ7_copyOf_9075b 28 = .ok (.invokestatic 150, 3) := by decide +kernel
theorem dJ7_copyOf_9075b_31 : decode cJ7_copyOf_9075b 31 = .ok (.aload_n 2, 1) := by decide +kernel
theorem dJ7_copyOf_9075b_32 : decode cJ7_copyOf_9075b 32 = .ok (.areturn, 1) := by decide +kernel
def J7_copyOf_9075b (a0 : Nat) (i1 : Int32) : M Nat := bd (ay a0) (fun x1 => it (¬ i1 = x1) (bd (na 21 i1) (fun y2 => bd (ay a0) (fun x3 => bd (cb a0 0 y2 0 (imn x3 i1)) (fun _ => pu y2)))) (fl))
section
variable {G : Gx} {p : Program} {l : Launch} {e : Env} {R : Room} {s : State} {m : MethodId} {args : Array Value} {below : List Frame} {meth : Method} {c : Code} {h0 : Hp} {r : Nat} {h' : Hp}
end
set_option maxRecDepth 20000 in
theorem con_J7_copyOf_9075b (l : Launch) (G : Gx) (a0 : Nat) (i1 : Int32) : Con G rvR l yJ7_copyOf_9075b cJ7_copyOf_9075b 3 (some (.array .byte)) 1 100 [.ref a0, .int i1] (J7_copyOf_9075b a0 i1) := by
  refine con_of (lv := [(0, .ref a0), (1, .int i1)]) (by decide) (Nat.le_of_ble_eq_true rfl) rfl (fun p e R s m args below meth c h0 r h' C hF hO hr hm => ?_)
  refine s_iload_n C 1 dJ7_copyOf_9075b_0 rfl rfl ?_
  refine s_aload_n C 0 dJ7_copyOf_9075b_1 rfl rfl ?_
  refine s_ay C dJ7_copyOf_9075b_2 (fun x1 => ?_)
  refine s_icmp_ne (tgt := 14) C dJ7_copyOf_9075b_3 (by decide) ?_ ?_
  · refine s_iload_n C 1 dJ7_copyOf_9075b_14 rfl rfl ?_
    refine s_na21 C wd_1_54 dJ7_copyOf_9075b_15 (fun y2 => ?_)
    refine s_astore_n (lv' := [(2, .ref y2), (0, .ref a0), (1, .int i1)]) C dJ7_copyOf_9075b_17 rfl (by decide) rfl ?_
    refine s_aload_n C 1 dJ7_copyOf_9075b_18 rfl rfl ?_
    refine s_iconst (v := 0) C dJ7_copyOf_9075b_19 (by decide) ?_
    refine s_aload_n C 0 dJ7_copyOf_9075b_20 rfl rfl ?_
    refine s_iconst (v := 0) C dJ7_copyOf_9075b_21 (by decide) ?_
    refine s_aload_n C 1 dJ7_copyOf_9075b_22 rfl rfl ?_
    refine s_ay C dJ7_copyOf_9075b_23 (fun x3 => ?_)
    refine s_iload_n C 2 dJ7_copyOf_9075b_24 rfl rfl ?_
    refine s_mmin C wd_2_54 wd_2_55 wd_1_14 wd_2_56 (by rw [hF]; decide) (by rw [hO]; exact Nat.le_of_ble_eq_true rfl) dJ7_copyOf_9075b_25 ?_
    refine s_cb C wd_2_57 wd_1_236 wd_1_235 wd_1_12 (by rw [hF]; decide) (by rw [hO]; exact Nat.le_of_ble_eq_true rfl) dJ7_copyOf_9075b_28 ?_
    refine s_aload_n C 0 dJ7_copyOf_9075b_31 rfl rfl ?_
    exact s_aret (v := some y2) C hr (by first | exact Or.inl ⟨_, rfl⟩ | exact Or.inr ⟨_, rfl⟩) rfl dJ7_copyOf_9075b_32
  refine s_aload_n C 0 dJ7_copyOf_9075b_6 rfl rfl ?_
  exact s_fl
