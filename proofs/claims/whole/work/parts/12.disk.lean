theorem dX0_init_0 : decode cX0_init 0 = .ok (.aload_n 0, 1) := by decide +kernel
theorem dX0_init_1 : decode cX0_init 1 = .ok (.invokespecial 1, 3) := by decide +kernel
theorem dX0_init_4 : decode cX0_init 4 = .ok (.return_, 1) := by decide +kernel
def X0_init (a0 : Nat) : M Unit := pu ()
section
variable {G : Gx} {p : Program} {l : Launch} {e : Env} {R : Room} {s : State} {m : MethodId} {args : Array Value} {below : List Frame} {meth : Method} {c : Code} {h0 : Hp} {r : Unit} {h' : Hp}
end
set_option maxRecDepth 20000 in
theorem con_X0_init (l : Launch) (G : Gx) (a0 : Nat) : Con G rvU l yX0_init cX0_init 1 none 1 30 [.ref a0] (X0_init a0) := by
  refine con_of (lv := [(0, .ref a0)]) (by decide) (Nat.le_of_ble_eq_true rfl) rfl (fun p e R s m args below meth c h0 r h' C hF hO hr hm => ?_)
  refine s_aload_n C 0 dX0_init_0 rfl rfl ?_
  refine s_obj C wd_5_22 wd_1_39 wd_1_40 (by rw [hF]; decide) (by rw [hO]; exact Nat.le_of_ble_eq_true rfl) dX0_init_1 ?_
  exact s_vret C hr rfl dX0_init_4

theorem dX0_lose_0 : decode cX0_lose 0 = .ok (.aload_n 0, 1) := by decide +kernel
theorem dX0_lose_1 : decode cX0_lose 1 = .ok (.getfield 7, 3) := by decide +kernel
theorem dX0_lose_4 : decode cX0_lose 4 = .ok (.ifnull 25, 3) := by decide +kernel
theorem dX0_lose_7 : decode cX0_lose 7 = .ok (.aload_n 0, 1) := by decide +kernel
theorem dX0_lose_8 : decode cX0_lose 8 = .ok (.getfield 7, 3) := by decide +kernel
theorem dX0_lose_11 : decode cX0_lose 11 = .ok (.getfield 13, 3) := by decide +kernel
theorem dX0_lose_14 : decode cX0_lose 14 = .ok (.aload_n 0, 1) := by decide +kernel
theorem dX0_lose_15 : decode cX0_lose 15 = .ok (.getfield 7, 3) := by decide +kernel
theorem dX0_lose_18 : decode cX0_lose 18 = .ok (.getfield 13, 3) := by decide +kernel
theorem dX0_lose_21 : decode cX0_lose 21 = .ok (.invokevirtual 19, 3) := by decide +kernel
theorem dX0_lose_24 : decode cX0_lose 24 = .ok (.iload_n 1, 1) := by decide +kernel
theorem dX0_lose_25 : decode cX0_lose 25 = .ok (.isub, 1) := by decide +kernel
theorem dX0_lose_26 : decode cX0_lose 26 = .ok (.invokevirtual 25, 3) := by decide +kernel
theorem dX0_lose_29 : decode cX0_lose 29 = .ok (.return_, 1) := by decide +kernel
def X0_lose (a0 : Nat) (i1 : Int32) : M Unit := bd (gR 3 0 a0) (fun y1 => bd (gR 3 0 a0) (fun y2 => bd (gR 7 0 y2) (fun y3 => bd (gR 3 0 a0) (fun y4 => bd (gR 7 0 y4) (fun y5 => bd (ck 4 y5) (fun _ => bd (X1_size y5) (fun x6 => bd (ck 4 y3) (fun _ => bd (X1_cutTo y3 (x6 - i1)) (fun _ => pu ())))))))))
section
variable {G : Gx} {p : Program} {l : Launch} {e : Env} {R : Room} {s : State} {m : MethodId} {args : Array Value} {below : List Frame} {meth : Method} {c : Code} {h0 : Hp} {r : Unit} {h' : Hp}
end
set_option maxRecDepth 20000 in
theorem con_X0_lose (l : Launch) (G : Gx) (a0 : Nat) (i1 : Int32) : Con G rvU l yX0_lose cX0_lose 2 none 1 21 [.ref a0, .int i1] (X0_lose a0 i1) := by
  refine con_of (lv := [(0, .ref a0), (1, .int i1)]) (by decide) (Nat.le_of_ble_eq_true rfl) rfl (fun p e R s m args below meth c h0 r h' C hF hO hr hm => ?_)
  refine s_aload_n C 0 dX0_lose_0 rfl rfl ?_
  refine s_gR C ci3 0 (by decide) (Or.inl wd_5_23) dX0_lose_1 (fun y1 => ?_)
  refine s_ifnullR C dX0_lose_4 ?_
  refine s_aload_n C 0 dX0_lose_7 rfl rfl ?_
  refine s_gR C ci3 0 (by decide) (Or.inl wd_5_23) dX0_lose_8 (fun y2 => ?_)
  refine s_gR C ci7 0 (by decide) (Or.inr (Or.inr ⟨_, wd_3_212⟩)) dX0_lose_11 (fun y3 => ?_)
  refine s_aload_n C 0 dX0_lose_14 rfl rfl ?_
  refine s_gR C ci3 0 (by decide) (Or.inl wd_5_23) dX0_lose_15 (fun y4 => ?_)
  refine s_gR C ci7 0 (by decide) (Or.inr (Or.inr ⟨_, wd_3_212⟩)) dX0_lose_18 (fun y5 => ?_)
  refine s_invV_i C ci4 cy_X1_size (Or.inl wd_5_150) rfl wd_2_147 wd_2_148 (con_X1_size l G y5) rfl rfl (Nat.le_of_ble_eq_true rfl) (by rw [hF]; decide) (by rw [hO]; exact Nat.le_of_ble_eq_true rfl) dX0_lose_21 (fun x6 => ?_)
  refine s_iload_n C 1 dX0_lose_24 rfl rfl ?_
  refine s_isub C dX0_lose_25 ?_
  refine s_invV_u C ci4 cy_X1_cutTo (Or.inl wd_5_151) rfl wd_5_152 wd_5_153 (con_X1_cutTo l G y3 (x6 - i1)) rfl rfl (Nat.le_of_ble_eq_true rfl) (by rw [hF]; decide) (by rw [hO]; exact Nat.le_of_ble_eq_true rfl) dX0_lose_26 ?_
  exact s_vret C hr rfl dX0_lose_29

theorem dX3_init_0 : decode cX3_init 0 = .ok (.aload_n 0, 1) := by decide +kernel
theorem dX3_init_1 : decode cX3_init 1 = .ok (.invokespecial 3, 3) := by decide +kernel
theorem dX3_init_4 : decode cX3_init 4 = .ok (.aload_n 0, 1) := by decide +kernel
theorem dX3_init_5 : decode cX3_init 5 = .ok (.new 9, 3) := by decide +kernel
theorem dX3_init_8 : decode cX3_init 8 = .ok (.dup, 1) := by decide +kernel
theorem dX3_init_9 : decode cX3_init 9 = .ok (.invokespecial 11, 3) := by decide +kernel
theorem dX3_init_12 : decode cX3_init 12 = .ok (.putfield 12, 3) := by decide +kernel
theorem dX3_init_15 : decode cX3_init 15 = .ok (.aload_n 0, 1) := by decide +kernel
theorem dX3_init_16 : decode cX3_init 16 = .ok (.new 9, 3) := by decide +kernel
theorem dX3_init_19 : decode cX3_init 19 = .ok (.dup, 1) := by decide +kernel
theorem dX3_init_20 : decode cX3_init 20 = .ok (.invokespecial 11, 3) := by decide +kernel
theorem dX3_init_23 : decode cX3_init 23 = .ok (.putfield 18, 3) := by decide +kernel
theorem dX3_init_26 : decode cX3_init 26 = .ok (.aload_n 0, 1) := by decide +kernel
theorem dX3_init_27 : decode cX3_init 27 = .ok (.new 9, 3) := by decide +kernel
theorem dX3_init_30 : decode cX3_init 30 = .ok (.dup, 1) := by decide +kernel
theorem dX3_init_31 : decode cX3_init 31 = .ok (.invokespecial 11, 3) := by decide +kernel
theorem dX3_init_34 : decode cX3_init 34 = .ok (.putfield 21, 3) := by decide +kernel
theorem dX3_init_37 : decode cX3_init 37 = .ok (.return_, 1) := by decide +kernel
def X3_init (a0 : Nat) : M Unit := bd (nw 2 3) (fun y1 => bd (Jx4a65c_init_da8c8 y1) (fun _ => bd (pV 6 0 a0 (.ref y1)) (fun _ => bd (nw 2 3) (fun y2 => bd (Jx4a65c_init_da8c8 y2) (fun _ => bd (pV 6 1 a0 (.ref y2)) (fun _ => bd (nw 2 3) (fun y3 => bd (Jx4a65c_init_da8c8 y3) (fun _ => bd (pV 6 2 a0 (.ref y3)) (fun _ => pu ())))))))))
section
variable {G : Gx} {p : Program} {l : Launch} {e : Env} {R : Room} {s : State} {m : MethodId} {args : Array Value} {below : List Frame} {meth : Method} {c : Code} {h0 : Hp} {r : Unit} {h' : Hp}
end
set_option maxRecDepth 20000 in
theorem con_X3_init (l : Launch) (G : Gx) (a0 : Nat) : Con G rvU l yX3_init cX3_init 1 none 4 90 [.ref a0] (X3_init a0) := by
  refine con_of (lv := [(0, .ref a0)]) (by decide) (Nat.le_of_ble_eq_true rfl) rfl (fun p e R s m args below meth c h0 r h' C hF hO hr hm => ?_)
  refine s_aload_n C 0 dX3_init_0 rfl rfl ?_
  refine s_obj C wd_1_60 wd_1_39 wd_1_40 (by rw [hF]; decide) (by rw [hO]; exact Nat.le_of_ble_eq_true rfl) dX3_init_1 ?_
  refine s_aload_n C 0 dX3_init_4 rfl rfl ?_
  refine s_nw C ci2 wd_1_61 wd_1_62 wd_1_6 dX3_init_5 (fun y1 => ?_)
  refine s_dup C dX3_init_8 rfl ?_
  refine s_invI_u C cy_Jx4a65c_init_da8c8 (Or.inl wd_1_63) rfl wd_1_64 (con_Jx4a65c_init_da8c8 l G y1) rfl rfl (Nat.le_of_ble_eq_true rfl) (by rw [hF]; decide) (by rw [hO]; exact Nat.le_of_ble_eq_true rfl) dX3_init_9 ?_
  refine s_pF C ci6 0 (by decide) rfl rfl hm wd_1_87 dX3_init_12 rfl rfl ?_
  refine s_aload_n C 0 dX3_init_15 rfl rfl ?_
  refine s_nw C ci2 wd_1_61 wd_1_62 wd_1_6 dX3_init_16 (fun y2 => ?_)
  refine s_dup C dX3_init_19 rfl ?_
  refine s_invI_u C cy_Jx4a65c_init_da8c8 (Or.inl wd_1_63) rfl wd_1_64 (con_Jx4a65c_init_da8c8 l G y2) rfl rfl (Nat.le_of_ble_eq_true rfl) (by rw [hF]; decide) (by rw [hO]; exact Nat.le_of_ble_eq_true rfl) dX3_init_20 ?_
  refine s_pF C ci6 1 (by decide) rfl rfl hm wd_1_88 dX3_init_23 rfl rfl ?_
  refine s_aload_n C 0 dX3_init_26 rfl rfl ?_
  refine s_nw C ci2 wd_1_61 wd_1_62 wd_1_6 dX3_init_27 (fun y3 => ?_)
  refine s_dup C dX3_init_30 rfl ?_
  refine s_invI_u C cy_Jx4a65c_init_da8c8 (Or.inl wd_1_63) rfl wd_1_64 (con_Jx4a65c_init_da8c8 l G y3) rfl rfl (Nat.le_of_ble_eq_true rfl) (by rw [hF]; decide) (by rw [hO]; exact Nat.le_of_ble_eq_true rfl) dX3_init_31 ?_
  refine s_pF C ci6 2 (by decide) rfl rfl hm wd_1_89 dX3_init_34 rfl rfl ?_
  exact s_vret C hr rfl dX3_init_37

theorem dX3_discardAt_0 : decode cX3_discardAt 0 = .ok (.iload_n 1, 1) := by decide +kernel
theorem dX3_discardAt_1 : decode cX3_discardAt 1 = .ok (.ifCond .lt 33, 3) := by decide +kernel
theorem dX3_discardAt_4 : decode cX3_discardAt 4 = .ok (.iload_n 1, 1) := by decide +kernel
theorem dX3_discardAt_5 : decode cX3_discardAt 5 = .ok (.aload_n 0, 1) := by decide +kernel
theorem dX3_discardAt_6 : decode cX3_discardAt 6 = .ok (.getfield 12, 3) := by decide +kernel
theorem dX3_discardAt_9 : decode cX3_discardAt 9 = .ok (.invokevirtual 24, 3) := by decide +kernel
theorem dX3_discardAt_12 : decode cX3_discardAt 12 = .ok (.if_icmp .ge 22, 3) := by decide +kernel
theorem dX3_discardAt_15 : decode cX3_discardAt 15 = .ok (.aload_n 0, 1) := by decide +kernel
theorem dX3_discardAt_16 : decode cX3_discardAt 16 = .ok (.getfield 18, 3) := by decide +kernel
theorem dX3_discardAt_19 : decode cX3_discardAt 19 = .ok (.aload_n 0, 1) := by decide +kernel
theorem dX3_discardAt_20 : decode cX3_discardAt 20 = .ok (.getfield 12, 3) := by decide +kernel
theorem dX3_discardAt_23 : decode cX3_discardAt 23 = .ok (.iload_n 1, 1) := by decide +kernel
theorem dX3_discardAt_24 : decode cX3_discardAt 24 = .ok (.invokevirtual 116, 3) := by decide +kernel
theorem dX3_discardAt_27 : decode cX3_discardAt 27 = .ok (.checkcast 49, 3) := by decide +kernel
theorem dX3_discardAt_30 : decode cX3_discardAt 30 = .ok (.invokevirtual 119, 3) := by decide +kernel
theorem dX3_discardAt_33 : decode cX3_discardAt 33 = .ok (.pop, 1) := by decide +kernel
theorem dX3_discardAt_34 : decode cX3_discardAt 34 = .ok (.return_, 1) := by decide +kernel
def X3_discardAt (a0 : Nat) (i1 : Int32) : M Unit := it (i1 < 0) (pu ()) (bd (gR 6 0 a0) (fun y1 => bd (ck 2 y1) (fun _ => bd (Jx4a65c_size_8abf5 y1) (fun x2 => it (x2 ≤ i1) (pu ()) (bd (gR 6 1 a0) (fun y3 => bd (gR 6 0 a0) (fun y4 => bd (ck 2 y4) (fun _ => bd (Jx4a65c_remove_915e3 y4 i1) (fun y5 => bd (ck 7 y5) (fun _ => bd (ck 2 y3) (fun _ => bd (Jx4a65c_add_9ea2d y3 y5) (fun x6 => pu ()))))))))))))
section
variable {G : Gx} {p : Program} {l : Launch} {e : Env} {R : Room} {s : State} {m : MethodId} {args : Array Value} {below : List Frame} {meth : Method} {c : Code} {h0 : Hp} {r : Unit} {h' : Hp}
end
set_option maxRecDepth 20000 in
theorem con_X3_discardAt (l : Launch) (G : Gx) (a0 : Nat) (i1 : Int32) : Con G rvU l yX3_discardAt cX3_discardAt 2 none 7 231 [.ref a0, .int i1] (X3_discardAt a0 i1) := by
  refine con_of (lv := [(0, .ref a0), (1, .int i1)]) (by decide) (Nat.le_of_ble_eq_true rfl) rfl (fun p e R s m args below meth c h0 r h' C hF hO hr hm => ?_)
  refine s_iload_n C 1 dX3_discardAt_0 rfl rfl ?_
  refine s_if_lt (tgt := 34) C dX3_discardAt_1 (by decide) ?_ ?_
  · exact s_vret C hr rfl dX3_discardAt_34
  refine s_iload_n C 1 dX3_discardAt_4 rfl rfl ?_
  refine s_aload_n C 0 dX3_discardAt_5 rfl rfl ?_
  refine s_gR C ci6 0 (by decide) (Or.inl wd_1_87) dX3_discardAt_6 (fun y1 => ?_)
  refine s_invV_i C ci2 cy_Jx4a65c_size_8abf5 (Or.inl wd_1_212) rfl wd_1_213 wd_1_214 (con_Jx4a65c_size_8abf5 l G y1) rfl rfl (Nat.le_of_ble_eq_true rfl) (by rw [hF]; decide) (by rw [hO]; exact Nat.le_of_ble_eq_true rfl) dX3_discardAt_9 (fun x2 => ?_)
  refine s_icmp_ge (tgt := 34) C dX3_discardAt_12 (by decide) ?_ ?_
  · exact s_vret C hr rfl dX3_discardAt_34
  refine s_aload_n C 0 dX3_discardAt_15 rfl rfl ?_
  refine s_gR C ci6 1 (by decide) (Or.inl wd_1_88) dX3_discardAt_16 (fun y3 => ?_)
  refine s_aload_n C 0 dX3_discardAt_19 rfl rfl ?_
  refine s_gR C ci6 0 (by decide) (Or.inl wd_1_87) dX3_discardAt_20 (fun y4 => ?_)
  refine s_iload_n C 1 dX3_discardAt_23 rfl rfl ?_
  refine s_invV_r C ci2 cy_Jx4a65c_remove_915e3 (Or.inl wd_1_220) rfl wd_1_221 wd_1_222 (con_Jx4a65c_remove_915e3 l G y4 i1) rfl rfl (Nat.le_of_ble_eq_true rfl) (by rw [hF]; decide) (by rw [hO]; exact Nat.le_of_ble_eq_true rfl) dX3_discardAt_24 (fun y5 => ?_)
  refine s_ck C ci7 wd_1_237 dX3_discardAt_27 ?_
  refine s_invV_i C ci2 cy_Jx4a65c_add_9ea2d (Or.inl wd_1_238) rfl wd_1_239 wd_2_0 (con_Jx4a65c_add_9ea2d l G y3 y5) rfl rfl (Nat.le_of_ble_eq_true rfl) (by rw [hF]; decide) (by rw [hO]; exact Nat.le_of_ble_eq_true rfl) dX3_discardAt_30 (fun x6 => ?_)
  refine s_pop C dX3_discardAt_33 rfl ?_
  exact s_vret C hr rfl dX3_discardAt_34

theorem dX3_clear_0 : decode cX3_clear 0 = .ok (.aload_n 0, 1) := by decide +kernel
theorem dX3_clear_1 : decode cX3_clear 1 = .ok (.getfield 12, 3) := by decide +kernel
theorem dX3_clear_4 : decode cX3_clear 4 = .ok (.invokevirtual 24, 3) := by decide +kernel
theorem dX3_clear_7 : decode cX3_clear 7 = .ok (.iconst 1, 1) := by decide +kernel
theorem dX3_clear_8 : decode cX3_clear 8 = .ok (.isub, 1) := by decide +kernel
theorem dX3_clear_9 : decode cX3_clear 9 = .ok (.istore_n 3, 1) := by decide +kernel
theorem dX3_clear_10 : decode cX3_clear 10 = .ok (.iload_n 3, 1) := by decide +kernel
theorem dX3_clear_11 : decode cX3_clear 11 = .ok (.ifCond .lt 14, 3) := by decide +kernel
theorem dX3_clear_14 : decode cX3_clear 14 = .ok (.aload_n 0, 1) := by decide +kernel
theorem dX3_clear_15 : decode cX3_clear 15 = .ok (.iload_n 3, 1) := by decide +kernel
theorem dX3_clear_16 : decode cX3_clear 16 = .ok (.invokevirtual 28, 3) := by decide +kernel
theorem dX3_clear_19 : decode cX3_clear 19 = .ok (.iinc 3 (-1), 3) := by decide +kernel
theorem dX3_clear_22 : decode cX3_clear 22 = .ok (.goto (-12), 3) := by decide +kernel
theorem dX3_clear_25 : decode cX3_clear 25 = .ok (.aload_n 0, 1) := by decide +kernel
theorem dX3_clear_26 : decode cX3_clear 26 = .ok (.iconst 0, 1) := by decide +kernel
theorem dX3_clear_27 : decode cX3_clear 27 = .ok (.putfield 32, 3) := by decide +kernel
theorem dX3_clear_30 : decode cX3_clear 30 = .ok (.aload_n 0, 1) := by decide +kernel
theorem dX3_clear_31 : decode cX3_clear 31 = .ok (.iload_n 1, 1) := by decide +kernel
theorem dX3_clear_32 : decode cX3_clear 32 = .ok (.putfield 36, 3) := by decide +kernel
theorem dX3_clear_35 : decode cX3_clear 35 = .ok (.aload_n 0, 1) := by decide +kernel
theorem dX3_clear_36 : decode cX3_clear 36 = .ok (.iload_n 2, 1) := by decide +kernel
theorem dX3_clear_37 : decode cX3_clear 37 = .ok (.putfield 39, 3) := by decide +kernel
theorem dX3_clear_40 : decode cX3_clear 40 = .ok (.aload_n 0, 1) := by decide +kernel
theorem dX3_clear_41 : decode cX3_clear 41 = .ok (.iconst 1, 1) := by decide +kernel
theorem dX3_clear_42 : decode cX3_clear 42 = .ok (.putfield 42, 3) := by decide +kernel
theorem dX3_clear_45 : decode cX3_clear 45 = .ok (.return_, 1) := by decide +kernel
def X3_clear_b10b  (k10 : Nat → Int32 → Int32 → Int32 → M Unit) (a0 : Nat) (i1 : Int32) (i2 : Int32) (i3 : Int32) : M Unit := it (i3 < 0) (bd (pV 6 3 a0 (.int 0)) (fun _ => bd (pV 6 4 a0 (.int i1)) (fun _ => bd (pV 6 5 a0 (.int i2)) (fun _ => bd (pV 6 6 a0 (.int 1)) (fun _ => pu ()))))) (bd (ck 6 a0) (fun _ => bd (X3_discardAt a0 i3) (fun _ => k10 a0 i1 i2 (i3 + (-1)))))
def X3_clear_b10  : Nat → Nat → Int32 → Int32 → Int32 → M Unit
  | 0 => fun _ _ _ _ => fl
  | n + 1 => fun a0 i1 i2 i3 => X3_clear_b10b  (X3_clear_b10  n) a0 i1 i2 i3
def X3_clear (a0 : Nat) (i1 : Int32) (i2 : Int32) : M Unit := bd (gR 6 0 a0) (fun y1 => bd (ck 2 y1) (fun _ => bd (Jx4a65c_size_8abf5 y1) (fun x2 => bd (pu (x2 - 1)) (fun x3 => X3_clear_b10  FU a0 i1 i2 x3))))
section
variable {G : Gx} {p : Program} {l : Launch} {e : Env} {R : Room} {s : State} {m : MethodId} {args : Array Value} {below : List Frame} {meth : Method} {c : Code} {h0 : Hp} {r : Unit} {h' : Hp}
set_option maxRecDepth 20000 in
theorem X3_clear_b10b_s (C : Cx G p R s m args meth c cX3_clear 4 yX3_clear.cls h0 h') (hF : R.frames = 8) (hO : R.locals = 252) (hr : meth.sig.returnType = none) (hm : meth.name = yX3_clear.name)  {k10 : Nat → Int32 → Int32 → Int32 → M Unit} (hk10 : ∀ (a0 : Nat) (i1 : Int32) (i2 : Int32) (i3 : Int32), Sm G (QM G rvU below args s h0 r h') p l e R s m args below meth c 4 h0 r h' 10 [(0, .ref a0), (1, .int i1), (2, .int i2), (3, .int i3)] [] (k10 a0 i1 i2 i3)) (a0 : Nat) (i1 : Int32) (i2 : Int32) (i3 : Int32) : Sm G (QM G rvU below args s h0 r h') p l e R s m args below meth c 4 h0 r h' 10 [(0, .ref a0), (1, .int i1), (2, .int i2), (3, .int i3)] [] (X3_clear_b10b  k10 a0 i1 i2 i3) := by
  refine s_iload_n C 3 dX3_clear_10 rfl rfl ?_
  refine s_if_lt (tgt := 25) C dX3_clear_11 (by decide) ?_ ?_
  · refine s_aload_n C 0 dX3_clear_25 rfl rfl ?_
    refine s_iconst (v := 0) C dX3_clear_26 (by decide) ?_
    refine s_pV C ci6 3 (by decide) rfl (Or.inl wd_1_90) dX3_clear_27 rfl rfl ?_
    refine s_aload_n C 0 dX3_clear_30 rfl rfl ?_
    refine s_iload_n C 1 dX3_clear_31 rfl rfl ?_
    refine s_pV C ci6 4 (by decide) rfl (Or.inl wd_1_91) dX3_clear_32 rfl rfl ?_
    refine s_aload_n C 0 dX3_clear_35 rfl rfl ?_
    refine s_iload_n C 2 dX3_clear_36 rfl rfl ?_
    refine s_pV C ci6 5 (by decide) rfl (Or.inl wd_1_93) dX3_clear_37 rfl rfl ?_
    refine s_aload_n C 0 dX3_clear_40 rfl rfl ?_
    refine s_iconst (v := 1) C dX3_clear_41 (by decide) ?_
    refine s_pV C ci6 6 (by decide) rfl (Or.inl wd_1_97) dX3_clear_42 rfl rfl ?_
    exact s_vret C hr rfl dX3_clear_45
  refine s_aload_n C 0 dX3_clear_14 rfl rfl ?_
  refine s_iload_n C 3 dX3_clear_15 rfl rfl ?_
  refine s_invV_u C ci6 cy_X3_discardAt (Or.inl wd_1_216) rfl wd_1_218 wp_1 (con_X3_discardAt l G a0 i3) rfl rfl (Nat.le_of_ble_eq_true rfl) (by rw [hF]; decide) (by rw [hO]; exact Nat.le_of_ble_eq_true rfl) dX3_clear_16 ?_
  refine s_iincK (lv' := [(3, .int (i3 + (-1))), (0, .ref a0), (1, .int i1), (2, .int i2)]) (w := (-1)) C 3 dX3_clear_19 rfl (by decide) (by decide) rfl ?_
  refine s_goto (tgt := 10) C dX3_clear_22 (by decide) ?_
  refine s_sub [1, 2, 3, 0] rfl ?_
  exact hk10 a0 i1 i2 (i3 + (-1))
set_option maxRecDepth 20000 in
theorem X3_clear_b10_s (C : Cx G p R s m args meth c cX3_clear 4 yX3_clear.cls h0 h') (hF : R.frames = 8) (hO : R.locals = 252) (hr : meth.sig.returnType = none) (hm : meth.name = yX3_clear.name)  (n : Nat) : ∀ (a0 : Nat) (i1 : Int32) (i2 : Int32) (i3 : Int32), Sm G (QM G rvU below args s h0 r h') p l e R s m args below meth c 4 h0 r h' 10 [(0, .ref a0), (1, .int i1), (2, .int i2), (3, .int i3)] [] (X3_clear_b10  n a0 i1 i2 i3) := by
  induction n with
  | zero => intro a0 i1 i2 i3; exact s_fl
  | succ n ih => intro a0 i1 i2 i3; exact X3_clear_b10b_s C hF hO hr hm  ih a0 i1 i2 i3
end
set_option maxRecDepth 20000 in
theorem con_X3_clear (l : Launch) (G : Gx) (a0 : Nat) (i1 : Int32) (i2 : Int32) : Con G rvU l yX3_clear cX3_clear 4 none 8 252 [.ref a0, .int i1, .int i2] (X3_clear a0 i1 i2) := by
  refine con_of (lv := [(0, .ref a0), (1, .int i1), (2, .int i2)]) (by decide) (Nat.le_of_ble_eq_true rfl) rfl (fun p e R s m args below meth c h0 r h' C hF hO hr hm => ?_)
  refine s_aload_n C 0 dX3_clear_0 rfl rfl ?_
  refine s_gR C ci6 0 (by decide) (Or.inl wd_1_87) dX3_clear_1 (fun y1 => ?_)
  refine s_invV_i C ci2 cy_Jx4a65c_size_8abf5 (Or.inl wd_1_212) rfl wd_1_213 wd_1_214 (con_Jx4a65c_size_8abf5 l G y1) rfl rfl (Nat.le_of_ble_eq_true rfl) (by rw [hF]; decide) (by rw [hO]; exact Nat.le_of_ble_eq_true rfl) dX3_clear_4 (fun x2 => ?_)
  refine s_iconst (v := 1) C dX3_clear_7 (by decide) ?_
  refine s_isub C dX3_clear_8 ?_
  refine s_let (fun x3 => ?_)
  refine s_istore_n (lv' := [(3, .int x3), (0, .ref a0), (1, .int i1), (2, .int i2)]) C dX3_clear_9 rfl (by decide) rfl ?_
  refine s_sub [1, 2, 3, 0] rfl ?_
  exact X3_clear_b10_s C hF hO hr hm  FU a0 i1 i2 x3

theorem dX3_count_0 : decode cX3_count 0 = .ok (.aload_n 0, 1) := by decide +kernel
theorem dX3_count_1 : decode cX3_count 1 = .ok (.getfield 12, 3) := by decide +kernel
theorem dX3_count_4 : decode cX3_count 4 = .ok (.invokevirtual 24, 3) := by decide +kernel
theorem dX3_count_7 : decode cX3_count 7 = .ok (.ireturn, 1) := by decide +kernel
def X3_count (a0 : Nat) : M Int32 := bd (gR 6 0 a0) (fun y1 => bd (ck 2 y1) (fun _ => bd (Jx4a65c_size_8abf5 y1) (fun x2 => pu x2)))
section
variable {G : Gx} {p : Program} {l : Launch} {e : Env} {R : Room} {s : State} {m : MethodId} {args : Array Value} {below : List Frame} {meth : Method} {c : Code} {h0 : Hp} {r : Int32} {h' : Hp}
end
set_option maxRecDepth 20000 in
theorem con_X3_count (l : Launch) (G : Gx) (a0 : Nat) : Con G rvI l yX3_count cX3_count 1 (some .int) 1 20 [.ref a0] (X3_count a0) := by
  refine con_of (lv := [(0, .ref a0)]) (by decide) (Nat.le_of_ble_eq_true rfl) rfl (fun p e R s m args below meth c h0 r h' C hF hO hr hm => ?_)
  refine s_aload_n C 0 dX3_count_0 rfl rfl ?_
  refine s_gR C ci6 0 (by decide) (Or.inl wd_1_87) dX3_count_1 (fun y1 => ?_)
  refine s_invV_i C ci2 cy_Jx4a65c_size_8abf5 (Or.inl wd_1_212) rfl wd_1_213 wd_1_214 (con_Jx4a65c_size_8abf5 l G y1) rfl rfl (Nat.le_of_ble_eq_true rfl) (by rw [hF]; decide) (by rw [hO]; exact Nat.le_of_ble_eq_true rfl) dX3_count_4 (fun x2 => ?_)
  exact s_iret C hr rfl dX3_count_7

theorem dX3_at_0 : decode cX3_at 0 = .ok (.iload_n 1, 1) := by decide +kernel
theorem dX3_at_1 : decode cX3_at 1 = .ok (.ifCond .lt 28, 3) := by decide +kernel
theorem dX3_at_4 : decode cX3_at 4 = .ok (.iload_n 1, 1) := by decide +kernel
theorem dX3_at_5 : decode cX3_at 5 = .ok (.aload_n 0, 1) := by decide +kernel
theorem dX3_at_6 : decode cX3_at 6 = .ok (.getfield 12, 3) := by decide +kernel
theorem dX3_at_9 : decode cX3_at 9 = .ok (.invokevirtual 24, 3) := by decide +kernel
theorem dX3_at_12 : decode cX3_at 12 = .ok (.if_icmp .ge 17, 3) := by decide +kernel
theorem dX3_at_15 : decode cX3_at 15 = .ok (.aload_n 0, 1) := by decide +kernel
theorem dX3_at_16 : decode cX3_at 16 = .ok (.getfield 12, 3) := by decide +kernel
theorem dX3_at_19 : decode cX3_at 19 = .ok (.iload_n 1, 1) := by decide +kernel
theorem dX3_at_20 : decode cX3_at 20 = .ok (.invokevirtual 45, 3) := by decide +kernel
theorem dX3_at_23 : decode cX3_at 23 = .ok (.checkcast 49, 3) := by decide +kernel
theorem dX3_at_26 : decode cX3_at 26 = .ok (.goto 4, 3) := by decide +kernel
theorem dX3_at_29 : decode cX3_at 29 = .ok (.aconst_null, 1) := by decide +kernel
theorem dX3_at_30 : decode cX3_at 30 = .ok (.areturn, 1) := by decide +kernel
def X3_at (a0 : Nat) (i1 : Int32) : M (Option Nat) := it (i1 < 0) (pu none) (bd (gR 6 0 a0) (fun y1 => bd (ck 2 y1) (fun _ => bd (Jx4a65c_size_8abf5 y1) (fun x2 => it (x2 ≤ i1) (pu none) (bd (gR 6 0 a0) (fun y3 => bd (ck 2 y3) (fun _ => bd (Jx4a65c_get_915e3 y3 i1) (fun y4 => bd (ck 7 y4) (fun _ => pu (some y4))))))))))
section
variable {G : Gx} {p : Program} {l : Launch} {e : Env} {R : Room} {s : State} {m : MethodId} {args : Array Value} {below : List Frame} {meth : Method} {c : Code} {h0 : Hp} {r : Option Nat} {h' : Hp}
end
set_option maxRecDepth 20000 in
theorem con_X3_at (l : Launch) (G : Gx) (a0 : Nat) (i1 : Int32) : Con G rvO l yX3_at cX3_at 2 (some (.object "AppendKeep$DiskFile")) 3 64 [.ref a0, .int i1] (X3_at a0 i1) := by
  refine con_of (lv := [(0, .ref a0), (1, .int i1)]) (by decide) (Nat.le_of_ble_eq_true rfl) rfl (fun p e R s m args below meth c h0 r h' C hF hO hr hm => ?_)
  refine s_iload_n C 1 dX3_at_0 rfl rfl ?_
  refine s_if_lt (tgt := 29) C dX3_at_1 (by decide) ?_ ?_
  · refine s_nullO C dX3_at_29 ?_
    exact s_aret (v := none) C hr (by first | exact Or.inl ⟨_, rfl⟩ | exact Or.inr ⟨_, rfl⟩) rfl dX3_at_30
  refine s_iload_n C 1 dX3_at_4 rfl rfl ?_
  refine s_aload_n C 0 dX3_at_5 rfl rfl ?_
  refine s_gR C ci6 0 (by decide) (Or.inl wd_1_87) dX3_at_6 (fun y1 => ?_)
  refine s_invV_i C ci2 cy_Jx4a65c_size_8abf5 (Or.inl wd_1_212) rfl wd_1_213 wd_1_214 (con_Jx4a65c_size_8abf5 l G y1) rfl rfl (Nat.le_of_ble_eq_true rfl) (by rw [hF]; decide) (by rw [hO]; exact Nat.le_of_ble_eq_true rfl) dX3_at_9 (fun x2 => ?_)
  refine s_icmp_ge (tgt := 29) C dX3_at_12 (by decide) ?_ ?_
  · refine s_nullO C dX3_at_29 ?_
    exact s_aret (v := none) C hr (by first | exact Or.inl ⟨_, rfl⟩ | exact Or.inr ⟨_, rfl⟩) rfl dX3_at_30
  refine s_aload_n C 0 dX3_at_15 rfl rfl ?_
  refine s_gR C ci6 0 (by decide) (Or.inl wd_1_87) dX3_at_16 (fun y3 => ?_)
  refine s_iload_n C 1 dX3_at_19 rfl rfl ?_
  refine s_invV_r C ci2 cy_Jx4a65c_get_915e3 (Or.inl wd_2_138) rfl wd_2_139 wd_2_140 (con_Jx4a65c_get_915e3 l G y3 i1) rfl rfl (Nat.le_of_ble_eq_true rfl) (by rw [hF]; decide) (by rw [hO]; exact Nat.le_of_ble_eq_true rfl) dX3_at_20 (fun y4 => ?_)
  refine s_ck C ci7 wd_1_237 dX3_at_23 ?_
  refine s_goto (tgt := 30) C dX3_at_26 (by decide) ?_
  exact s_aret (v := (some y4)) C hr (by first | exact Or.inl ⟨_, rfl⟩ | exact Or.inr ⟨_, rfl⟩) rfl dX3_at_30

theorem dX3_placeFor_0 : decode cX3_placeFor 0 = .ok (.iconst 0, 1) := by decide +kernel
theorem dX3_placeFor_1 : decode cX3_placeFor 1 = .ok (.istore_n 3, 1) := by decide +kernel
theorem dX3_placeFor_2 : decode cX3_placeFor 2 = .ok (.iload_n 3, 1) := by decide +kernel
theorem dX3_placeFor_3 : decode cX3_placeFor 3 = .ok (.aload_n 0, 1) := by decide +kernel
theorem dX3_placeFor_4 : decode cX3_placeFor 4 = .ok (.getfield 12, 3) := by decide +kernel
theorem dX3_placeFor_7 : decode cX3_placeFor 7 = .ok (.invokevirtual 24, 3) := by decide +kernel
theorem dX3_placeFor_10 : decode cX3_placeFor 10 = .ok (.if_icmp .ge 51, 3) := by decide +kernel
theorem dX3_placeFor_13 : decode cX3_placeFor 13 = .ok (.aload_n 0, 1) := by decide +kernel
theorem dX3_placeFor_14 : decode cX3_placeFor 14 = .ok (.getfield 12, 3) := by decide +kernel
theorem dX3_placeFor_17 : decode cX3_placeFor 17 = .ok (.iload_n 3, 1) := by decide +kernel
theorem dX3_placeFor_18 : decode cX3_placeFor 18 = .ok (.invokevirtual 45, 3) := by decide +kernel
theorem dX3_placeFor_21 : decode cX3_placeFor 21 = .ok (.checkcast 49, 3) := by decide +kernel
theorem dX3_placeFor_24 : decode cX3_placeFor 24 = .ok (.astore 4, 2) := by decide +kernel
theorem dX3_placeFor_26 : decode cX3_placeFor 26 = .ok (.aload 4, 2) := by decide +kernel
theorem dX3_placeFor_28 : decode cX3_placeFor 28 = .ok (.getfield 80, 3) := by decide +kernel
theorem dX3_placeFor_31 : decode cX3_placeFor 31 = .ok (.iload_n 1, 1) := by decide +kernel
theorem dX3_placeFor_32 : decode cX3_placeFor 32 = .ok (.if_icmp .gt 21, 3) := by decide +kernel
theorem dX3_placeFor_35 : decode cX3_placeFor 35 = .ok (.aload 4, 2) := by decide +kernel
theorem dX3_placeFor_37 : decode cX3_placeFor 37 = .ok (.getfield 80, 3) := by decide +kernel
theorem dX3_placeFor_40 : decode cX3_placeFor 40 = .ok (.iload_n 1, 1) := by decide +kernel
theorem dX3_placeFor_41 : decode cX3_placeFor 41 = .ok (.if_icmp .ne 14, 3) := by decide +kernel
theorem dX3_placeFor_44 : decode cX3_placeFor 44 = .ok (.aload 4, 2) := by decide +kernel
theorem dX3_placeFor_46 : decode cX3_placeFor 46 = .ok (.getfield 77, 3) := by decide +kernel
theorem dX3_placeFor_49 : decode cX3_placeFor 49 = .ok (.iload_n 2, 1) := by decide +kernel
theorem dX3_placeFor_50 : decode cX3_placeFor 50 = .ok (.if_icmp .lt 5, 3) := by decide +kernel
theorem dX3_placeFor_53 : decode cX3_placeFor 53 = .ok (.iload_n 3, 1) := by decide +kernel
theorem dX3_placeFor_54 : decode cX3_placeFor 54 = .ok (.ireturn, 1) := by decide +kernel
theorem dX3_placeFor_55 : decode cX3_placeFor 55 = .ok (.iinc 3 1, 3) := by decide +kernel
theorem dX3_placeFor_58 : decode cX3_placeFor 58 = .ok (.goto (-56), 3) := by decide +kernel
theorem dX3_placeFor_61 : decode cX3_placeFor 61 = .ok (.aload_n 0, 1) := by decide +kernel
theorem dX3_placeFor_62 : decode cX3_placeFor 62 = .ok (.getfield 12, 3) := by decide +kernel
theorem dX3_placeFor_65 : decode cX3_placeFor 65 = .ok (.invokevirtual 24, 3) := by decide +kernel
theorem dX3_placeFor_68 : decode cX3_placeFor 68 = .ok (.ireturn, 1) := by decide +kernel
def X3_placeFor_b55 (k2 : Nat → Int32 → Int32 → Int32 → M Int32)  (a0 : Nat) (i1 : Int32) (i2 : Int32) (i3 : Int32) : M Int32 := k2 a0 i1 i2 (i3 + 1)
def X3_placeFor_b2b  (k2 : Nat → Int32 → Int32 → Int32 → M Int32) (a0 : Nat) (i1 : Int32) (i2 : Int32) (i3 : Int32) : M Int32 := bd (gR 6 0 a0) (fun y1 => bd (ck 2 y1) (fun _ => bd (Jx4a65c_size_8abf5 y1) (fun x2 => it (x2 ≤ i3) (bd (gR 6 0 a0) (fun y3 => bd (ck 2 y3) (fun _ => bd (Jx4a65c_size_8abf5 y3) (fun x4 => pu x4)))) (bd (gR 6 0 a0) (fun y5 => bd (ck 2 y5) (fun _ => bd (Jx4a65c_get_915e3 y5 i3) (fun y6 => bd (ck 7 y6) (fun _ => bd (gI 7 1 y6) (fun x7 => it (i1 < x7) (pu i3) (bd (gI 7 1 y6) (fun x8 => it (¬ x8 = i1) (X3_placeFor_b55 k2  a0 i1 i2 i3) (bd (gI 7 2 y6) (fun x9 => it (x9 < i2) (X3_placeFor_b55 k2  a0 i1 i2 i3) (pu i3))))))))))))))
def X3_placeFor_b2  : Nat → Nat → Int32 → Int32 → Int32 → M Int32
  | 0 => fun _ _ _ _ => fl
  | n + 1 => fun a0 i1 i2 i3 => X3_placeFor_b2b  (X3_placeFor_b2  n) a0 i1 i2 i3
def X3_placeFor (a0 : Nat) (i1 : Int32) (i2 : Int32) : M Int32 := X3_placeFor_b2  FU a0 i1 i2 0
section
variable {G : Gx} {p : Program} {l : Launch} {e : Env} {R : Room} {s : State} {m : MethodId} {args : Array Value} {below : List Frame} {meth : Method} {c : Code} {h0 : Hp} {r : Int32} {h' : Hp}
set_option maxRecDepth 20000 in
theorem X3_placeFor_b55_s (C : Cx G p R s m args meth c cX3_placeFor 5 yX3_placeFor.cls h0 h') (hF : R.frames = 3) (hO : R.locals = 64) (hr : meth.sig.returnType = (some .int)) (hm : meth.name = yX3_placeFor.name) {k2 : Nat → Int32 → Int32 → Int32 → M Int32} (hk2 : ∀ (a0 : Nat) (i1 : Int32) (i2 : Int32) (i3 : Int32), Sm G (QM G rvI below args s h0 r h') p l e R s m args below meth c 5 h0 r h' 2 [(0, .ref a0), (1, .int i1), (2, .int i2), (3, .int i3)] [] (k2 a0 i1 i2 i3))  (a0 : Nat) (i1 : Int32) (i2 : Int32) (i3 : Int32) : Sm G (QM G rvI below args s h0 r h') p l e R s m args below meth c 5 h0 r h' 55 [(0, .ref a0), (1, .int i1), (2, .int i2), (3, .int i3)] [] (X3_placeFor_b55 k2  a0 i1 i2 i3) := by
  refine s_iincK (lv' := [(3, .int (i3 + 1)), (0, .ref a0), (1, .int i1), (2, .int i2)]) (w := 1) C 3 dX3_placeFor_55 rfl (by decide) (by decide) rfl ?_
  refine s_goto (tgt := 2) C dX3_placeFor_58 (by decide) ?_
  refine s_sub [1, 2, 3, 0] rfl ?_
  exact hk2 a0 i1 i2 (i3 + 1)
set_option maxRecDepth 20000 in
theorem X3_placeFor_b2b_s (C : Cx G p R s m args meth c cX3_placeFor 5 yX3_placeFor.cls h0 h') (hF : R.frames = 3) (hO : R.locals = 64) (hr : meth.sig.returnType = (some .int)) (hm : meth.name = yX3_placeFor.name)  {k2 : Nat → Int32 → Int32 → Int32 → M Int32} (hk2 : ∀ (a0 : Nat) (i1 : Int32) (i2 : Int32) (i3 : Int32), Sm G (QM G rvI below args s h0 r h') p l e R s m args below meth c 5 h0 r h' 2 [(0, .ref a0), (1, .int i1), (2, .int i2), (3, .int i3)] [] (k2 a0 i1 i2 i3)) (a0 : Nat) (i1 : Int32) (i2 : Int32) (i3 : Int32) : Sm G (QM G rvI below args s h0 r h') p l e R s m args below meth c 5 h0 r h' 2 [(0, .ref a0), (1, .int i1), (2, .int i2), (3, .int i3)] [] (X3_placeFor_b2b  k2 a0 i1 i2 i3) := by
  refine s_iload_n C 3 dX3_placeFor_2 rfl rfl ?_
  refine s_aload_n C 0 dX3_placeFor_3 rfl rfl ?_
  refine s_gR C ci6 0 (by decide) (Or.inl wd_1_87) dX3_placeFor_4 (fun y1 => ?_)
  refine s_invV_i C ci2 cy_Jx4a65c_size_8abf5 (Or.inl wd_1_212) rfl wd_1_213 wd_1_214 (con_Jx4a65c_size_8abf5 l G y1) rfl rfl (Nat.le_of_ble_eq_true rfl) (by rw [hF]; decide) (by rw [hO]; exact Nat.le_of_ble_eq_true rfl) dX3_placeFor_7 (fun x2 => ?_)
  refine s_icmp_ge (tgt := 61) C dX3_placeFor_10 (by decide) ?_ ?_
  · refine s_aload_n C 0 dX3_placeFor_61 rfl rfl ?_
    refine s_gR C ci6 0 (by decide) (Or.inl wd_1_87) dX3_placeFor_62 (fun y3 => ?_)
    refine s_invV_i C ci2 cy_Jx4a65c_size_8abf5 (Or.inl wd_1_212) rfl wd_1_213 wd_1_214 (con_Jx4a65c_size_8abf5 l G y3) rfl rfl (Nat.le_of_ble_eq_true rfl) (by rw [hF]; decide) (by rw [hO]; exact Nat.le_of_ble_eq_true rfl) dX3_placeFor_65 (fun x4 => ?_)
    exact s_iret C hr rfl dX3_placeFor_68
  refine s_aload_n C 0 dX3_placeFor_13 rfl rfl ?_
  refine s_gR C ci6 0 (by decide) (Or.inl wd_1_87) dX3_placeFor_14 (fun y5 => ?_)
  refine s_iload_n C 3 dX3_placeFor_17 rfl rfl ?_
  refine s_invV_r C ci2 cy_Jx4a65c_get_915e3 (Or.inl wd_2_138) rfl wd_2_139 wd_2_140 (con_Jx4a65c_get_915e3 l G y5 i3) rfl rfl (Nat.le_of_ble_eq_true rfl) (by rw [hF]; decide) (by rw [hO]; exact Nat.le_of_ble_eq_true rfl) dX3_placeFor_18 (fun y6 => ?_)
  refine s_ck C ci7 wd_1_237 dX3_placeFor_21 ?_
  refine s_astore (lv' := [(4, .ref y6), (0, .ref a0), (1, .int i1), (2, .int i2), (3, .int i3)]) C dX3_placeFor_24 (by decide) rfl ?_
  refine s_aload C 0 dX3_placeFor_26 rfl ?_
  refine s_gI C ci7 1 (by decide) (Or.inr (Or.inr ⟨_, wd_3_219⟩)) dX3_placeFor_28 (fun x7 => ?_)
  refine s_iload_n C 2 dX3_placeFor_31 rfl rfl ?_
  refine s_icmp_gt (tgt := 53) C dX3_placeFor_32 (by decide) ?_ ?_
  · refine s_iload_n C 4 dX3_placeFor_53 rfl rfl ?_
    exact s_iret C hr rfl dX3_placeFor_54
  refine s_aload C 0 dX3_placeFor_35 rfl ?_
  refine s_gI C ci7 1 (by decide) (Or.inr (Or.inr ⟨_, wd_3_219⟩)) dX3_placeFor_37 (fun x8 => ?_)
  refine s_iload_n C 2 dX3_placeFor_40 rfl rfl ?_
  refine s_icmp_ne (tgt := 55) C dX3_placeFor_41 (by decide) ?_ ?_
  · refine s_sub [1, 2, 3, 4] rfl ?_
    exact X3_placeFor_b55_s C hF hO hr hm hk2  a0 i1 i2 i3
  refine s_aload C 0 dX3_placeFor_44 rfl ?_
  refine s_gI C ci7 2 (by decide) (Or.inr (Or.inr ⟨_, wd_3_224⟩)) dX3_placeFor_46 (fun x9 => ?_)
  refine s_iload_n C 3 dX3_placeFor_49 rfl rfl ?_
  refine s_icmp_lt (tgt := 55) C dX3_placeFor_50 (by decide) ?_ ?_
  · refine s_sub [1, 2, 3, 4] rfl ?_
    exact X3_placeFor_b55_s C hF hO hr hm hk2  a0 i1 i2 i3
  refine s_iload_n C 4 dX3_placeFor_53 rfl rfl ?_
  exact s_iret C hr rfl dX3_placeFor_54
set_option maxRecDepth 20000 in
theorem X3_placeFor_b2_s (C : Cx G p R s m args meth c cX3_placeFor 5 yX3_placeFor.cls h0 h') (hF : R.frames = 3) (hO : R.locals = 64) (hr : meth.sig.returnType = (some .int)) (hm : meth.name = yX3_placeFor.name)  (n : Nat) : ∀ (a0 : Nat) (i1 : Int32) (i2 : Int32) (i3 : Int32), Sm G (QM G rvI below args s h0 r h') p l e R s m args below meth c 5 h0 r h' 2 [(0, .ref a0), (1, .int i1), (2, .int i2), (3, .int i3)] [] (X3_placeFor_b2  n a0 i1 i2 i3) := by
  induction n with
  | zero => intro a0 i1 i2 i3; exact s_fl
  | succ n ih => intro a0 i1 i2 i3; exact X3_placeFor_b2b_s C hF hO hr hm  ih a0 i1 i2 i3
end
set_option maxRecDepth 20000 in
theorem con_X3_placeFor (l : Launch) (G : Gx) (a0 : Nat) (i1 : Int32) (i2 : Int32) : Con G rvI l yX3_placeFor cX3_placeFor 5 (some .int) 3 64 [.ref a0, .int i1, .int i2] (X3_placeFor a0 i1 i2) := by
  refine con_of (lv := [(0, .ref a0), (1, .int i1), (2, .int i2)]) (by decide) (Nat.le_of_ble_eq_true rfl) rfl (fun p e R s m args below meth c h0 r h' C hF hO hr hm => ?_)
  refine s_iconst (v := 0) C dX3_placeFor_0 (by decide) ?_
  refine s_istore_n (lv' := [(3, .int 0), (0, .ref a0), (1, .int i1), (2, .int i2)]) C dX3_placeFor_1 rfl (by decide) rfl ?_
  refine s_sub [1, 2, 3, 0] rfl ?_
  exact X3_placeFor_b2_s C hF hO hr hm  FU a0 i1 i2 0

theorem dX4_isOf_0 : decode cX4_isOf 0 = .ok (.aload_n 0, 1) := by decide +kernel
theorem dX4_isOf_1 : decode cX4_isOf 1 = .ok (.getfield 16, 3) := by decide +kernel
theorem dX4_isOf_4 : decode cX4_isOf 4 = .ok (.iload_n 1, 1) := by decide +kernel
theorem dX4_isOf_5 : decode cX4_isOf 5 = .ok (.if_icmp .ne 15, 3) := by decide +kernel
theorem dX4_isOf_8 : decode cX4_isOf 8 = .ok (.aload_n 0, 1) := by decide +kernel
theorem dX4_isOf_9 : decode cX4_isOf 9 = .ok (.getfield 20, 3) := by decide +kernel
theorem dX4_isOf_12 : decode cX4_isOf 12 = .ok (.iload_n 2, 1) := by decide +kernel
theorem dX4_isOf_13 : decode cX4_isOf 13 = .ok (.if_icmp .ne 7, 3) := by decide +kernel
theorem dX4_isOf_16 : decode cX4_isOf 16 = .ok (.iconst 1, 1) := by decide +kernel
theorem dX4_isOf_17 : decode cX4_isOf 17 = .ok (.goto 4, 3) := by decide +kernel
theorem dX4_isOf_20 : decode cX4_isOf 20 = .ok (.iconst 0, 1) := by decide +kernel
theorem dX4_isOf_21 : decode cX4_isOf 21 = .ok (.ireturn, 1) := by decide +kernel
def X4_isOf (a0 : Nat) (i1 : Int32) (i2 : Int32) : M Int32 := bd (gI 7 1 a0) (fun x1 => it (¬ x1 = i1) (pu 0) (bd (gI 7 2 a0) (fun x2 => it (¬ x2 = i2) (pu 0) (pu 1))))
section
variable {G : Gx} {p : Program} {l : Launch} {e : Env} {R : Room} {s : State} {m : MethodId} {args : Array Value} {below : List Frame} {meth : Method} {c : Code} {h0 : Hp} {r : Int32} {h' : Hp}
end
set_option maxRecDepth 20000 in
theorem con_X4_isOf (l : Launch) (G : Gx) (a0 : Nat) (i1 : Int32) (i2 : Int32) : Con G rvI l yX4_isOf cX4_isOf 3 (some .boolean) 0 0 [.ref a0, .int i1, .int i2] (X4_isOf a0 i1 i2) := by
  refine con_of (lv := [(0, .ref a0), (1, .int i1), (2, .int i2)]) (by decide) (Nat.le_of_ble_eq_true rfl) rfl (fun p e R s m args below meth c h0 r h' C hF hO hr hm => ?_)
  refine s_aload_n C 0 dX4_isOf_0 rfl rfl ?_
  refine s_gI C ci7 1 (by decide) (Or.inl wd_3_217) dX4_isOf_1 (fun x1 => ?_)
  refine s_iload_n C 1 dX4_isOf_4 rfl rfl ?_
  refine s_icmp_ne (tgt := 20) C dX4_isOf_5 (by decide) ?_ ?_
  · refine s_iconst (v := 0) C dX4_isOf_20 (by decide) ?_
    exact s_zret C hr rfl (Or.inl rfl) dX4_isOf_21
  refine s_aload_n C 0 dX4_isOf_8 rfl rfl ?_
  refine s_gI C ci7 2 (by decide) (Or.inl wd_3_222) dX4_isOf_9 (fun x2 => ?_)
  refine s_iload_n C 2 dX4_isOf_12 rfl rfl ?_
  refine s_icmp_ne (tgt := 20) C dX4_isOf_13 (by decide) ?_ ?_
  · refine s_iconst (v := 0) C dX4_isOf_20 (by decide) ?_
    exact s_zret C hr rfl (Or.inl rfl) dX4_isOf_21
  refine s_iconst (v := 1) C dX4_isOf_16 (by decide) ?_
  refine s_goto (tgt := 21) C dX4_isOf_17 (by decide) ?_
  exact s_zret C hr rfl (Or.inr rfl) dX4_isOf_21

theorem dX3_find_0 : decode cX3_find 0 = .ok (.aload_n 0, 1) := by decide +kernel
theorem dX3_find_1 : decode cX3_find 1 = .ok (.aload_n 0, 1) := by decide +kernel
theorem dX3_find_2 : decode cX3_find 2 = .ok (.iload_n 1, 1) := by decide +kernel
theorem dX3_find_3 : decode cX3_find 3 = .ok (.iload_n 2, 1) := by decide +kernel
theorem dX3_find_4 : decode cX3_find 4 = .ok (.invokevirtual 51, 3) := by decide +kernel
theorem dX3_find_7 : decode cX3_find 7 = .ok (.invokevirtual 55, 3) := by decide +kernel
theorem dX3_find_10 : decode cX3_find 10 = .ok (.astore_n 3, 1) := by decide +kernel
theorem dX3_find_11 : decode cX3_find 11 = .ok (.aload_n 3, 1) := by decide +kernel
theorem dX3_find_12 : decode cX3_find 12 = .ok (.ifnull 16, 3) := by decide +kernel
theorem dX3_find_15 : decode cX3_find 15 = .ok (.aload_n 3, 1) := by decide +kernel
theorem dX3_find_16 : decode cX3_find 16 = .ok (.iload_n 1, 1) := by decide +kernel
theorem dX3_find_17 : decode cX3_find 17 = .ok (.iload_n 2, 1) := by decide +kernel
theorem dX3_find_18 : decode cX3_find 18 = .ok (.invokevirtual 59, 3) := by decide +kernel
theorem dX3_find_21 : decode cX3_find 21 = .ok (.ifCond .eq 7, 3) := by decide +kernel
theorem dX3_find_24 : decode cX3_find 24 = .ok (.aload_n 3, 1) := by decide +kernel
theorem dX3_find_25 : decode cX3_find 25 = .ok (.goto 4, 3) := by decide +kernel
theorem dX3_find_28 : decode cX3_find 28 = .ok (.aconst_null, 1) := by decide +kernel
theorem dX3_find_29 : decode cX3_find 29 = .ok (.areturn, 1) := by decide +kernel
def X3_find (a0 : Nat) (i1 : Int32) (i2 : Int32) : M (Option Nat) := bd (ck 6 a0) (fun _ => bd (X3_placeFor a0 i1 i2) (fun x1 => bd (ck 6 a0) (fun _ => bd (X3_at a0 x1) (fun z2 => co z2 (pu none) (fun y3 => bd (ck 7 y3) (fun _ => bd (X4_isOf y3 i1 i2) (fun x4 => it (x4 = 0) (pu none) (pu (some y3)))))))))
section
variable {G : Gx} {p : Program} {l : Launch} {e : Env} {R : Room} {s : State} {m : MethodId} {args : Array Value} {below : List Frame} {meth : Method} {c : Code} {h0 : Hp} {r : Option Nat} {h' : Hp}
end
set_option maxRecDepth 20000 in
theorem con_X3_find (l : Launch) (G : Gx) (a0 : Nat) (i1 : Int32) (i2 : Int32) : Con G rvO l yX3_find cX3_find 4 (some (.object "AppendKeep$DiskFile")) 4 88 [.ref a0, .int i1, .int i2] (X3_find a0 i1 i2) := by
  refine con_of (lv := [(0, .ref a0), (1, .int i1), (2, .int i2)]) (by decide) (Nat.le_of_ble_eq_true rfl) rfl (fun p e R s m args below meth c h0 r h' C hF hO hr hm => ?_)
  refine s_aload_n C 0 dX3_find_0 rfl rfl ?_
  refine s_aload_n C 0 dX3_find_1 rfl rfl ?_
  refine s_iload_n C 1 dX3_find_2 rfl rfl ?_
  refine s_iload_n C 2 dX3_find_3 rfl rfl ?_
  refine s_invV_i C ci6 cy_X3_placeFor (Or.inl wd_3_179) rfl wd_3_181 wp_13 (con_X3_placeFor l G a0 i1 i2) rfl rfl (Nat.le_of_ble_eq_true rfl) (by rw [hF]; decide) (by rw [hO]; exact Nat.le_of_ble_eq_true rfl) dX3_find_4 (fun x1 => ?_)
  refine s_invV_o C ci6 cy_X3_at (Or.inl wd_3_183) rfl wd_2_135 wd_2_136 (con_X3_at l G a0 x1) rfl rfl (Nat.le_of_ble_eq_true rfl) (by rw [hF]; decide) (by rw [hO]; exact Nat.le_of_ble_eq_true rfl) dX3_find_7 (fun z2 => ?_)
  refine s_ostore_n (lv' := [(3, va_rf z2), (0, .ref a0), (1, .int i1), (2, .int i2)]) C dX3_find_10 rfl (by decide) rfl ?_
  refine s_oload_n C 0 dX3_find_11 rfl rfl ?_
  refine s_ifnull (tgt := 28) C dX3_find_12 (by decide) (fun hq => ?_) (fun y3 hq => ?_)
  · subst hq
    refine s_nullO C dX3_find_28 ?_
    exact s_aret (v := none) C hr (by first | exact Or.inl ⟨_, rfl⟩ | exact Or.inr ⟨_, rfl⟩) rfl dX3_find_29
  subst hq
  refine s_aload_n C 0 dX3_find_15 rfl rfl ?_
  refine s_iload_n C 2 dX3_find_16 rfl rfl ?_
  refine s_iload_n C 3 dX3_find_17 rfl rfl ?_
  refine s_invV_i C ci7 cy_X4_isOf (Or.inl wd_3_184) rfl wd_3_185 wd_3_186 (con_X4_isOf l G y3 i1 i2) rfl rfl (Nat.le_of_ble_eq_true rfl) (by rw [hF]; decide) (by rw [hO]; exact Nat.le_of_ble_eq_true rfl) dX3_find_18 (fun x4 => ?_)
  refine s_if_eq (tgt := 28) C dX3_find_21 (by decide) ?_ ?_
  · refine s_nullO C dX3_find_28 ?_
    exact s_aret (v := none) C hr (by first | exact Or.inl ⟨_, rfl⟩ | exact Or.inr ⟨_, rfl⟩) rfl dX3_find_29
  refine s_aload_n C 0 dX3_find_24 rfl rfl ?_
  refine s_goto (tgt := 29) C dX3_find_25 (by decide) ?_
  exact s_aret (v := (some y3)) C hr (by first | exact Or.inl ⟨_, rfl⟩ | exact Or.inr ⟨_, rfl⟩) rfl dX3_find_29

theorem dX3_sizeOf_0 : decode cX3_sizeOf 0 = .ok (.aload_n 0, 1) := by decide +kernel
theorem dX3_sizeOf_1 : decode cX3_sizeOf 1 = .ok (.iload_n 1, 1) := by decide +kernel
theorem dX3_sizeOf_2 : decode cX3_sizeOf 2 = .ok (.iload_n 2, 1) := by decide +kernel
theorem dX3_sizeOf_3 : decode cX3_sizeOf 3 = .ok (.invokevirtual 63, 3) := by decide +kernel
theorem dX3_sizeOf_6 : decode cX3_sizeOf 6 = .ok (.astore_n 3, 1) := by decide +kernel
theorem dX3_sizeOf_7 : decode cX3_sizeOf 7 = .ok (.aload_n 3, 1) := by decide +kernel
theorem dX3_sizeOf_8 : decode cX3_sizeOf 8 = .ok (.ifnonnull 7, 3) := by decide +kernel
theorem dX3_sizeOf_11 : decode cX3_sizeOf 11 = .ok (.iconst 0, 1) := by decide +kernel
theorem dX3_sizeOf_12 : decode cX3_sizeOf 12 = .ok (.goto 10, 3) := by decide +kernel
theorem dX3_sizeOf_15 : decode cX3_sizeOf 15 = .ok (.aload_n 3, 1) := by decide +kernel
theorem dX3_sizeOf_16 : decode cX3_sizeOf 16 = .ok (.getfield 67, 3) := by decide +kernel
theorem dX3_sizeOf_19 : decode cX3_sizeOf 19 = .ok (.invokevirtual 71, 3) := by decide +kernel
theorem dX3_sizeOf_22 : decode cX3_sizeOf 22 = .ok (.ireturn, 1) := by decide +kernel
def X3_sizeOf (a0 : Nat) (i1 : Int32) (i2 : Int32) : M Int32 := bd (ck 6 a0) (fun _ => bd (X3_find a0 i1 i2) (fun z1 => co z1 (pu 0) (fun y2 => bd (gR 7 0 y2) (fun y3 => bd (ck 4 y3) (fun _ => bd (X1_size y3) (fun x4 => pu x4))))))
section
variable {G : Gx} {p : Program} {l : Launch} {e : Env} {R : Room} {s : State} {m : MethodId} {args : Array Value} {below : List Frame} {meth : Method} {c : Code} {h0 : Hp} {r : Int32} {h' : Hp}
end
set_option maxRecDepth 20000 in
theorem con_X3_sizeOf (l : Launch) (G : Gx) (a0 : Nat) (i1 : Int32) (i2 : Int32) : Con G rvI l yX3_sizeOf cX3_sizeOf 4 (some .int) 5 111 [.ref a0, .int i1, .int i2] (X3_sizeOf a0 i1 i2) := by
  refine con_of (lv := [(0, .ref a0), (1, .int i1), (2, .int i2)]) (by decide) (Nat.le_of_ble_eq_true rfl) rfl (fun p e R s m args below meth c h0 r h' C hF hO hr hm => ?_)
  refine s_aload_n C 0 dX3_sizeOf_0 rfl rfl ?_
  refine s_iload_n C 1 dX3_sizeOf_1 rfl rfl ?_
  refine s_iload_n C 2 dX3_sizeOf_2 rfl rfl ?_
  refine s_invV_o C ci6 cy_X3_find (Or.inl wd_3_175) rfl wd_3_176 wd_3_177 (con_X3_find l G a0 i1 i2) rfl rfl (Nat.le_of_ble_eq_true rfl) (by rw [hF]; decide) (by rw [hO]; exact Nat.le_of_ble_eq_true rfl) dX3_sizeOf_3 (fun z1 => ?_)
  refine s_ostore_n (lv' := [(3, va_rf z1), (0, .ref a0), (1, .int i1), (2, .int i2)]) C dX3_sizeOf_6 rfl (by decide) rfl ?_
  refine s_oload_n C 0 dX3_sizeOf_7 rfl rfl ?_
  refine s_ifnonnull (tgt := 15) C dX3_sizeOf_8 (by decide) (fun hq => ?_) (fun y2 hq => ?_)
  · subst hq
    refine s_iconst (v := 0) C dX3_sizeOf_11 (by decide) ?_
    refine s_goto (tgt := 22) C dX3_sizeOf_12 (by decide) ?_
    exact s_iret C hr rfl dX3_sizeOf_22
  subst hq
  refine s_aload_n C 0 dX3_sizeOf_15 rfl rfl ?_
  refine s_gR C ci7 0 (by decide) (Or.inr (Or.inr ⟨_, wd_3_214⟩)) dX3_sizeOf_16 (fun y3 => ?_)
  refine s_invV_i C ci4 cy_X1_size (Or.inl wd_2_179) rfl wd_2_147 wd_2_148 (con_X1_size l G y3) rfl rfl (Nat.le_of_ble_eq_true rfl) (by rw [hF]; decide) (by rw [hO]; exact Nat.le_of_ble_eq_true rfl) dX3_sizeOf_19 (fun x4 => ?_)
  exact s_iret C hr rfl dX3_sizeOf_22

theorem dX3_room_0 : decode cX3_room 0 = .ok (.aload_n 0, 1) := by decide +kernel
theorem dX3_room_1 : decode cX3_room 1 = .ok (.getfield 36, 3) := by decide +kernel
theorem dX3_room_4 : decode cX3_room 4 = .ok (.istore_n 1, 1) := by decide +kernel
theorem dX3_room_5 : decode cX3_room 5 = .ok (.iconst 0, 1) := by decide +kernel
theorem dX3_room_6 : decode cX3_room 6 = .ok (.istore_n 2, 1) := by decide +kernel
theorem dX3_room_7 : decode cX3_room 7 = .ok (.iload_n 2, 1) := by decide +kernel
theorem dX3_room_8 : decode cX3_room 8 = .ok (.aload_n 0, 1) := by decide +kernel
theorem dX3_room_9 : decode cX3_room 9 = .ok (.getfield 12, 3) := by decide +kernel
theorem dX3_room_12 : decode cX3_room 12 = .ok (.invokevirtual 24, 3) := by decide +kernel
theorem dX3_room_15 : decode cX3_room 15 = .ok (.if_icmp .ge 29, 3) := by decide +kernel
theorem dX3_room_18 : decode cX3_room 18 = .ok (.iload_n 1, 1) := by decide +kernel
theorem dX3_room_19 : decode cX3_room 19 = .ok (.aload_n 0, 1) := by decide +kernel
theorem dX3_room_20 : decode cX3_room 20 = .ok (.getfield 12, 3) := by decide +kernel
theorem dX3_room_23 : decode cX3_room 23 = .ok (.iload_n 2, 1) := by decide +kernel
theorem dX3_room_24 : decode cX3_room 24 = .ok (.invokevirtual 45, 3) := by decide +kernel
theorem dX3_room_27 : decode cX3_room 27 = .ok (.checkcast 49, 3) := by decide +kernel
theorem dX3_room_30 : decode cX3_room 30 = .ok (.getfield 67, 3) := by decide +kernel
theorem dX3_room_33 : decode cX3_room 33 = .ok (.invokevirtual 71, 3) := by decide +kernel
theorem dX3_room_36 : decode cX3_room 36 = .ok (.isub, 1) := by decide +kernel
theorem dX3_room_37 : decode cX3_room 37 = .ok (.istore_n 1, 1) := by decide +kernel
theorem dX3_room_38 : decode cX3_room 38 = .ok (.iinc 2 1, 3) := by decide +kernel
theorem dX3_room_41 : decode cX3_room 41 = .ok (.goto (-34), 3) := by decide +kernel
theorem dX3_room_44 : decode cX3_room 44 = .ok (.iload_n 1, 1) := by decide +kernel
theorem dX3_room_45 : decode cX3_room 45 = .ok (.ireturn, 1) := by decide +kernel
def X3_room_b7b  (k7 : Nat → Int32 → Int32 → M Int32) (a0 : Nat) (i1 : Int32) (i2 : Int32) : M Int32 := bd (gR 6 0 a0) (fun y1 => bd (ck 2 y1) (fun _ => bd (Jx4a65c_size_8abf5 y1) (fun x2 => it (x2 ≤ i2) (pu i1) (bd (gR 6 0 a0) (fun y3 => bd (ck 2 y3) (fun _ => bd (Jx4a65c_get_915e3 y3 i2) (fun y4 => bd (ck 7 y4) (fun _ => bd (gR 7 0 y4) (fun y5 => bd (ck 4 y5) (fun _ => bd (X1_size y5) (fun x6 => bd (pu (i1 - x6)) (fun x7 => k7 a0 x7 (i2 + 1)))))))))))))
def X3_room_b7  : Nat → Nat → Int32 → Int32 → M Int32
  | 0 => fun _ _ _ => fl
  | n + 1 => fun a0 i1 i2 => X3_room_b7b  (X3_room_b7  n) a0 i1 i2
def X3_room (a0 : Nat) : M Int32 := bd (gI 6 4 a0) (fun x1 => X3_room_b7  FU a0 x1 0)
section
variable {G : Gx} {p : Program} {l : Launch} {e : Env} {R : Room} {s : State} {m : MethodId} {args : Array Value} {below : List Frame} {meth : Method} {c : Code} {h0 : Hp} {r : Int32} {h' : Hp}
set_option maxRecDepth 20000 in
theorem X3_room_b7b_s (C : Cx G p R s m args meth c cX3_room 3 yX3_room.cls h0 h') (hF : R.frames = 3) (hO : R.locals = 64) (hr : meth.sig.returnType = (some .int)) (hm : meth.name = yX3_room.name)  {k7 : Nat → Int32 → Int32 → M Int32} (hk7 : ∀ (a0 : Nat) (i1 : Int32) (i2 : Int32), Sm G (QM G rvI below args s h0 r h') p l e R s m args below meth c 3 h0 r h' 7 [(0, .ref a0), (1, .int i1), (2, .int i2)] [] (k7 a0 i1 i2)) (a0 : Nat) (i1 : Int32) (i2 : Int32) : Sm G (QM G rvI below args s h0 r h') p l e R s m args below meth c 3 h0 r h' 7 [(0, .ref a0), (1, .int i1), (2, .int i2)] [] (X3_room_b7b  k7 a0 i1 i2) := by
  refine s_iload_n C 2 dX3_room_7 rfl rfl ?_
  refine s_aload_n C 0 dX3_room_8 rfl rfl ?_
  refine s_gR C ci6 0 (by decide) (Or.inl wd_1_87) dX3_room_9 (fun y1 => ?_)
  refine s_invV_i C ci2 cy_Jx4a65c_size_8abf5 (Or.inl wd_1_212) rfl wd_1_213 wd_1_214 (con_Jx4a65c_size_8abf5 l G y1) rfl rfl (Nat.le_of_ble_eq_true rfl) (by rw [hF]; decide) (by rw [hO]; exact Nat.le_of_ble_eq_true rfl) dX3_room_12 (fun x2 => ?_)
  refine s_icmp_ge (tgt := 44) C dX3_room_15 (by decide) ?_ ?_
  · refine s_iload_n C 1 dX3_room_44 rfl rfl ?_
    exact s_iret C hr rfl dX3_room_45
  refine s_iload_n C 1 dX3_room_18 rfl rfl ?_
  refine s_aload_n C 0 dX3_room_19 rfl rfl ?_
  refine s_gR C ci6 0 (by decide) (Or.inl wd_1_87) dX3_room_20 (fun y3 => ?_)
  refine s_iload_n C 2 dX3_room_23 rfl rfl ?_
  refine s_invV_r C ci2 cy_Jx4a65c_get_915e3 (Or.inl wd_2_138) rfl wd_2_139 wd_2_140 (con_Jx4a65c_get_915e3 l G y3 i2) rfl rfl (Nat.le_of_ble_eq_true rfl) (by rw [hF]; decide) (by rw [hO]; exact Nat.le_of_ble_eq_true rfl) dX3_room_24 (fun y4 => ?_)
  refine s_ck C ci7 wd_1_237 dX3_room_27 ?_
  refine s_gR C ci7 0 (by decide) (Or.inr (Or.inr ⟨_, wd_3_214⟩)) dX3_room_30 (fun y5 => ?_)
  refine s_invV_i C ci4 cy_X1_size (Or.inl wd_2_179) rfl wd_2_147 wd_2_148 (con_X1_size l G y5) rfl rfl (Nat.le_of_ble_eq_true rfl) (by rw [hF]; decide) (by rw [hO]; exact Nat.le_of_ble_eq_true rfl) dX3_room_33 (fun x6 => ?_)
  refine s_isub C dX3_room_36 ?_
  refine s_let (fun x7 => ?_)
  refine s_istore_n (lv' := [(1, .int x7), (0, .ref a0), (2, .int i2)]) C dX3_room_37 rfl (by decide) rfl ?_
  refine s_iincK (lv' := [(2, .int (i2 + 1)), (1, .int x7), (0, .ref a0)]) (w := 1) C 2 dX3_room_38 rfl (by decide) (by decide) rfl ?_
  refine s_goto (tgt := 7) C dX3_room_41 (by decide) ?_
  refine s_sub [2, 1, 0] rfl ?_
  exact hk7 a0 x7 (i2 + 1)
set_option maxRecDepth 20000 in
theorem X3_room_b7_s (C : Cx G p R s m args meth c cX3_room 3 yX3_room.cls h0 h') (hF : R.frames = 3) (hO : R.locals = 64) (hr : meth.sig.returnType = (some .int)) (hm : meth.name = yX3_room.name)  (n : Nat) : ∀ (a0 : Nat) (i1 : Int32) (i2 : Int32), Sm G (QM G rvI below args s h0 r h') p l e R s m args below meth c 3 h0 r h' 7 [(0, .ref a0), (1, .int i1), (2, .int i2)] [] (X3_room_b7  n a0 i1 i2) := by
  induction n with
  | zero => intro a0 i1 i2; exact s_fl
  | succ n ih => intro a0 i1 i2; exact X3_room_b7b_s C hF hO hr hm  ih a0 i1 i2
end
set_option maxRecDepth 20000 in
theorem con_X3_room (l : Launch) (G : Gx) (a0 : Nat) : Con G rvI l yX3_room cX3_room 3 (some .int) 3 64 [.ref a0] (X3_room a0) := by
  refine con_of (lv := [(0, .ref a0)]) (by decide) (Nat.le_of_ble_eq_true rfl) rfl (fun p e R s m args below meth c h0 r h' C hF hO hr hm => ?_)
  refine s_aload_n C 0 dX3_room_0 rfl rfl ?_
  refine s_gI C ci6 4 (by decide) (Or.inl wd_1_91) dX3_room_1 (fun x1 => ?_)
  refine s_istore_n (lv' := [(1, .int x1), (0, .ref a0)]) C dX3_room_4 rfl (by decide) rfl ?_
  refine s_iconst (v := 0) C dX3_room_5 (by decide) ?_
  refine s_istore_n (lv' := [(2, .int 0), (1, .int x1), (0, .ref a0)]) C dX3_room_6 rfl (by decide) rfl ?_
  refine s_sub [2, 1, 0] rfl ?_
  exact X3_room_b7_s C hF hO hr hm  FU a0 x1 0

theorem dX3_unsynced_0 : decode cX3_unsynced 0 = .ok (.iconst 0, 1) := by decide +kernel
theorem dX3_unsynced_1 : decode cX3_unsynced 1 = .ok (.istore_n 1, 1) := by decide +kernel
theorem dX3_unsynced_2 : decode cX3_unsynced 2 = .ok (.iconst 0, 1) := by decide +kernel
theorem dX3_unsynced_3 : decode cX3_unsynced 3 = .ok (.istore_n 2, 1) := by decide +kernel
theorem dX3_unsynced_4 : decode cX3_unsynced 4 = .ok (.iload_n 2, 1) := by decide +kernel
theorem dX3_unsynced_5 : decode cX3_unsynced 5 = .ok (.aload_n 0, 1) := by decide +kernel
theorem dX3_unsynced_6 : decode cX3_unsynced 6 = .ok (.getfield 12, 3) := by decide +kernel
theorem dX3_unsynced_9 : decode cX3_unsynced 9 = .ok (.invokevirtual 24, 3) := by decide +kernel
theorem dX3_unsynced_12 : decode cX3_unsynced 12 = .ok (.if_icmp .ge 26, 3) := by decide +kernel
theorem dX3_unsynced_15 : decode cX3_unsynced 15 = .ok (.iload_n 1, 1) := by decide +kernel
theorem dX3_unsynced_16 : decode cX3_unsynced 16 = .ok (.aload_n 0, 1) := by decide +kernel
theorem dX3_unsynced_17 : decode cX3_unsynced 17 = .ok (.getfield 12, 3) := by decide +kernel
theorem dX3_unsynced_20 : decode cX3_unsynced 20 = .ok (.iload_n 2, 1) := by decide +kernel
theorem dX3_unsynced_21 : decode cX3_unsynced 21 = .ok (.invokevirtual 45, 3) := by decide +kernel
theorem dX3_unsynced_24 : decode cX3_unsynced 24 = .ok (.checkcast 49, 3) := by decide +kernel
theorem dX3_unsynced_27 : decode cX3_unsynced 27 = .ok (.getfield 74, 3) := by decide +kernel
theorem dX3_unsynced_30 : decode cX3_unsynced 30 = .ok (.iadd, 1) := by decide +kernel
theorem dX3_unsynced_31 : decode cX3_unsynced 31 = .ok (.istore_n 1, 1) := by decide +kernel
theorem dX3_unsynced_32 : decode cX3_unsynced 32 = .ok (.iinc 2 1, 3) := by decide +kernel
theorem dX3_unsynced_35 : decode cX3_unsynced 35 = .ok (.goto (-31), 3) := by decide +kernel
theorem dX3_unsynced_38 : decode cX3_unsynced 38 = .ok (.iload_n 1, 1) := by decide +kernel
theorem dX3_unsynced_39 : decode cX3_unsynced 39 = .ok (.ireturn, 1) := by decide +kernel
def X3_unsynced_b4b  (k4 : Nat → Int32 → Int32 → M Int32) (a0 : Nat) (i1 : Int32) (i2 : Int32) : M Int32 := bd (gR 6 0 a0) (fun y1 => bd (ck 2 y1) (fun _ => bd (Jx4a65c_size_8abf5 y1) (fun x2 => it (x2 ≤ i2) (pu i1) (bd (gR 6 0 a0) (fun y3 => bd (ck 2 y3) (fun _ => bd (Jx4a65c_get_915e3 y3 i2) (fun y4 => bd (ck 7 y4) (fun _ => bd (gI 7 3 y4) (fun x5 => bd (pu (i1 + x5)) (fun x6 => k4 a0 x6 (i2 + 1)))))))))))
def X3_unsynced_b4  : Nat → Nat → Int32 → Int32 → M Int32
  | 0 => fun _ _ _ => fl
  | n + 1 => fun a0 i1 i2 => X3_unsynced_b4b  (X3_unsynced_b4  n) a0 i1 i2
def X3_unsynced (a0 : Nat) : M Int32 := X3_unsynced_b4  FU a0 0 0
section
variable {G : Gx} {p : Program} {l : Launch} {e : Env} {R : Room} {s : State} {m : MethodId} {args : Array Value} {below : List Frame} {meth : Method} {c : Code} {h0 : Hp} {r : Int32} {h' : Hp}
set_option maxRecDepth 20000 in
theorem X3_unsynced_b4b_s (C : Cx G p R s m args meth c cX3_unsynced 3 yX3_unsynced.cls h0 h') (hF : R.frames = 3) (hO : R.locals = 64) (hr : meth.sig.returnType = (some .int)) (hm : meth.name = yX3_unsynced.name)  {k4 : Nat → Int32 → Int32 → M Int32} (hk4 : ∀ (a0 : Nat) (i1 : Int32) (i2 : Int32), Sm G (QM G rvI below args s h0 r h') p l e R s m args below meth c 3 h0 r h' 4 [(0, .ref a0), (1, .int i1), (2, .int i2)] [] (k4 a0 i1 i2)) (a0 : Nat) (i1 : Int32) (i2 : Int32) : Sm G (QM G rvI below args s h0 r h') p l e R s m args below meth c 3 h0 r h' 4 [(0, .ref a0), (1, .int i1), (2, .int i2)] [] (X3_unsynced_b4b  k4 a0 i1 i2) := by
  refine s_iload_n C 2 dX3_unsynced_4 rfl rfl ?_
  refine s_aload_n C 0 dX3_unsynced_5 rfl rfl ?_
  refine s_gR C ci6 0 (by decide) (Or.inl wd_1_87) dX3_unsynced_6 (fun y1 => ?_)
  refine s_invV_i C ci2 cy_Jx4a65c_size_8abf5 (Or.inl wd_1_212) rfl wd_1_213 wd_1_214 (con_Jx4a65c_size_8abf5 l G y1) rfl rfl (Nat.le_of_ble_eq_true rfl) (by rw [hF]; decide) (by rw [hO]; exact Nat.le_of_ble_eq_true rfl) dX3_unsynced_9 (fun x2 => ?_)
  refine s_icmp_ge (tgt := 38) C dX3_unsynced_12 (by decide) ?_ ?_
  · refine s_iload_n C 1 dX3_unsynced_38 rfl rfl ?_
    exact s_iret C hr rfl dX3_unsynced_39
  refine s_iload_n C 1 dX3_unsynced_15 rfl rfl ?_
  refine s_aload_n C 0 dX3_unsynced_16 rfl rfl ?_
  refine s_gR C ci6 0 (by decide) (Or.inl wd_1_87) dX3_unsynced_17 (fun y3 => ?_)
  refine s_iload_n C 2 dX3_unsynced_20 rfl rfl ?_
  refine s_invV_r C ci2 cy_Jx4a65c_get_915e3 (Or.inl wd_2_138) rfl wd_2_139 wd_2_140 (con_Jx4a65c_get_915e3 l G y3 i2) rfl rfl (Nat.le_of_ble_eq_true rfl) (by rw [hF]; decide) (by rw [hO]; exact Nat.le_of_ble_eq_true rfl) dX3_unsynced_21 (fun y4 => ?_)
  refine s_ck C ci7 wd_1_237 dX3_unsynced_24 ?_
  refine s_gI C ci7 3 (by decide) (Or.inr (Or.inr ⟨_, wd_3_227⟩)) dX3_unsynced_27 (fun x5 => ?_)
  refine s_iadd C dX3_unsynced_30 ?_
  refine s_let (fun x6 => ?_)
  refine s_istore_n (lv' := [(1, .int x6), (0, .ref a0), (2, .int i2)]) C dX3_unsynced_31 rfl (by decide) rfl ?_
  refine s_iincK (lv' := [(2, .int (i2 + 1)), (1, .int x6), (0, .ref a0)]) (w := 1) C 2 dX3_unsynced_32 rfl (by decide) (by decide) rfl ?_
  refine s_goto (tgt := 4) C dX3_unsynced_35 (by decide) ?_
  refine s_sub [2, 1, 0] rfl ?_
  exact hk4 a0 x6 (i2 + 1)
set_option maxRecDepth 20000 in
theorem X3_unsynced_b4_s (C : Cx G p R s m args meth c cX3_unsynced 3 yX3_unsynced.cls h0 h') (hF : R.frames = 3) (hO : R.locals = 64) (hr : meth.sig.returnType = (some .int)) (hm : meth.name = yX3_unsynced.name)  (n : Nat) : ∀ (a0 : Nat) (i1 : Int32) (i2 : Int32), Sm G (QM G rvI below args s h0 r h') p l e R s m args below meth c 3 h0 r h' 4 [(0, .ref a0), (1, .int i1), (2, .int i2)] [] (X3_unsynced_b4  n a0 i1 i2) := by
  induction n with
  | zero => intro a0 i1 i2; exact s_fl
  | succ n ih => intro a0 i1 i2; exact X3_unsynced_b4b_s C hF hO hr hm  ih a0 i1 i2
end
set_option maxRecDepth 20000 in
theorem con_X3_unsynced (l : Launch) (G : Gx) (a0 : Nat) : Con G rvI l yX3_unsynced cX3_unsynced 3 (some .int) 3 64 [.ref a0] (X3_unsynced a0) := by
  refine con_of (lv := [(0, .ref a0)]) (by decide) (Nat.le_of_ble_eq_true rfl) rfl (fun p e R s m args below meth c h0 r h' C hF hO hr hm => ?_)
  refine s_iconst (v := 0) C dX3_unsynced_0 (by decide) ?_
  refine s_istore_n (lv' := [(1, .int 0), (0, .ref a0)]) C dX3_unsynced_1 rfl (by decide) rfl ?_
  refine s_iconst (v := 0) C dX3_unsynced_2 (by decide) ?_
  refine s_istore_n (lv' := [(2, .int 0), (1, .int 0), (0, .ref a0)]) C dX3_unsynced_3 rfl (by decide) rfl ?_
  refine s_sub [2, 1, 0] rfl ?_
  exact X3_unsynced_b4_s C hF hO hr hm  FU a0 0 0

theorem dX3_dataBytes_0 : decode cX3_dataBytes 0 = .ok (.iconst 0, 1) := by decide +kernel
theorem dX3_dataBytes_1 : decode cX3_dataBytes 1 = .ok (.istore_n 1, 1) := by decide +kernel
theorem dX3_dataBytes_2 : decode cX3_dataBytes 2 = .ok (.iconst 0, 1) := by decide +kernel
theorem dX3_dataBytes_3 : decode cX3_dataBytes 3 = .ok (.istore_n 2, 1) := by decide +kernel
theorem dX3_dataBytes_4 : decode cX3_dataBytes 4 = .ok (.iload_n 2, 1) := by decide +kernel
theorem dX3_dataBytes_5 : decode cX3_dataBytes 5 = .ok (.aload_n 0, 1) := by decide +kernel
theorem dX3_dataBytes_6 : decode cX3_dataBytes 6 = .ok (.getfield 12, 3) := by decide +kernel
theorem dX3_dataBytes_9 : decode cX3_dataBytes 9 = .ok (.invokevirtual 24, 3) := by decide +kernel
theorem dX3_dataBytes_12 : decode cX3_dataBytes 12 = .ok (.if_icmp .ge 42, 3) := by decide +kernel
theorem dX3_dataBytes_15 : decode cX3_dataBytes 15 = .ok (.aload_n 0, 1) := by decide +kernel
theorem dX3_dataBytes_16 : decode cX3_dataBytes 16 = .ok (.getfield 12, 3) := by decide +kernel
theorem dX3_dataBytes_19 : decode cX3_dataBytes 19 = .ok (.iload_n 2, 1) := by decide +kernel
theorem dX3_dataBytes_20 : decode cX3_dataBytes 20 = .ok (.invokevirtual 45, 3) := by decide +kernel
theorem dX3_dataBytes_23 : decode cX3_dataBytes 23 = .ok (.checkcast 49, 3) := by decide +kernel
theorem dX3_dataBytes_26 : decode cX3_dataBytes 26 = .ok (.astore_n 3, 1) := by decide +kernel
theorem dX3_dataBytes_27 : decode cX3_dataBytes 27 = .ok (.iload_n 1, 1) := by decide +kernel
theorem dX3_dataBytes_28 : decode cX3_dataBytes 28 = .ok (.aload_n 3, 1) := by decide +kernel
theorem dX3_dataBytes_29 : decode cX3_dataBytes 29 = .ok (.getfield 77, 3) := by decide +kernel
theorem dX3_dataBytes_32 : decode cX3_dataBytes 32 = .ok (.ifCond .ne 13, 3) := by decide +kernel
theorem dX3_dataBytes_35 : decode cX3_dataBytes 35 = .ok (.aload_n 3, 1) := by decide +kernel
theorem dX3_dataBytes_36 : decode cX3_dataBytes 36 = .ok (.getfield 67, 3) := by decide +kernel
theorem dX3_dataBytes_39 : decode cX3_dataBytes 39 = .ok (.invokevirtual 71, 3) := by decide +kernel
theorem dX3_dataBytes_42 : decode cX3_dataBytes 42 = .ok (.goto 4, 3) := by decide +kernel
theorem dX3_dataBytes_45 : decode cX3_dataBytes 45 = .ok (.iconst 0, 1) := by decide +kernel
theorem dX3_dataBytes_46 : decode cX3_dataBytes 46 = .ok (.iadd, 1) := by decide +kernel
theorem dX3_dataBytes_47 : decode cX3_dataBytes 47 = .ok (.istore_n 1, 1) := by decide +kernel
theorem dX3_dataBytes_48 : decode cX3_dataBytes 48 = .ok (.iinc 2 1, 3) := by decide +kernel
theorem dX3_dataBytes_51 : decode cX3_dataBytes 51 = .ok (.goto (-47), 3) := by decide +kernel
theorem dX3_dataBytes_54 : decode cX3_dataBytes 54 = .ok (.iload_n 1, 1) := by decide +kernel
theorem dX3_dataBytes_55 : decode cX3_dataBytes 55 = .ok (.ireturn, 1) := by decide +kernel
def X3_dataBytes_b46 (k4 : Nat → Int32 → Int32 → M Int32)  (a0 : Nat) (i2 : Int32) (s0 : Int32) (s1 : Int32) : M Int32 := bd (pu (s1 + s0)) (fun x1 => k4 a0 x1 (i2 + 1))
def X3_dataBytes_b4b  (k4 : Nat → Int32 → Int32 → M Int32) (a0 : Nat) (i1 : Int32) (i2 : Int32) : M Int32 := bd (gR 6 0 a0) (fun y1 => bd (ck 2 y1) (fun _ => bd (Jx4a65c_size_8abf5 y1) (fun x2 => it (x2 ≤ i2) (pu i1) (bd (gR 6 0 a0) (fun y3 => bd (ck 2 y3) (fun _ => bd (Jx4a65c_get_915e3 y3 i2) (fun y4 => bd (ck 7 y4) (fun _ => bd (gI 7 2 y4) (fun x5 => it (¬ x5 = 0) (X3_dataBytes_b46 k4  a0 i2 0 i1) (bd (gR 7 0 y4) (fun y6 => bd (ck 4 y6) (fun _ => bd (X1_size y6) (fun x7 => X3_dataBytes_b46 k4  a0 i2 x7 i1)))))))))))))
def X3_dataBytes_b4  : Nat → Nat → Int32 → Int32 → M Int32
  | 0 => fun _ _ _ => fl
  | n + 1 => fun a0 i1 i2 => X3_dataBytes_b4b  (X3_dataBytes_b4  n) a0 i1 i2
def X3_dataBytes (a0 : Nat) : M Int32 := X3_dataBytes_b4  FU a0 0 0
section
variable {G : Gx} {p : Program} {l : Launch} {e : Env} {R : Room} {s : State} {m : MethodId} {args : Array Value} {below : List Frame} {meth : Method} {c : Code} {h0 : Hp} {r : Int32} {h' : Hp}
set_option maxRecDepth 20000 in
theorem X3_dataBytes_b46_s (C : Cx G p R s m args meth c cX3_dataBytes 4 yX3_dataBytes.cls h0 h') (hF : R.frames = 3) (hO : R.locals = 64) (hr : meth.sig.returnType = (some .int)) (hm : meth.name = yX3_dataBytes.name) {k4 : Nat → Int32 → Int32 → M Int32} (hk4 : ∀ (a0 : Nat) (i1 : Int32) (i2 : Int32), Sm G (QM G rvI below args s h0 r h') p l e R s m args below meth c 4 h0 r h' 4 [(0, .ref a0), (1, .int i1), (2, .int i2)] [] (k4 a0 i1 i2))  (a0 : Nat) (i2 : Int32) (s0 : Int32) (s1 : Int32) : Sm G (QM G rvI below args s h0 r h') p l e R s m args below meth c 4 h0 r h' 46 [(0, .ref a0), (2, .int i2)] [.int s0, .int s1] (X3_dataBytes_b46 k4  a0 i2 s0 s1) := by
  refine s_iadd C dX3_dataBytes_46 ?_
  refine s_let (fun x1 => ?_)
  refine s_istore_n (lv' := [(1, .int x1), (0, .ref a0), (2, .int i2)]) C dX3_dataBytes_47 rfl (by decide) rfl ?_
  refine s_iincK (lv' := [(2, .int (i2 + 1)), (1, .int x1), (0, .ref a0)]) (w := 1) C 2 dX3_dataBytes_48 rfl (by decide) (by decide) rfl ?_
  refine s_goto (tgt := 4) C dX3_dataBytes_51 (by decide) ?_
  refine s_sub [2, 1, 0] rfl ?_
  exact hk4 a0 x1 (i2 + 1)
set_option maxRecDepth 20000 in
theorem X3_dataBytes_b4b_s (C : Cx G p R s m args meth c cX3_dataBytes 4 yX3_dataBytes.cls h0 h') (hF : R.frames = 3) (hO : R.locals = 64) (hr : meth.sig.returnType = (some .int)) (hm : meth.name = yX3_dataBytes.name)  {k4 : Nat → Int32 → Int32 → M Int32} (hk4 : ∀ (a0 : Nat) (i1 : Int32) (i2 : Int32), Sm G (QM G rvI below args s h0 r h') p l e R s m args below meth c 4 h0 r h' 4 [(0, .ref a0), (1, .int i1), (2, .int i2)] [] (k4 a0 i1 i2)) (a0 : Nat) (i1 : Int32) (i2 : Int32) : Sm G (QM G rvI below args s h0 r h') p l e R s m args below meth c 4 h0 r h' 4 [(0, .ref a0), (1, .int i1), (2, .int i2)] [] (X3_dataBytes_b4b  k4 a0 i1 i2) := by
  refine s_iload_n C 2 dX3_dataBytes_4 rfl rfl ?_
  refine s_aload_n C 0 dX3_dataBytes_5 rfl rfl ?_
  refine s_gR C ci6 0 (by decide) (Or.inl wd_1_87) dX3_dataBytes_6 (fun y1 => ?_)
  refine s_invV_i C ci2 cy_Jx4a65c_size_8abf5 (Or.inl wd_1_212) rfl wd_1_213 wd_1_214 (con_Jx4a65c_size_8abf5 l G y1) rfl rfl (Nat.le_of_ble_eq_true rfl) (by rw [hF]; decide) (by rw [hO]; exact Nat.le_of_ble_eq_true rfl) dX3_dataBytes_9 (fun x2 => ?_)
  refine s_icmp_ge (tgt := 54) C dX3_dataBytes_12 (by decide) ?_ ?_
  · refine s_iload_n C 1 dX3_dataBytes_54 rfl rfl ?_
    exact s_iret C hr rfl dX3_dataBytes_55
  refine s_aload_n C 0 dX3_dataBytes_15 rfl rfl ?_
  refine s_gR C ci6 0 (by decide) (Or.inl wd_1_87) dX3_dataBytes_16 (fun y3 => ?_)
  refine s_iload_n C 2 dX3_dataBytes_19 rfl rfl ?_
  refine s_invV_r C ci2 cy_Jx4a65c_get_915e3 (Or.inl wd_2_138) rfl wd_2_139 wd_2_140 (con_Jx4a65c_get_915e3 l G y3 i2) rfl rfl (Nat.le_of_ble_eq_true rfl) (by rw [hF]; decide) (by rw [hO]; exact Nat.le_of_ble_eq_true rfl) dX3_dataBytes_20 (fun y4 => ?_)
  refine s_ck C ci7 wd_1_237 dX3_dataBytes_23 ?_
  refine s_astore_n (lv' := [(3, .ref y4), (0, .ref a0), (1, .int i1), (2, .int i2)]) C dX3_dataBytes_26 rfl (by decide) rfl ?_
  refine s_iload_n C 2 dX3_dataBytes_27 rfl rfl ?_
  refine s_aload_n C 0 dX3_dataBytes_28 rfl rfl ?_
  refine s_gI C ci7 2 (by decide) (Or.inr (Or.inr ⟨_, wd_3_224⟩)) dX3_dataBytes_29 (fun x5 => ?_)
  refine s_if_ne (tgt := 45) C dX3_dataBytes_32 (by decide) ?_ ?_
  · refine s_iconst (v := 0) C dX3_dataBytes_45 (by decide) ?_
    refine s_sub [1, 3] rfl ?_
    exact X3_dataBytes_b46_s C hF hO hr hm hk4  a0 i2 0 i1
  refine s_aload_n C 0 dX3_dataBytes_35 rfl rfl ?_
  refine s_gR C ci7 0 (by decide) (Or.inr (Or.inr ⟨_, wd_3_214⟩)) dX3_dataBytes_36 (fun y6 => ?_)
  refine s_invV_i C ci4 cy_X1_size (Or.inl wd_2_179) rfl wd_2_147 wd_2_148 (con_X1_size l G y6) rfl rfl (Nat.le_of_ble_eq_true rfl) (by rw [hF]; decide) (by rw [hO]; exact Nat.le_of_ble_eq_true rfl) dX3_dataBytes_39 (fun x7 => ?_)
  refine s_goto (tgt := 46) C dX3_dataBytes_42 (by decide) ?_
  refine s_sub [1, 3] rfl ?_
  exact X3_dataBytes_b46_s C hF hO hr hm hk4  a0 i2 x7 i1
set_option maxRecDepth 20000 in
theorem X3_dataBytes_b4_s (C : Cx G p R s m args meth c cX3_dataBytes 4 yX3_dataBytes.cls h0 h') (hF : R.frames = 3) (hO : R.locals = 64) (hr : meth.sig.returnType = (some .int)) (hm : meth.name = yX3_dataBytes.name)  (n : Nat) : ∀ (a0 : Nat) (i1 : Int32) (i2 : Int32), Sm G (QM G rvI below args s h0 r h') p l e R s m args below meth c 4 h0 r h' 4 [(0, .ref a0), (1, .int i1), (2, .int i2)] [] (X3_dataBytes_b4  n a0 i1 i2) := by
  induction n with
  | zero => intro a0 i1 i2; exact s_fl
  | succ n ih => intro a0 i1 i2; exact X3_dataBytes_b4b_s C hF hO hr hm  ih a0 i1 i2
end
set_option maxRecDepth 20000 in
theorem con_X3_dataBytes (l : Launch) (G : Gx) (a0 : Nat) : Con G rvI l yX3_dataBytes cX3_dataBytes 4 (some .int) 3 64 [.ref a0] (X3_dataBytes a0) := by
  refine con_of (lv := [(0, .ref a0)]) (by decide) (Nat.le_of_ble_eq_true rfl) rfl (fun p e R s m args below meth c h0 r h' C hF hO hr hm => ?_)
  refine s_iconst (v := 0) C dX3_dataBytes_0 (by decide) ?_
  refine s_istore_n (lv' := [(1, .int 0), (0, .ref a0)]) C dX3_dataBytes_1 rfl (by decide) rfl ?_
  refine s_iconst (v := 0) C dX3_dataBytes_2 (by decide) ?_
  refine s_istore_n (lv' := [(2, .int 0), (1, .int 0), (0, .ref a0)]) C dX3_dataBytes_3 rfl (by decide) rfl ?_
  refine s_sub [2, 1, 0] rfl ?_
  exact X3_dataBytes_b4_s C hF hO hr hm  FU a0 0 0

theorem dX3_countData_0 : decode cX3_countData 0 = .ok (.iconst 0, 1) := by decide +kernel
theorem dX3_countData_1 : decode cX3_countData 1 = .ok (.istore_n 2, 1) := by decide +kernel
theorem dX3_countData_2 : decode cX3_countData 2 = .ok (.iconst 0, 1) := by decide +kernel
theorem dX3_countData_3 : decode cX3_countData 3 = .ok (.istore_n 3, 1) := by decide +kernel
theorem dX3_countData_4 : decode cX3_countData 4 = .ok (.iload_n 3, 1) := by decide +kernel
theorem dX3_countData_5 : decode cX3_countData 5 = .ok (.aload_n 0, 1) := by decide +kernel
theorem dX3_countData_6 : decode cX3_countData 6 = .ok (.getfield 12, 3) := by decide +kernel
theorem dX3_countData_9 : decode cX3_countData 9 = .ok (.invokevirtual 24, 3) := by decide +kernel
theorem dX3_countData_12 : decode cX3_countData 12 = .ok (.if_icmp .ge 47, 3) := by decide +kernel
theorem dX3_countData_15 : decode cX3_countData 15 = .ok (.aload_n 0, 1) := by decide +kernel
theorem dX3_countData_16 : decode cX3_countData 16 = .ok (.getfield 12, 3) := by decide +kernel
theorem dX3_countData_19 : decode cX3_countData 19 = .ok (.iload_n 3, 1) := by decide +kernel
theorem dX3_countData_20 : decode cX3_countData 20 = .ok (.invokevirtual 45, 3) := by decide +kernel
theorem dX3_countData_23 : decode cX3_countData 23 = .ok (.checkcast 49, 3) := by decide +kernel
theorem dX3_countData_26 : decode cX3_countData 26 = .ok (.astore 4, 2) := by decide +kernel
theorem dX3_countData_28 : decode cX3_countData 28 = .ok (.iload_n 2, 1) := by decide +kernel
theorem dX3_countData_29 : decode cX3_countData 29 = .ok (.aload 4, 2) := by decide +kernel
theorem dX3_countData_31 : decode cX3_countData 31 = .ok (.getfield 77, 3) := by decide +kernel
theorem dX3_countData_34 : decode cX3_countData 34 = .ok (.ifCond .ne 16, 3) := by decide +kernel
theorem dX3_countData_37 : decode cX3_countData 37 = .ok (.aload 4, 2) := by decide +kernel
theorem dX3_countData_39 : decode cX3_countData 39 = .ok (.getfield 80, 3) := by decide +kernel
theorem dX3_countData_42 : decode cX3_countData 42 = .ok (.iload_n 1, 1) := by decide +kernel
theorem dX3_countData_43 : decode cX3_countData 43 = .ok (.if_icmp .ge 7, 3) := by decide +kernel
theorem dX3_countData_46 : decode cX3_countData 46 = .ok (.iconst 1, 1) := by decide +kernel
theorem dX3_countData_47 : decode cX3_countData 47 = .ok (.goto 4, 3) := by decide +kernel
theorem dX3_countData_50 : decode cX3_countData 50 = .ok (.iconst 0, 1) := by decide +kernel
theorem dX3_countData_51 : decode cX3_countData 51 = .ok (.iadd, 1) := by decide +kernel
theorem dX3_countData_52 : decode cX3_countData 52 = .ok (.istore_n 2, 1) := by decide +kernel
theorem dX3_countData_53 : decode cX3_countData 53 = .ok (.iinc 3 1, 3) := by decide +kernel
theorem dX3_countData_56 : decode cX3_countData 56 = .ok (.goto (-52), 3) := by decide +kernel
theorem dX3_countData_59 : decode cX3_countData 59 = .ok (.iload_n 2, 1) := by decide +kernel
theorem dX3_countData_60 : decode cX3_countData 60 = .ok (.ireturn, 1) := by decide +kernel
def X3_countData_b51 (k4 : Nat → Int32 → Int32 → Int32 → M Int32)  (a0 : Nat) (i1 : Int32) (i3 : Int32) (s0 : Int32) (s1 : Int32) : M Int32 := bd (pu (s1 + s0)) (fun x1 => k4 a0 i1 x1 (i3 + 1))
def X3_countData_b50 (k4 : Nat → Int32 → Int32 → Int32 → M Int32)  (a0 : Nat) (i1 : Int32) (i3 : Int32) (s0 : Int32) : M Int32 := X3_countData_b51 k4  a0 i1 i3 0 s0
def X3_countData_b4b  (k4 : Nat → Int32 → Int32 → Int32 → M Int32) (a0 : Nat) (i1 : Int32) (i2 : Int32) (i3 : Int32) : M Int32 := bd (gR 6 0 a0) (fun y1 => bd (ck 2 y1) (fun _ => bd (Jx4a65c_size_8abf5 y1) (fun x2 => it (x2 ≤ i3) (pu i2) (bd (gR 6 0 a0) (fun y3 => bd (ck 2 y3) (fun _ => bd (Jx4a65c_get_915e3 y3 i3) (fun y4 => bd (ck 7 y4) (fun _ => bd (gI 7 2 y4) (fun x5 => it (¬ x5 = 0) (X3_countData_b50 k4  a0 i1 i3 i2) (bd (gI 7 1 y4) (fun x6 => it (i1 ≤ x6) (X3_countData_b50 k4  a0 i1 i3 i2) (X3_countData_b51 k4  a0 i1 i3 1 i2))))))))))))
def X3_countData_b4  : Nat → Nat → Int32 → Int32 → Int32 → M Int32
  | 0 => fun _ _ _ _ => fl
  | n + 1 => fun a0 i1 i2 i3 => X3_countData_b4b  (X3_countData_b4  n) a0 i1 i2 i3
def X3_countData (a0 : Nat) (i1 : Int32) : M Int32 := X3_countData_b4  FU a0 i1 0 0
section
variable {G : Gx} {p : Program} {l : Launch} {e : Env} {R : Room} {s : State} {m : MethodId} {args : Array Value} {below : List Frame} {meth : Method} {c : Code} {h0 : Hp} {r : Int32} {h' : Hp}
set_option maxRecDepth 20000 in
theorem X3_countData_b51_s (C : Cx G p R s m args meth c cX3_countData 5 yX3_countData.cls h0 h') (hF : R.frames = 3) (hO : R.locals = 64) (hr : meth.sig.returnType = (some .int)) (hm : meth.name = yX3_countData.name) {k4 : Nat → Int32 → Int32 → Int32 → M Int32} (hk4 : ∀ (a0 : Nat) (i1 : Int32) (i2 : Int32) (i3 : Int32), Sm G (QM G rvI below args s h0 r h') p l e R s m args below meth c 5 h0 r h' 4 [(0, .ref a0), (1, .int i1), (2, .int i2), (3, .int i3)] [] (k4 a0 i1 i2 i3))  (a0 : Nat) (i1 : Int32) (i3 : Int32) (s0 : Int32) (s1 : Int32) : Sm G (QM G rvI below args s h0 r h') p l e R s m args below meth c 5 h0 r h' 51 [(0, .ref a0), (1, .int i1), (3, .int i3)] [.int s0, .int s1] (X3_countData_b51 k4  a0 i1 i3 s0 s1) := by
  refine s_iadd C dX3_countData_51 ?_
  refine s_let (fun x1 => ?_)
  refine s_istore_n (lv' := [(2, .int x1), (0, .ref a0), (1, .int i1), (3, .int i3)]) C dX3_countData_52 rfl (by decide) rfl ?_
  refine s_iincK (lv' := [(3, .int (i3 + 1)), (2, .int x1), (0, .ref a0), (1, .int i1)]) (w := 1) C 3 dX3_countData_53 rfl (by decide) (by decide) rfl ?_
  refine s_goto (tgt := 4) C dX3_countData_56 (by decide) ?_
  refine s_sub [2, 3, 1, 0] rfl ?_
  exact hk4 a0 i1 x1 (i3 + 1)
set_option maxRecDepth 20000 in
theorem X3_countData_b50_s (C : Cx G p R s m args meth c cX3_countData 5 yX3_countData.cls h0 h') (hF : R.frames = 3) (hO : R.locals = 64) (hr : meth.sig.returnType = (some .int)) (hm : meth.name = yX3_countData.name) {k4 : Nat → Int32 → Int32 → Int32 → M Int32} (hk4 : ∀ (a0 : Nat) (i1 : Int32) (i2 : Int32) (i3 : Int32), Sm G (QM G rvI below args s h0 r h') p l e R s m args below meth c 5 h0 r h' 4 [(0, .ref a0), (1, .int i1), (2, .int i2), (3, .int i3)] [] (k4 a0 i1 i2 i3))  (a0 : Nat) (i1 : Int32) (i3 : Int32) (s0 : Int32) : Sm G (QM G rvI below args s h0 r h') p l e R s m args below meth c 5 h0 r h' 50 [(0, .ref a0), (1, .int i1), (3, .int i3)] [.int s0] (X3_countData_b50 k4  a0 i1 i3 s0) := by
  refine s_iconst (v := 0) C dX3_countData_50 (by decide) ?_
  exact X3_countData_b51_s C hF hO hr hm hk4  a0 i1 i3 0 s0
set_option maxRecDepth 20000 in
theorem X3_countData_b4b_s (C : Cx G p R s m args meth c cX3_countData 5 yX3_countData.cls h0 h') (hF : R.frames = 3) (hO : R.locals = 64) (hr : meth.sig.returnType = (some .int)) (hm : meth.name = yX3_countData.name)  {k4 : Nat → Int32 → Int32 → Int32 → M Int32} (hk4 : ∀ (a0 : Nat) (i1 : Int32) (i2 : Int32) (i3 : Int32), Sm G (QM G rvI below args s h0 r h') p l e R s m args below meth c 5 h0 r h' 4 [(0, .ref a0), (1, .int i1), (2, .int i2), (3, .int i3)] [] (k4 a0 i1 i2 i3)) (a0 : Nat) (i1 : Int32) (i2 : Int32) (i3 : Int32) : Sm G (QM G rvI below args s h0 r h') p l e R s m args below meth c 5 h0 r h' 4 [(0, .ref a0), (1, .int i1), (2, .int i2), (3, .int i3)] [] (X3_countData_b4b  k4 a0 i1 i2 i3) := by
  refine s_iload_n C 3 dX3_countData_4 rfl rfl ?_
  refine s_aload_n C 0 dX3_countData_5 rfl rfl ?_
  refine s_gR C ci6 0 (by decide) (Or.inl wd_1_87) dX3_countData_6 (fun y1 => ?_)
  refine s_invV_i C ci2 cy_Jx4a65c_size_8abf5 (Or.inl wd_1_212) rfl wd_1_213 wd_1_214 (con_Jx4a65c_size_8abf5 l G y1) rfl rfl (Nat.le_of_ble_eq_true rfl) (by rw [hF]; decide) (by rw [hO]; exact Nat.le_of_ble_eq_true rfl) dX3_countData_9 (fun x2 => ?_)
  refine s_icmp_ge (tgt := 59) C dX3_countData_12 (by decide) ?_ ?_
  · refine s_iload_n C 2 dX3_countData_59 rfl rfl ?_
    exact s_iret C hr rfl dX3_countData_60
  refine s_aload_n C 0 dX3_countData_15 rfl rfl ?_
  refine s_gR C ci6 0 (by decide) (Or.inl wd_1_87) dX3_countData_16 (fun y3 => ?_)
  refine s_iload_n C 3 dX3_countData_19 rfl rfl ?_
  refine s_invV_r C ci2 cy_Jx4a65c_get_915e3 (Or.inl wd_2_138) rfl wd_2_139 wd_2_140 (con_Jx4a65c_get_915e3 l G y3 i3) rfl rfl (Nat.le_of_ble_eq_true rfl) (by rw [hF]; decide) (by rw [hO]; exact Nat.le_of_ble_eq_true rfl) dX3_countData_20 (fun y4 => ?_)
  refine s_ck C ci7 wd_1_237 dX3_countData_23 ?_
  refine s_astore (lv' := [(4, .ref y4), (0, .ref a0), (1, .int i1), (2, .int i2), (3, .int i3)]) C dX3_countData_26 (by decide) rfl ?_
  refine s_iload_n C 3 dX3_countData_28 rfl rfl ?_
  refine s_aload C 0 dX3_countData_29 rfl ?_
  refine s_gI C ci7 2 (by decide) (Or.inr (Or.inr ⟨_, wd_3_224⟩)) dX3_countData_31 (fun x5 => ?_)
  refine s_if_ne (tgt := 50) C dX3_countData_34 (by decide) ?_ ?_
  · refine s_sub [1, 2, 4] rfl ?_
    exact X3_countData_b50_s C hF hO hr hm hk4  a0 i1 i3 i2
  refine s_aload C 0 dX3_countData_37 rfl ?_
  refine s_gI C ci7 1 (by decide) (Or.inr (Or.inr ⟨_, wd_3_219⟩)) dX3_countData_39 (fun x6 => ?_)
  refine s_iload_n C 2 dX3_countData_42 rfl rfl ?_
  refine s_icmp_ge (tgt := 50) C dX3_countData_43 (by decide) ?_ ?_
  · refine s_sub [1, 2, 4] rfl ?_
    exact X3_countData_b50_s C hF hO hr hm hk4  a0 i1 i3 i2
  refine s_iconst (v := 1) C dX3_countData_46 (by decide) ?_
  refine s_goto (tgt := 51) C dX3_countData_47 (by decide) ?_
  refine s_sub [1, 2, 4] rfl ?_
  exact X3_countData_b51_s C hF hO hr hm hk4  a0 i1 i3 1 i2
set_option maxRecDepth 20000 in
theorem X3_countData_b4_s (C : Cx G p R s m args meth c cX3_countData 5 yX3_countData.cls h0 h') (hF : R.frames = 3) (hO : R.locals = 64) (hr : meth.sig.returnType = (some .int)) (hm : meth.name = yX3_countData.name)  (n : Nat) : ∀ (a0 : Nat) (i1 : Int32) (i2 : Int32) (i3 : Int32), Sm G (QM G rvI below args s h0 r h') p l e R s m args below meth c 5 h0 r h' 4 [(0, .ref a0), (1, .int i1), (2, .int i2), (3, .int i3)] [] (X3_countData_b4  n a0 i1 i2 i3) := by
  induction n with
  | zero => intro a0 i1 i2 i3; exact s_fl
  | succ n ih => intro a0 i1 i2 i3; exact X3_countData_b4b_s C hF hO hr hm  ih a0 i1 i2 i3
end
set_option maxRecDepth 20000 in
theorem con_X3_countData (l : Launch) (G : Gx) (a0 : Nat) (i1 : Int32) : Con G rvI l yX3_countData cX3_countData 5 (some .int) 3 64 [.ref a0, .int i1] (X3_countData a0 i1) := by
  refine con_of (lv := [(0, .ref a0), (1, .int i1)]) (by decide) (Nat.le_of_ble_eq_true rfl) rfl (fun p e R s m args below meth c h0 r h' C hF hO hr hm => ?_)
  refine s_iconst (v := 0) C dX3_countData_0 (by decide) ?_
  refine s_istore_n (lv' := [(2, .int 0), (0, .ref a0), (1, .int i1)]) C dX3_countData_1 rfl (by decide) rfl ?_
  refine s_iconst (v := 0) C dX3_countData_2 (by decide) ?_
  refine s_istore_n (lv' := [(3, .int 0), (2, .int 0), (0, .ref a0), (1, .int i1)]) C dX3_countData_3 rfl (by decide) rfl ?_
  refine s_sub [2, 3, 1, 0] rfl ?_
  exact X3_countData_b4_s C hF hO hr hm  FU a0 i1 0 0

theorem dX3_firstOf_0 : decode cX3_firstOf 0 = .ok (.iconst 0, 1) := by decide +kernel
theorem dX3_firstOf_1 : decode cX3_firstOf 1 = .ok (.istore_n 2, 1) := by decide +kernel
theorem dX3_firstOf_2 : decode cX3_firstOf 2 = .ok (.iload_n 2, 1) := by decide +kernel
theorem dX3_firstOf_3 : decode cX3_firstOf 3 = .ok (.aload_n 0, 1) := by decide +kernel
theorem dX3_firstOf_4 : decode cX3_firstOf 4 = .ok (.getfield 12, 3) := by decide +kernel
theorem dX3_firstOf_7 : decode cX3_firstOf 7 = .ok (.invokevirtual 24, 3) := by decide +kernel
theorem dX3_firstOf_10 : decode cX3_firstOf 10 = .ok (.if_icmp .ge 31, 3) := by decide +kernel
theorem dX3_firstOf_13 : decode cX3_firstOf 13 = .ok (.aload_n 0, 1) := by decide +kernel
theorem dX3_firstOf_14 : decode cX3_firstOf 14 = .ok (.getfield 12, 3) := by decide +kernel
theorem dX3_firstOf_17 : decode cX3_firstOf 17 = .ok (.iload_n 2, 1) := by decide +kernel
theorem dX3_firstOf_18 : decode cX3_firstOf 18 = .ok (.invokevirtual 45, 3) := by decide +kernel
theorem dX3_firstOf_21 : decode cX3_firstOf 21 = .ok (.checkcast 49, 3) := by decide +kernel
theorem dX3_firstOf_24 : decode cX3_firstOf 24 = .ok (.astore_n 3, 1) := by decide +kernel
theorem dX3_firstOf_25 : decode cX3_firstOf 25 = .ok (.aload_n 3, 1) := by decide +kernel
theorem dX3_firstOf_26 : decode cX3_firstOf 26 = .ok (.getfield 77, 3) := by decide +kernel
theorem dX3_firstOf_29 : decode cX3_firstOf 29 = .ok (.iload_n 1, 1) := by decide +kernel
theorem dX3_firstOf_30 : decode cX3_firstOf 30 = .ok (.if_icmp .ne 5, 3) := by decide +kernel
theorem dX3_firstOf_33 : decode cX3_firstOf 33 = .ok (.aload_n 3, 1) := by decide +kernel
theorem dX3_firstOf_34 : decode cX3_firstOf 34 = .ok (.areturn, 1) := by decide +kernel
theorem dX3_firstOf_35 : decode cX3_firstOf 35 = .ok (.iinc 2 1, 3) := by decide +kernel
theorem dX3_firstOf_38 : decode cX3_firstOf 38 = .ok (.goto (-36), 3) := by decide +kernel
theorem dX3_firstOf_41 : decode cX3_firstOf 41 = .ok (.aconst_null, 1) := by decide +kernel
theorem dX3_firstOf_42 : decode cX3_firstOf 42 = .ok (.areturn, 1) := by decide +kernel
def X3_firstOf_b2b  (k2 : Nat → Int32 → Int32 → M (Option Nat)) (a0 : Nat) (i1 : Int32) (i2 : Int32) : M (Option Nat) := bd (gR 6 0 a0) (fun y1 => bd (ck 2 y1) (fun _ => bd (Jx4a65c_size_8abf5 y1) (fun x2 => it (x2 ≤ i2) (pu none) (bd (gR 6 0 a0) (fun y3 => bd (ck 2 y3) (fun _ => bd (Jx4a65c_get_915e3 y3 i2) (fun y4 => bd (ck 7 y4) (fun _ => bd (gI 7 2 y4) (fun x5 => it (¬ x5 = i1) (k2 a0 i1 (i2 + 1)) (pu (some y4)))))))))))
def X3_firstOf_b2  : Nat → Nat → Int32 → Int32 → M (Option Nat)
  | 0 => fun _ _ _ => fl
  | n + 1 => fun a0 i1 i2 => X3_firstOf_b2b  (X3_firstOf_b2  n) a0 i1 i2
def X3_firstOf (a0 : Nat) (i1 : Int32) : M (Option Nat) := X3_firstOf_b2  FU a0 i1 0
section
variable {G : Gx} {p : Program} {l : Launch} {e : Env} {R : Room} {s : State} {m : MethodId} {args : Array Value} {below : List Frame} {meth : Method} {c : Code} {h0 : Hp} {r : Option Nat} {h' : Hp}
set_option maxRecDepth 20000 in
theorem X3_firstOf_b2b_s (C : Cx G p R s m args meth c cX3_firstOf 4 yX3_firstOf.cls h0 h') (hF : R.frames = 3) (hO : R.locals = 64) (hr : meth.sig.returnType = (some (.object "AppendKeep$DiskFile"))) (hm : meth.name = yX3_firstOf.name)  {k2 : Nat → Int32 → Int32 → M (Option Nat)} (hk2 : ∀ (a0 : Nat) (i1 : Int32) (i2 : Int32), Sm G (QM G rvO below args s h0 r h') p l e R s m args below meth c 4 h0 r h' 2 [(0, .ref a0), (1, .int i1), (2, .int i2)] [] (k2 a0 i1 i2)) (a0 : Nat) (i1 : Int32) (i2 : Int32) : Sm G (QM G rvO below args s h0 r h') p l e R s m args below meth c 4 h0 r h' 2 [(0, .ref a0), (1, .int i1), (2, .int i2)] [] (X3_firstOf_b2b  k2 a0 i1 i2) := by
  refine s_iload_n C 2 dX3_firstOf_2 rfl rfl ?_
  refine s_aload_n C 0 dX3_firstOf_3 rfl rfl ?_
  refine s_gR C ci6 0 (by decide) (Or.inl wd_1_87) dX3_firstOf_4 (fun y1 => ?_)
  refine s_invV_i C ci2 cy_Jx4a65c_size_8abf5 (Or.inl wd_1_212) rfl wd_1_213 wd_1_214 (con_Jx4a65c_size_8abf5 l G y1) rfl rfl (Nat.le_of_ble_eq_true rfl) (by rw [hF]; decide) (by rw [hO]; exact Nat.le_of_ble_eq_true rfl) dX3_firstOf_7 (fun x2 => ?_)
  refine s_icmp_ge (tgt := 41) C dX3_firstOf_10 (by decide) ?_ ?_
  · refine s_nullO C dX3_firstOf_41 ?_
    exact s_aret (v := none) C hr (by first | exact Or.inl ⟨_, rfl⟩ | exact Or.inr ⟨_, rfl⟩) rfl dX3_firstOf_42
  refine s_aload_n C 0 dX3_firstOf_13 rfl rfl ?_
  refine s_gR C ci6 0 (by decide) (Or.inl wd_1_87) dX3_firstOf_14 (fun y3 => ?_)
  refine s_iload_n C 2 dX3_firstOf_17 rfl rfl ?_
  refine s_invV_r C ci2 cy_Jx4a65c_get_915e3 (Or.inl wd_2_138) rfl wd_2_139 wd_2_140 (con_Jx4a65c_get_915e3 l G y3 i2) rfl rfl (Nat.le_of_ble_eq_true rfl) (by rw [hF]; decide) (by rw [hO]; exact Nat.le_of_ble_eq_true rfl) dX3_firstOf_18 (fun y4 => ?_)
  refine s_ck C ci7 wd_1_237 dX3_firstOf_21 ?_
  refine s_astore_n (lv' := [(3, .ref y4), (0, .ref a0), (1, .int i1), (2, .int i2)]) C dX3_firstOf_24 rfl (by decide) rfl ?_
  refine s_aload_n C 0 dX3_firstOf_25 rfl rfl ?_
  refine s_gI C ci7 2 (by decide) (Or.inr (Or.inr ⟨_, wd_3_224⟩)) dX3_firstOf_26 (fun x5 => ?_)
  refine s_iload_n C 2 dX3_firstOf_29 rfl rfl ?_
  refine s_icmp_ne (tgt := 35) C dX3_firstOf_30 (by decide) ?_ ?_
  · refine s_iincK (lv' := [(2, .int (i2 + 1)), (3, .ref y4), (0, .ref a0), (1, .int i1)]) (w := 1) C 3 dX3_firstOf_35 rfl (by decide) (by decide) rfl ?_
    refine s_goto (tgt := 2) C dX3_firstOf_38 (by decide) ?_
    refine s_sub [2, 3, 0] rfl ?_
    exact hk2 a0 i1 (i2 + 1)
  refine s_aload_n C 0 dX3_firstOf_33 rfl rfl ?_
  exact s_aret (v := (some y4)) C hr (by first | exact Or.inl ⟨_, rfl⟩ | exact Or.inr ⟨_, rfl⟩) rfl dX3_firstOf_34
set_option maxRecDepth 20000 in
theorem X3_firstOf_b2_s (C : Cx G p R s m args meth c cX3_firstOf 4 yX3_firstOf.cls h0 h') (hF : R.frames = 3) (hO : R.locals = 64) (hr : meth.sig.returnType = (some (.object "AppendKeep$DiskFile"))) (hm : meth.name = yX3_firstOf.name)  (n : Nat) : ∀ (a0 : Nat) (i1 : Int32) (i2 : Int32), Sm G (QM G rvO below args s h0 r h') p l e R s m args below meth c 4 h0 r h' 2 [(0, .ref a0), (1, .int i1), (2, .int i2)] [] (X3_firstOf_b2  n a0 i1 i2) := by
  induction n with
  | zero => intro a0 i1 i2; exact s_fl
  | succ n ih => intro a0 i1 i2; exact X3_firstOf_b2b_s C hF hO hr hm  ih a0 i1 i2
end
set_option maxRecDepth 20000 in
theorem con_X3_firstOf (l : Launch) (G : Gx) (a0 : Nat) (i1 : Int32) : Con G rvO l yX3_firstOf cX3_firstOf 4 (some (.object "AppendKeep$DiskFile")) 3 64 [.ref a0, .int i1] (X3_firstOf a0 i1) := by
  refine con_of (lv := [(0, .ref a0), (1, .int i1)]) (by decide) (Nat.le_of_ble_eq_true rfl) rfl (fun p e R s m args below meth c h0 r h' C hF hO hr hm => ?_)
  refine s_iconst (v := 0) C dX3_firstOf_0 (by decide) ?_
  refine s_istore_n (lv' := [(2, .int 0), (0, .ref a0), (1, .int i1)]) C dX3_firstOf_1 rfl (by decide) rfl ?_
  refine s_sub [1, 2, 0] rfl ?_
  exact X3_firstOf_b2_s C hF hO hr hm  FU a0 i1 0

theorem dX3_takeNumber_0 : decode cX3_takeNumber 0 = .ok (.aload_n 0, 1) := by decide +kernel
theorem dX3_takeNumber_1 : decode cX3_takeNumber 1 = .ok (.dup, 1) := by decide +kernel
theorem dX3_takeNumber_2 : decode cX3_takeNumber 2 = .ok (.getfield 42, 3) := by decide +kernel
theorem dX3_takeNumber_5 : decode cX3_takeNumber 5 = .ok (.iconst 1, 1) := by decide +kernel
theorem dX3_takeNumber_6 : decode cX3_takeNumber 6 = .ok (.iadd, 1) := by decide +kernel
theorem dX3_takeNumber_7 : decode cX3_takeNumber 7 = .ok (.putfield 42, 3) := by decide +kernel
theorem dX3_takeNumber_10 : decode cX3_takeNumber 10 = .ok (.aload_n 0, 1) := by decide +kernel
theorem dX3_takeNumber_11 : decode cX3_takeNumber 11 = .ok (.getfield 42, 3) := by decide +kernel
theorem dX3_takeNumber_14 : decode cX3_takeNumber 14 = .ok (.iconst 1, 1) := by decide +kernel
theorem dX3_takeNumber_15 : decode cX3_takeNumber 15 = .ok (.isub, 1) := by decide +kernel
theorem dX3_takeNumber_16 : decode cX3_takeNumber 16 = .ok (.ireturn, 1) := by decide +kernel
def X3_takeNumber (a0 : Nat) : M Int32 := bd (gI 6 6 a0) (fun x1 => bd (pV 6 6 a0 (.int (x1 + 1))) (fun _ => bd (gI 6 6 a0) (fun x2 => pu (x2 - 1))))
section
variable {G : Gx} {p : Program} {l : Launch} {e : Env} {R : Room} {s : State} {m : MethodId} {args : Array Value} {below : List Frame} {meth : Method} {c : Code} {h0 : Hp} {r : Int32} {h' : Hp}
end
set_option maxRecDepth 20000 in
theorem con_X3_takeNumber (l : Launch) (G : Gx) (a0 : Nat) : Con G rvI l yX3_takeNumber cX3_takeNumber 1 (some .int) 0 0 [.ref a0] (X3_takeNumber a0) := by
  refine con_of (lv := [(0, .ref a0)]) (by decide) (Nat.le_of_ble_eq_true rfl) rfl (fun p e R s m args below meth c h0 r h' C hF hO hr hm => ?_)
  refine s_aload_n C 0 dX3_takeNumber_0 rfl rfl ?_
  refine s_dup C dX3_takeNumber_1 rfl ?_
  refine s_gI C ci6 6 (by decide) (Or.inl wd_1_97) dX3_takeNumber_2 (fun x1 => ?_)
  refine s_iconst (v := 1) C dX3_takeNumber_5 (by decide) ?_
  refine s_iadd C dX3_takeNumber_6 ?_
  refine s_pV C ci6 6 (by decide) rfl (Or.inl wd_1_97) dX3_takeNumber_7 rfl rfl ?_
  refine s_aload_n C 0 dX3_takeNumber_10 rfl rfl ?_
  refine s_gI C ci6 6 (by decide) (Or.inl wd_1_97) dX3_takeNumber_11 (fun x2 => ?_)
  refine s_iconst (v := 1) C dX3_takeNumber_14 (by decide) ?_
  refine s_isub C dX3_takeNumber_15 ?_
  exact s_iret C hr rfl dX3_takeNumber_16

theorem dX3_countNumbers_0 : decode cX3_countNumbers 0 = .ok (.aload_n 0, 1) := by decide +kernel
theorem dX3_countNumbers_1 : decode cX3_countNumbers 1 = .ok (.aload_n 0, 1) := by decide +kernel
theorem dX3_countNumbers_2 : decode cX3_countNumbers 2 = .ok (.getfield 12, 3) := by decide +kernel
theorem dX3_countNumbers_5 : decode cX3_countNumbers 5 = .ok (.invokevirtual 24, 3) := by decide +kernel
theorem dX3_countNumbers_8 : decode cX3_countNumbers 8 = .ok (.iconst 1, 1) := by decide +kernel
theorem dX3_countNumbers_9 : decode cX3_countNumbers 9 = .ok (.isub, 1) := by decide +kernel
theorem dX3_countNumbers_10 : decode cX3_countNumbers 10 = .ok (.invokevirtual 55, 3) := by decide +kernel
theorem dX3_countNumbers_13 : decode cX3_countNumbers 13 = .ok (.astore_n 1, 1) := by decide +kernel
theorem dX3_countNumbers_14 : decode cX3_countNumbers 14 = .ok (.aload_n 0, 1) := by decide +kernel
theorem dX3_countNumbers_15 : decode cX3_countNumbers 15 = .ok (.aload_n 1, 1) := by decide +kernel
theorem dX3_countNumbers_16 : decode cX3_countNumbers 16 = .ok (.ifnonnull 7, 3) := by decide +kernel
theorem dX3_countNumbers_19 : decode cX3_countNumbers 19 = .ok (.iconst 1, 1) := by decide +kernel
theorem dX3_countNumbers_20 : decode cX3_countNumbers 20 = .ok (.goto 9, 3) := by decide +kernel
theorem dX3_countNumbers_23 : decode cX3_countNumbers 23 = .ok (.aload_n 1, 1) := by decide +kernel
theorem dX3_countNumbers_24 : decode cX3_countNumbers 24 = .ok (.getfield 80, 3) := by decide +kernel
theorem dX3_countNumbers_27 : decode cX3_countNumbers 27 = .ok (.iconst 1, 1) := by decide +kernel
theorem dX3_countNumbers_28 : decode cX3_countNumbers 28 = .ok (.iadd, 1) := by decide +kernel
theorem dX3_countNumbers_29 : decode cX3_countNumbers 29 = .ok (.putfield 42, 3) := by decide +kernel
theorem dX3_countNumbers_32 : decode cX3_countNumbers 32 = .ok (.return_, 1) := by decide +kernel
def X3_countNumbers_b29   (s0 : Int32) (s1 : Nat) : M Unit := bd (pV 6 6 s1 (.int s0)) (fun _ => pu ())
def X3_countNumbers (a0 : Nat) : M Unit := bd (gR 6 0 a0) (fun y1 => bd (ck 2 y1) (fun _ => bd (Jx4a65c_size_8abf5 y1) (fun x2 => bd (ck 6 a0) (fun _ => bd (X3_at a0 (x2 - 1)) (fun z3 => co z3 (X3_countNumbers_b29   1 a0) (fun y4 => bd (gI 7 1 y4) (fun x5 => X3_countNumbers_b29   (x5 + 1) a0)))))))
section
variable {G : Gx} {p : Program} {l : Launch} {e : Env} {R : Room} {s : State} {m : MethodId} {args : Array Value} {below : List Frame} {meth : Method} {c : Code} {h0 : Hp} {r : Unit} {h' : Hp}
set_option maxRecDepth 20000 in
theorem X3_countNumbers_b29_s (C : Cx G p R s m args meth c cX3_countNumbers 2 yX3_countNumbers.cls h0 h') (hF : R.frames = 4) (hO : R.locals = 85) (hr : meth.sig.returnType = none) (hm : meth.name = yX3_countNumbers.name)   (s0 : Int32) (s1 : Nat) : Sm G (QM G rvU below args s h0 r h') p l e R s m args below meth c 2 h0 r h' 29 [] [.int s0, .ref s1] (X3_countNumbers_b29   s0 s1) := by
  refine s_pV C ci6 6 (by decide) rfl (Or.inl wd_1_97) dX3_countNumbers_29 rfl rfl ?_
  exact s_vret C hr rfl dX3_countNumbers_32
end
set_option maxRecDepth 20000 in
theorem con_X3_countNumbers (l : Launch) (G : Gx) (a0 : Nat) : Con G rvU l yX3_countNumbers cX3_countNumbers 2 none 4 85 [.ref a0] (X3_countNumbers a0) := by
  refine con_of (lv := [(0, .ref a0)]) (by decide) (Nat.le_of_ble_eq_true rfl) rfl (fun p e R s m args below meth c h0 r h' C hF hO hr hm => ?_)
  refine s_aload_n C 0 dX3_countNumbers_0 rfl rfl ?_
  refine s_aload_n C 0 dX3_countNumbers_1 rfl rfl ?_
  refine s_gR C ci6 0 (by decide) (Or.inl wd_1_87) dX3_countNumbers_2 (fun y1 => ?_)
  refine s_invV_i C ci2 cy_Jx4a65c_size_8abf5 (Or.inl wd_1_212) rfl wd_1_213 wd_1_214 (con_Jx4a65c_size_8abf5 l G y1) rfl rfl (Nat.le_of_ble_eq_true rfl) (by rw [hF]; decide) (by rw [hO]; exact Nat.le_of_ble_eq_true rfl) dX3_countNumbers_5 (fun x2 => ?_)
  refine s_iconst (v := 1) C dX3_countNumbers_8 (by decide) ?_
  refine s_isub C dX3_countNumbers_9 ?_
  refine s_invV_o C ci6 cy_X3_at (Or.inl wd_3_183) rfl wd_2_135 wd_2_136 (con_X3_at l G a0 (x2 - 1)) rfl rfl (Nat.le_of_ble_eq_true rfl) (by rw [hF]; decide) (by rw [hO]; exact Nat.le_of_ble_eq_true rfl) dX3_countNumbers_10 (fun z3 => ?_)
  refine s_ostore_n (lv' := [(1, va_rf z3), (0, .ref a0)]) C dX3_countNumbers_13 rfl (by decide) rfl ?_
  refine s_aload_n C 1 dX3_countNumbers_14 rfl rfl ?_
  refine s_oload_n C 0 dX3_countNumbers_15 rfl rfl ?_
  refine s_ifnonnull (tgt := 23) C dX3_countNumbers_16 (by decide) (fun hq => ?_) (fun y4 hq => ?_)
  · subst hq
    refine s_iconst (v := 1) C dX3_countNumbers_19 (by decide) ?_
    refine s_goto (tgt := 29) C dX3_countNumbers_20 (by decide) ?_
    refine s_sub [] rfl ?_
    exact X3_countNumbers_b29_s C hF hO hr hm   1 a0
  subst hq
  refine s_aload_n C 0 dX3_countNumbers_23 rfl rfl ?_
  refine s_gI C ci7 1 (by decide) (Or.inr (Or.inr ⟨_, wd_3_219⟩)) dX3_countNumbers_24 (fun x5 => ?_)
  refine s_iconst (v := 1) C dX3_countNumbers_27 (by decide) ?_
  refine s_iadd C dX3_countNumbers_28 ?_
  refine s_sub [] rfl ?_
  exact X3_countNumbers_b29_s C hF hO hr hm   (x5 + 1) a0

theorem dX4_init_0 : decode cX4_init 0 = .ok (.aload_n 0, 1) := by decide +kernel
theorem dX4_init_1 : decode cX4_init 1 = .ok (.invokespecial 1, 3) := by decide +kernel
theorem dX4_init_4 : decode cX4_init 4 = .ok (.aload_n 0, 1) := by decide +kernel
theorem dX4_init_5 : decode cX4_init 5 = .ok (.new 7, 3) := by decide +kernel
theorem dX4_init_8 : decode cX4_init 8 = .ok (.dup, 1) := by decide +kernel
theorem dX4_init_9 : decode cX4_init 9 = .ok (.invokespecial 9, 3) := by decide +kernel
theorem dX4_init_12 : decode cX4_init 12 = .ok (.putfield 10, 3) := by decide +kernel
theorem dX4_init_15 : decode cX4_init 15 = .ok (.return_, 1) := by decide +kernel
def X4_init (a0 : Nat) : M Unit := bd (nw 4 2) (fun y1 => bd (X1_init y1) (fun _ => bd (pV 7 0 a0 (.ref y1)) (fun _ => pu ())))
section
variable {G : Gx} {p : Program} {l : Launch} {e : Env} {R : Room} {s : State} {m : MethodId} {args : Array Value} {below : List Frame} {meth : Method} {c : Code} {h0 : Hp} {r : Unit} {h' : Hp}
end
set_option maxRecDepth 20000 in
theorem con_X4_init (l : Launch) (G : Gx) (a0 : Nat) : Con G rvU l yX4_init cX4_init 1 none 2 50 [.ref a0] (X4_init a0) := by
  refine con_of (lv := [(0, .ref a0)]) (by decide) (Nat.le_of_ble_eq_true rfl) rfl (fun p e R s m args below meth c h0 r h' C hF hO hr hm => ?_)
  refine s_aload_n C 0 dX4_init_0 rfl rfl ?_
  refine s_obj C wd_3_208 wd_1_39 wd_1_40 (by rw [hF]; decide) (by rw [hO]; exact Nat.le_of_ble_eq_true rfl) dX4_init_1 ?_
  refine s_aload_n C 0 dX4_init_4 rfl rfl ?_
  refine s_nw C ci4 wd_3_209 wd_1_42 wd_1_2 dX4_init_5 (fun y1 => ?_)
  refine s_dup C dX4_init_8 rfl ?_
  refine s_invI_u C cy_X1_init (Or.inr ⟨_, wd_3_210⟩) rfl wd_1_44 (con_X1_init l G y1) rfl rfl (Nat.le_of_ble_eq_true rfl) (by rw [hF]; decide) (by rw [hO]; exact Nat.le_of_ble_eq_true rfl) dX4_init_9 ?_
  refine s_pF C ci7 0 (by decide) rfl rfl hm wd_3_211 dX4_init_12 rfl rfl ?_
  exact s_vret C hr rfl dX4_init_15

theorem dX3_takeSpare_0 : decode cX3_takeSpare 0 = .ok (.aload_n 0, 1) := by decide +kernel
theorem dX3_takeSpare_1 : decode cX3_takeSpare 1 = .ok (.getfield 18, 3) := by decide +kernel
theorem dX3_takeSpare_4 : decode cX3_takeSpare 4 = .ok (.invokevirtual 122, 3) := by decide +kernel
theorem dX3_takeSpare_7 : decode cX3_takeSpare 7 = .ok (.ifCond .eq 11, 3) := by decide +kernel
theorem dX3_takeSpare_10 : decode cX3_takeSpare 10 = .ok (.new 49, 3) := by decide +kernel
theorem dX3_takeSpare_13 : decode cX3_takeSpare 13 = .ok (.dup, 1) := by decide +kernel
theorem dX3_takeSpare_14 : decode cX3_takeSpare 14 = .ok (.invokespecial 126, 3) := by decide +kernel
theorem dX3_takeSpare_17 : decode cX3_takeSpare 17 = .ok (.areturn, 1) := by decide +kernel
theorem dX3_takeSpare_18 : decode cX3_takeSpare 18 = .ok (.aload_n 0, 1) := by decide +kernel
theorem dX3_takeSpare_19 : decode cX3_takeSpare 19 = .ok (.getfield 18, 3) := by decide +kernel
theorem dX3_takeSpare_22 : decode cX3_takeSpare 22 = .ok (.aload_n 0, 1) := by decide +kernel
theorem dX3_takeSpare_23 : decode cX3_takeSpare 23 = .ok (.getfield 18, 3) := by decide +kernel
theorem dX3_takeSpare_26 : decode cX3_takeSpare 26 = .ok (.invokevirtual 24, 3) := by decide +kernel
theorem dX3_takeSpare_29 : decode cX3_takeSpare 29 = .ok (.iconst 1, 1) := by decide +kernel
theorem dX3_takeSpare_30 : decode cX3_takeSpare 30 = .ok (.isub, 1) := by decide +kernel
theorem dX3_takeSpare_31 : decode cX3_takeSpare 31 = .ok (.invokevirtual 116, 3) := by decide +kernel
theorem dX3_takeSpare_34 : decode cX3_takeSpare 34 = .ok (.checkcast 49, 3) := by decide +kernel
theorem dX3_takeSpare_37 : decode cX3_takeSpare 37 = .ok (.astore_n 1, 1) := by decide +kernel
theorem dX3_takeSpare_38 : decode cX3_takeSpare 38 = .ok (.aload_n 1, 1) := by decide +kernel
theorem dX3_takeSpare_39 : decode cX3_takeSpare 39 = .ok (.getfield 67, 3) := by decide +kernel
theorem dX3_takeSpare_42 : decode cX3_takeSpare 42 = .ok (.invokevirtual 127, 3) := by decide +kernel
theorem dX3_takeSpare_45 : decode cX3_takeSpare 45 = .ok (.aload_n 1, 1) := by decide +kernel
theorem dX3_takeSpare_46 : decode cX3_takeSpare 46 = .ok (.iconst 0, 1) := by decide +kernel
theorem dX3_takeSpare_47 : decode cX3_takeSpare 47 = .ok (.putfield 74, 3) := by decide +kernel
theorem dX3_takeSpare_50 : decode cX3_takeSpare 50 = .ok (.aload_n 1, 1) := by decide +kernel
theorem dX3_takeSpare_51 : decode cX3_takeSpare 51 = .ok (.areturn, 1) := by decide +kernel
def X3_takeSpare (a0 : Nat) : M Nat := bd (gR 6 1 a0) (fun y1 => bd (ck 2 y1) (fun _ => bd (Jx4a65c_isEmpty_aae02 y1) (fun x2 => it (x2 = 0) (bd (gR 6 1 a0) (fun y3 => bd (gR 6 1 a0) (fun y4 => bd (ck 2 y4) (fun _ => bd (Jx4a65c_size_8abf5 y4) (fun x5 => bd (ck 2 y3) (fun _ => bd (Jx4a65c_remove_915e3 y3 (x5 - 1)) (fun y6 => bd (ck 7 y6) (fun _ => bd (gR 7 0 y6) (fun y7 => bd (ck 4 y7) (fun _ => bd (X1_clear y7) (fun _ => bd (pV 7 3 y6 (.int 0)) (fun _ => pu y6)))))))))))) (bd (nw 7 4) (fun y8 => bd (X4_init y8) (fun _ => pu y8))))))
section
variable {G : Gx} {p : Program} {l : Launch} {e : Env} {R : Room} {s : State} {m : MethodId} {args : Array Value} {below : List Frame} {meth : Method} {c : Code} {h0 : Hp} {r : Nat} {h' : Hp}
end
set_option maxRecDepth 20000 in
theorem con_X3_takeSpare (l : Launch) (G : Gx) (a0 : Nat) : Con G rvR l yX3_takeSpare cX3_takeSpare 2 (some (.object "AppendKeep$DiskFile")) 3 146 [.ref a0] (X3_takeSpare a0) := by
  refine con_of (lv := [(0, .ref a0)]) (by decide) (Nat.le_of_ble_eq_true rfl) rfl (fun p e R s m args below meth c h0 r h' C hF hO hr hm => ?_)
  refine s_aload_n C 0 dX3_takeSpare_0 rfl rfl ?_
  refine s_gR C ci6 1 (by decide) (Or.inl wd_1_88) dX3_takeSpare_1 (fun y1 => ?_)
  refine s_invV_i C ci2 cy_Jx4a65c_isEmpty_aae02 (Or.inl wd_3_200) rfl wd_3_201 wd_3_202 (con_Jx4a65c_isEmpty_aae02 l G y1) rfl rfl (Nat.le_of_ble_eq_true rfl) (by rw [hF]; decide) (by rw [hO]; exact Nat.le_of_ble_eq_true rfl) dX3_takeSpare_4 (fun x2 => ?_)
  refine s_if_eq (tgt := 18) C dX3_takeSpare_7 (by decide) ?_ ?_
  · refine s_aload_n C 0 dX3_takeSpare_18 rfl rfl ?_
    refine s_gR C ci6 1 (by decide) (Or.inl wd_1_88) dX3_takeSpare_19 (fun y3 => ?_)
    refine s_aload_n C 0 dX3_takeSpare_22 rfl rfl ?_
    refine s_gR C ci6 1 (by decide) (Or.inl wd_1_88) dX3_takeSpare_23 (fun y4 => ?_)
    refine s_invV_i C ci2 cy_Jx4a65c_size_8abf5 (Or.inl wd_1_212) rfl wd_1_213 wd_1_214 (con_Jx4a65c_size_8abf5 l G y4) rfl rfl (Nat.le_of_ble_eq_true rfl) (by rw [hF]; decide) (by rw [hO]; exact Nat.le_of_ble_eq_true rfl) dX3_takeSpare_26 (fun x5 => ?_)
    refine s_iconst (v := 1) C dX3_takeSpare_29 (by decide) ?_
    refine s_isub C dX3_takeSpare_30 ?_
    refine s_invV_r C ci2 cy_Jx4a65c_remove_915e3 (Or.inl wd_1_220) rfl wd_1_221 wd_1_222 (con_Jx4a65c_remove_915e3 l G y3 (x5 - 1)) rfl rfl (Nat.le_of_ble_eq_true rfl) (by rw [hF]; decide) (by rw [hO]; exact Nat.le_of_ble_eq_true rfl) dX3_takeSpare_31 (fun y6 => ?_)
    refine s_ck C ci7 wd_1_237 dX3_takeSpare_34 ?_
    refine s_astore_n (lv' := [(1, .ref y6), (0, .ref a0)]) C dX3_takeSpare_37 rfl (by decide) rfl ?_
    refine s_aload_n C 0 dX3_takeSpare_38 rfl rfl ?_
    refine s_gR C ci7 0 (by decide) (Or.inr (Or.inr ⟨_, wd_3_214⟩)) dX3_takeSpare_39 (fun y7 => ?_)
    refine s_invV_u C ci4 cy_X1_clear (Or.inl wd_3_238) rfl wd_2_65 wd_2_66 (con_X1_clear l G y7) rfl rfl (Nat.le_of_ble_eq_true rfl) (by rw [hF]; decide) (by rw [hO]; exact Nat.le_of_ble_eq_true rfl) dX3_takeSpare_42 ?_
    refine s_aload_n C 0 dX3_takeSpare_45 rfl rfl ?_
    refine s_iconst (v := 0) C dX3_takeSpare_46 (by decide) ?_
    refine s_pV C ci7 3 (by decide) rfl (Or.inr (Or.inr ⟨_, wd_3_227⟩)) dX3_takeSpare_47 rfl rfl ?_
    refine s_aload_n C 0 dX3_takeSpare_50 rfl rfl ?_
    exact s_aret (v := some y6) C hr (by first | exact Or.inl ⟨_, rfl⟩ | exact Or.inr ⟨_, rfl⟩) rfl dX3_takeSpare_51
  refine s_nw C ci7 wd_1_237 wd_3_204 wd_1_23 dX3_takeSpare_10 (fun y8 => ?_)
  refine s_dup C dX3_takeSpare_13 rfl ?_
  refine s_invI_u C cy_X4_init (Or.inr ⟨_, wd_3_205⟩) rfl wd_3_206 (con_X4_init l G y8) rfl rfl (Nat.le_of_ble_eq_true rfl) (by rw [hF]; decide) (by rw [hO]; exact Nat.le_of_ble_eq_true rfl) dX3_takeSpare_14 ?_
  exact s_aret (v := some y8) C hr (by first | exact Or.inl ⟨_, rfl⟩ | exact Or.inr ⟨_, rfl⟩) rfl dX3_takeSpare_17

theorem dX3_arrivalAt_0 : decode cX3_arrivalAt 0 = .ok (.iload_n 1, 1) := by decide +kernel
theorem dX3_arrivalAt_1 : decode cX3_arrivalAt 1 = .ok (.ifCond .lt 28, 3) := by decide +kernel
theorem dX3_arrivalAt_4 : decode cX3_arrivalAt 4 = .ok (.iload_n 1, 1) := by decide +kernel
theorem dX3_arrivalAt_5 : decode cX3_arrivalAt 5 = .ok (.aload_n 0, 1) := by decide +kernel
theorem dX3_arrivalAt_6 : decode cX3_arrivalAt 6 = .ok (.getfield 21, 3) := by decide +kernel
theorem dX3_arrivalAt_9 : decode cX3_arrivalAt 9 = .ok (.invokevirtual 24, 3) := by decide +kernel
theorem dX3_arrivalAt_12 : decode cX3_arrivalAt 12 = .ok (.if_icmp .ge 17, 3) := by decide +kernel
theorem dX3_arrivalAt_15 : decode cX3_arrivalAt 15 = .ok (.aload_n 0, 1) := by decide +kernel
theorem dX3_arrivalAt_16 : decode cX3_arrivalAt 16 = .ok (.getfield 21, 3) := by decide +kernel
theorem dX3_arrivalAt_19 : decode cX3_arrivalAt 19 = .ok (.iload_n 1, 1) := by decide +kernel
theorem dX3_arrivalAt_20 : decode cX3_arrivalAt 20 = .ok (.invokevirtual 45, 3) := by decide +kernel
theorem dX3_arrivalAt_23 : decode cX3_arrivalAt 23 = .ok (.checkcast 104, 3) := by decide +kernel
theorem dX3_arrivalAt_26 : decode cX3_arrivalAt 26 = .ok (.goto 4, 3) := by decide +kernel
theorem dX3_arrivalAt_29 : decode cX3_arrivalAt 29 = .ok (.aconst_null, 1) := by decide +kernel
theorem dX3_arrivalAt_30 : decode cX3_arrivalAt 30 = .ok (.areturn, 1) := by decide +kernel
def X3_arrivalAt (a0 : Nat) (i1 : Int32) : M (Option Nat) := it (i1 < 0) (pu none) (bd (gR 6 2 a0) (fun y1 => bd (ck 2 y1) (fun _ => bd (Jx4a65c_size_8abf5 y1) (fun x2 => it (x2 ≤ i1) (pu none) (bd (gR 6 2 a0) (fun y3 => bd (ck 2 y3) (fun _ => bd (Jx4a65c_get_915e3 y3 i1) (fun y4 => bd (ck 3 y4) (fun _ => pu (some y4))))))))))
section
variable {G : Gx} {p : Program} {l : Launch} {e : Env} {R : Room} {s : State} {m : MethodId} {args : Array Value} {below : List Frame} {meth : Method} {c : Code} {h0 : Hp} {r : Option Nat} {h' : Hp}
end
set_option maxRecDepth 20000 in
theorem con_X3_arrivalAt (l : Launch) (G : Gx) (a0 : Nat) (i1 : Int32) : Con G rvO l yX3_arrivalAt cX3_arrivalAt 2 (some (.object "AppendKeep$Arrival")) 3 64 [.ref a0, .int i1] (X3_arrivalAt a0 i1) := by
  refine con_of (lv := [(0, .ref a0), (1, .int i1)]) (by decide) (Nat.le_of_ble_eq_true rfl) rfl (fun p e R s m args below meth c h0 r h' C hF hO hr hm => ?_)
  refine s_iload_n C 1 dX3_arrivalAt_0 rfl rfl ?_
  refine s_if_lt (tgt := 29) C dX3_arrivalAt_1 (by decide) ?_ ?_
  · refine s_nullO C dX3_arrivalAt_29 ?_
    exact s_aret (v := none) C hr (by first | exact Or.inl ⟨_, rfl⟩ | exact Or.inr ⟨_, rfl⟩) rfl dX3_arrivalAt_30
  refine s_iload_n C 1 dX3_arrivalAt_4 rfl rfl ?_
  refine s_aload_n C 0 dX3_arrivalAt_5 rfl rfl ?_
  refine s_gR C ci6 2 (by decide) (Or.inl wd_1_89) dX3_arrivalAt_6 (fun y1 => ?_)
  refine s_invV_i C ci2 cy_Jx4a65c_size_8abf5 (Or.inl wd_1_212) rfl wd_1_213 wd_1_214 (con_Jx4a65c_size_8abf5 l G y1) rfl rfl (Nat.le_of_ble_eq_true rfl) (by rw [hF]; decide) (by rw [hO]; exact Nat.le_of_ble_eq_true rfl) dX3_arrivalAt_9 (fun x2 => ?_)
  refine s_icmp_ge (tgt := 29) C dX3_arrivalAt_12 (by decide) ?_ ?_
  · refine s_nullO C dX3_arrivalAt_29 ?_
    exact s_aret (v := none) C hr (by first | exact Or.inl ⟨_, rfl⟩ | exact Or.inr ⟨_, rfl⟩) rfl dX3_arrivalAt_30
  refine s_aload_n C 0 dX3_arrivalAt_15 rfl rfl ?_
  refine s_gR C ci6 2 (by decide) (Or.inl wd_1_89) dX3_arrivalAt_16 (fun y3 => ?_)
  refine s_iload_n C 1 dX3_arrivalAt_19 rfl rfl ?_
  refine s_invV_r C ci2 cy_Jx4a65c_get_915e3 (Or.inl wd_2_138) rfl wd_2_139 wd_2_140 (con_Jx4a65c_get_915e3 l G y3 i1) rfl rfl (Nat.le_of_ble_eq_true rfl) (by rw [hF]; decide) (by rw [hO]; exact Nat.le_of_ble_eq_true rfl) dX3_arrivalAt_20 (fun y4 => ?_)
  refine s_ck C ci3 wd_5_17 dX3_arrivalAt_23 ?_
  refine s_goto (tgt := 30) C dX3_arrivalAt_26 (by decide) ?_
  exact s_aret (v := (some y4)) C hr (by first | exact Or.inl ⟨_, rfl⟩ | exact Or.inr ⟨_, rfl⟩) rfl dX3_arrivalAt_30

theorem dX3_noteArrival_0 : decode cX3_noteArrival 0 = .ok (.aload_n 0, 1) := by decide +kernel
theorem dX3_noteArrival_1 : decode cX3_noteArrival 1 = .ok (.aload_n 0, 1) := by decide +kernel
theorem dX3_noteArrival_2 : decode cX3_noteArrival 2 = .ok (.getfield 32, 3) := by decide +kernel
theorem dX3_noteArrival_5 : decode cX3_noteArrival 5 = .ok (.iconst 1, 1) := by decide +kernel
theorem dX3_noteArrival_6 : decode cX3_noteArrival 6 = .ok (.isub, 1) := by decide +kernel
theorem dX3_noteArrival_7 : decode cX3_noteArrival 7 = .ok (.invokevirtual 99, 3) := by decide +kernel
theorem dX3_noteArrival_10 : decode cX3_noteArrival 10 = .ok (.astore_n 3, 1) := by decide +kernel
theorem dX3_noteArrival_11 : decode cX3_noteArrival 11 = .ok (.aload_n 3, 1) := by decide +kernel
theorem dX3_noteArrival_12 : decode cX3_noteArrival 12 = .ok (.ifnull 22, 3) := by decide +kernel
theorem dX3_noteArrival_15 : decode cX3_noteArrival 15 = .ok (.aload_n 3, 1) := by decide +kernel
theorem dX3_noteArrival_16 : decode cX3_noteArrival 16 = .ok (.getfield 130, 3) := by decide +kernel
theorem dX3_noteArrival_19 : decode cX3_noteArrival 19 = .ok (.aload_n 1, 1) := by decide +kernel
theorem dX3_noteArrival_20 : decode cX3_noteArrival 20 = .ok (.if_acmp .ne 14, 3) := by decide +kernel
theorem dX3_noteArrival_23 : decode cX3_noteArrival 23 = .ok (.aload_n 3, 1) := by decide +kernel
theorem dX3_noteArrival_24 : decode cX3_noteArrival 24 = .ok (.dup, 1) := by decide +kernel
theorem dX3_noteArrival_25 : decode cX3_noteArrival 25 = .ok (.getfield 103, 3) := by decide +kernel
theorem dX3_noteArrival_28 : decode cX3_noteArrival 28 = .ok (.iload_n 2, 1) := by decide +kernel
theorem dX3_noteArrival_29 : decode cX3_noteArrival 29 = .ok (.iadd, 1) := by decide +kernel
theorem dX3_noteArrival_30 : decode cX3_noteArrival 30 = .ok (.putfield 103, 3) := by decide +kernel
theorem dX3_noteArrival_33 : decode cX3_noteArrival 33 = .ok (.return_, 1) := by decide +kernel
theorem dX3_noteArrival_34 : decode cX3_noteArrival 34 = .ok (.aload_n 0, 1) := by decide +kernel
theorem dX3_noteArrival_35 : decode cX3_noteArrival 35 = .ok (.aload_n 0, 1) := by decide +kernel
theorem dX3_noteArrival_36 : decode cX3_noteArrival 36 = .ok (.getfield 32, 3) := by decide +kernel
theorem dX3_noteArrival_39 : decode cX3_noteArrival 39 = .ok (.invokevirtual 99, 3) := by decide +kernel
theorem dX3_noteArrival_42 : decode cX3_noteArrival 42 = .ok (.astore 4, 2) := by decide +kernel
theorem dX3_noteArrival_44 : decode cX3_noteArrival 44 = .ok (.aload 4, 2) := by decide +kernel
theorem dX3_noteArrival_46 : decode cX3_noteArrival 46 = .ok (.ifnonnull 22, 3) := by decide +kernel
theorem dX3_noteArrival_49 : decode cX3_noteArrival 49 = .ok (.new 104, 3) := by decide +kernel
theorem dX3_noteArrival_52 : decode cX3_noteArrival 52 = .ok (.dup, 1) := by decide +kernel
theorem dX3_noteArrival_53 : decode cX3_noteArrival 53 = .ok (.invokespecial 134, 3) := by decide +kernel
theorem dX3_noteArrival_56 : decode cX3_noteArrival 56 = .ok (.astore 4, 2) := by decide +kernel
theorem dX3_noteArrival_58 : decode cX3_noteArrival 58 = .ok (.aload_n 0, 1) := by decide +kernel
theorem dX3_noteArrival_59 : decode cX3_noteArrival 59 = .ok (.getfield 21, 3) := by decide +kernel
theorem dX3_noteArrival_62 : decode cX3_noteArrival 62 = .ok (.aload 4, 2) := by decide +kernel
theorem dX3_noteArrival_64 : decode cX3_noteArrival 64 = .ok (.invokevirtual 119, 3) := by decide +kernel
theorem dX3_noteArrival_67 : decode cX3_noteArrival 67 = .ok (.pop, 1) := by decide +kernel
theorem dX3_noteArrival_68 : decode cX3_noteArrival 68 = .ok (.aload 4, 2) := by decide +kernel
theorem dX3_noteArrival_70 : decode cX3_noteArrival 70 = .ok (.aload_n 1, 1) := by decide +kernel
theorem dX3_noteArrival_71 : decode cX3_noteArrival 71 = .ok (.putfield 130, 3) := by decide +kernel
theorem dX3_noteArrival_74 : decode cX3_noteArrival 74 = .ok (.aload 4, 2) := by decide +kernel
theorem dX3_noteArrival_76 : decode cX3_noteArrival 76 = .ok (.iload_n 2, 1) := by decide +kernel
theorem dX3_noteArrival_77 : decode cX3_noteArrival 77 = .ok (.putfield 103, 3) := by decide +kernel
theorem dX3_noteArrival_80 : decode cX3_noteArrival 80 = .ok (.aload_n 0, 1) := by decide +kernel
theorem dX3_noteArrival_81 : decode cX3_noteArrival 81 = .ok (.dup, 1) := by decide +kernel
theorem dX3_noteArrival_82 : decode cX3_noteArrival 82 = .ok (.getfield 32, 3) := by decide +kernel
theorem dX3_noteArrival_85 : decode cX3_noteArrival 85 = .ok (.iconst 1, 1) := by decide +kernel
theorem dX3_noteArrival_86 : decode cX3_noteArrival 86 = .ok (.iadd, 1) := by decide +kernel
theorem dX3_noteArrival_87 : decode cX3_noteArrival 87 = .ok (.putfield 32, 3) := by decide +kernel
theorem dX3_noteArrival_90 : decode cX3_noteArrival 90 = .ok (.return_, 1) := by decide +kernel
def X3_noteArrival_b68   (a0 : Nat) (a1 : Nat) (i2 : Int32) (a4 : Nat) : M Unit := bd (pV 3 0 a4 (.ref a1)) (fun _ => bd (pV 3 1 a4 (.int i2)) (fun _ => bd (gI 6 3 a0) (fun x1 => bd (pV 6 3 a0 (.int (x1 + 1))) (fun _ => pu ()))))
def X3_noteArrival_b34   (a0 : Nat) (a1 : Nat) (i2 : Int32) : M Unit := bd (gI 6 3 a0) (fun x1 => bd (ck 6 a0) (fun _ => bd (X3_arrivalAt a0 x1) (fun z2 => co z2 (bd (nw 3 2) (fun y4 => bd (X0_init y4) (fun _ => bd (gR 6 2 a0) (fun y5 => bd (ck 2 y5) (fun _ => bd (Jx4a65c_add_9ea2d y5 y4) (fun x6 => X3_noteArrival_b68   a0 a1 i2 y4)))))) (fun y3 => X3_noteArrival_b68   a0 a1 i2 y3))))
def X3_noteArrival (a0 : Nat) (a1 : Nat) (i2 : Int32) : M Unit := bd (gI 6 3 a0) (fun x1 => bd (ck 6 a0) (fun _ => bd (X3_arrivalAt a0 (x1 - 1)) (fun z2 => co z2 (X3_noteArrival_b34   a0 a1 i2) (fun y3 => bd (gR 3 0 y3) (fun y4 => it ((some y4) = (some a1)) (bd (gI 3 1 y3) (fun x5 => bd (pV 3 1 y3 (.int (x5 + i2))) (fun _ => pu ()))) (X3_noteArrival_b34   a0 a1 i2))))))
section
variable {G : Gx} {p : Program} {l : Launch} {e : Env} {R : Room} {s : State} {m : MethodId} {args : Array Value} {below : List Frame} {meth : Method} {c : Code} {h0 : Hp} {r : Unit} {h' : Hp}
set_option maxRecDepth 20000 in
theorem X3_noteArrival_b68_s (C : Cx G p R s m args meth c cX3_noteArrival 5 yX3_noteArrival.cls h0 h') (hF : R.frames = 7) (hO : R.locals = 231) (hr : meth.sig.returnType = none) (hm : meth.name = yX3_noteArrival.name)   (a0 : Nat) (a1 : Nat) (i2 : Int32) (a4 : Nat) : Sm G (QM G rvU below args s h0 r h') p l e R s m args below meth c 5 h0 r h' 68 [(0, .ref a0), (1, .ref a1), (2, .int i2), (4, .ref a4)] [] (X3_noteArrival_b68   a0 a1 i2 a4) := by
  refine s_aload C 3 dX3_noteArrival_68 rfl ?_
  refine s_aload_n C 1 dX3_noteArrival_70 rfl rfl ?_
  refine s_pV C ci3 0 (by decide) rfl (Or.inr (Or.inr ⟨_, wd_5_24⟩)) dX3_noteArrival_71 rfl rfl ?_
  refine s_aload C 3 dX3_noteArrival_74 rfl ?_
  refine s_iload_n C 2 dX3_noteArrival_76 rfl rfl ?_
  refine s_pV C ci3 1 (by decide) rfl (Or.inr (Or.inr ⟨_, wd_5_25⟩)) dX3_noteArrival_77 rfl rfl ?_
  refine s_aload_n C 0 dX3_noteArrival_80 rfl rfl ?_
  refine s_dup C dX3_noteArrival_81 rfl ?_
  refine s_gI C ci6 3 (by decide) (Or.inl wd_1_90) dX3_noteArrival_82 (fun x1 => ?_)
  refine s_iconst (v := 1) C dX3_noteArrival_85 (by decide) ?_
  refine s_iadd C dX3_noteArrival_86 ?_
  refine s_pV C ci6 3 (by decide) rfl (Or.inl wd_1_90) dX3_noteArrival_87 rfl rfl ?_
  exact s_vret C hr rfl dX3_noteArrival_90
set_option maxRecDepth 20000 in
theorem X3_noteArrival_b34_s (C : Cx G p R s m args meth c cX3_noteArrival 5 yX3_noteArrival.cls h0 h') (hF : R.frames = 7) (hO : R.locals = 231) (hr : meth.sig.returnType = none) (hm : meth.name = yX3_noteArrival.name)   (a0 : Nat) (a1 : Nat) (i2 : Int32) : Sm G (QM G rvU below args s h0 r h') p l e R s m args below meth c 5 h0 r h' 34 [(0, .ref a0), (1, .ref a1), (2, .int i2)] [] (X3_noteArrival_b34   a0 a1 i2) := by
  refine s_aload_n C 0 dX3_noteArrival_34 rfl rfl ?_
  refine s_aload_n C 0 dX3_noteArrival_35 rfl rfl ?_
  refine s_gI C ci6 3 (by decide) (Or.inl wd_1_90) dX3_noteArrival_36 (fun x1 => ?_)
  refine s_invV_o C ci6 cy_X3_arrivalAt (Or.inl wd_5_13) rfl wd_5_15 wp_18 (con_X3_arrivalAt l G a0 x1) rfl rfl (Nat.le_of_ble_eq_true rfl) (by rw [hF]; decide) (by rw [hO]; exact Nat.le_of_ble_eq_true rfl) dX3_noteArrival_39 (fun z2 => ?_)
  refine s_ostore (lv' := [(4, va_rf z2), (0, .ref a0), (1, .ref a1), (2, .int i2)]) C dX3_noteArrival_42 (by decide) rfl ?_
  refine s_oload C 0 dX3_noteArrival_44 rfl ?_
  refine s_ifnonnull (tgt := 68) C dX3_noteArrival_46 (by decide) (fun hq => ?_) (fun y3 hq => ?_)
  · subst hq
    refine s_nw C ci3 wd_5_17 wd_5_18 wd_1_31 dX3_noteArrival_49 (fun y4 => ?_)
    refine s_dup C dX3_noteArrival_52 rfl ?_
    refine s_invI_u C cy_X0_init (Or.inr ⟨_, wd_5_19⟩) rfl wd_5_20 (con_X0_init l G y4) rfl rfl (Nat.le_of_ble_eq_true rfl) (by rw [hF]; decide) (by rw [hO]; exact Nat.le_of_ble_eq_true rfl) dX3_noteArrival_53 ?_
    refine s_astore (lv' := [(4, .ref y4), (0, .ref a0), (1, .ref a1), (2, .int i2)]) C dX3_noteArrival_56 (by decide) rfl ?_
    refine s_aload_n C 1 dX3_noteArrival_58 rfl rfl ?_
    refine s_gR C ci6 2 (by decide) (Or.inl wd_1_89) dX3_noteArrival_59 (fun y5 => ?_)
    refine s_aload C 0 dX3_noteArrival_62 rfl ?_
    refine s_invV_i C ci2 cy_Jx4a65c_add_9ea2d (Or.inl wd_1_238) rfl wd_1_239 wd_2_0 (con_Jx4a65c_add_9ea2d l G y5 y4) rfl rfl (Nat.le_of_ble_eq_true rfl) (by rw [hF]; decide) (by rw [hO]; exact Nat.le_of_ble_eq_true rfl) dX3_noteArrival_64 (fun x6 => ?_)
    refine s_pop C dX3_noteArrival_67 rfl ?_
    refine s_sub [1, 2, 3, 0] rfl ?_
    exact X3_noteArrival_b68_s C hF hO hr hm   a0 a1 i2 y4
  subst hq
  refine s_sub [1, 2, 3, 0] rfl ?_
  exact X3_noteArrival_b68_s C hF hO hr hm   a0 a1 i2 y3
end
set_option maxRecDepth 20000 in
theorem con_X3_noteArrival (l : Launch) (G : Gx) (a0 : Nat) (a1 : Nat) (i2 : Int32) : Con G rvU l yX3_noteArrival cX3_noteArrival 5 none 7 231 [.ref a0, .ref a1, .int i2] (X3_noteArrival a0 a1 i2) := by
  refine con_of (lv := [(0, .ref a0), (1, .ref a1), (2, .int i2)]) (by decide) (Nat.le_of_ble_eq_true rfl) rfl (fun p e R s m args below meth c h0 r h' C hF hO hr hm => ?_)
  refine s_aload_n C 0 dX3_noteArrival_0 rfl rfl ?_
  refine s_aload_n C 0 dX3_noteArrival_1 rfl rfl ?_
  refine s_gI C ci6 3 (by decide) (Or.inl wd_1_90) dX3_noteArrival_2 (fun x1 => ?_)
  refine s_iconst (v := 1) C dX3_noteArrival_5 (by decide) ?_
  refine s_isub C dX3_noteArrival_6 ?_
  refine s_invV_o C ci6 cy_X3_arrivalAt (Or.inl wd_5_13) rfl wd_5_15 wp_18 (con_X3_arrivalAt l G a0 (x1 - 1)) rfl rfl (Nat.le_of_ble_eq_true rfl) (by rw [hF]; decide) (by rw [hO]; exact Nat.le_of_ble_eq_true rfl) dX3_noteArrival_7 (fun z2 => ?_)
  refine s_ostore_n (lv' := [(3, va_rf z2), (0, .ref a0), (1, .ref a1), (2, .int i2)]) C dX3_noteArrival_10 rfl (by decide) rfl ?_
  refine s_oload_n C 0 dX3_noteArrival_11 rfl rfl ?_
  refine s_ifnull (tgt := 34) C dX3_noteArrival_12 (by decide) (fun hq => ?_) (fun y3 hq => ?_)
  · subst hq
    refine s_sub [1, 2, 3] rfl ?_
    exact X3_noteArrival_b34_s C hF hO hr hm   a0 a1 i2
  subst hq
  refine s_aload_n C 0 dX3_noteArrival_15 rfl rfl ?_
  refine s_gR C ci3 0 (by decide) (Or.inr (Or.inr ⟨_, wd_5_24⟩)) dX3_noteArrival_16 (fun y4 => ?_)
  refine s_aload_n C 2 dX3_noteArrival_19 rfl rfl ?_
  refine s_acmp_ne (x := (some y4)) (y := (some a1)) (tgt := 34) C dX3_noteArrival_20 (by decide) ?_ ?_
  · refine s_sub [1, 2, 3] rfl ?_
    exact X3_noteArrival_b34_s C hF hO hr hm   a0 a1 i2
  refine s_aload_n C 0 dX3_noteArrival_23 rfl rfl ?_
  refine s_dup C dX3_noteArrival_24 rfl ?_
  refine s_gI C ci3 1 (by decide) (Or.inr (Or.inr ⟨_, wd_5_25⟩)) dX3_noteArrival_25 (fun x5 => ?_)
  refine s_iload_n C 3 dX3_noteArrival_28 rfl rfl ?_
  refine s_iadd C dX3_noteArrival_29 ?_
  refine s_pV C ci3 1 (by decide) rfl (Or.inr (Or.inr ⟨_, wd_5_25⟩)) dX3_noteArrival_30 rfl rfl ?_
  exact s_vret C hr rfl dX3_noteArrival_33

theorem dX3_append_0 : decode cX3_append 0 = .ok (.aload_n 0, 1) := by decide +kernel
theorem dX3_append_1 : decode cX3_append 1 = .ok (.iload_n 1, 1) := by decide +kernel
theorem dX3_append_2 : decode cX3_append 2 = .ok (.iload_n 2, 1) := by decide +kernel
theorem dX3_append_3 : decode cX3_append 3 = .ok (.invokevirtual 51, 3) := by decide +kernel
theorem dX3_append_6 : decode cX3_append 6 = .ok (.istore 6, 2) := by decide +kernel
theorem dX3_append_8 : decode cX3_append 8 = .ok (.aload_n 0, 1) := by decide +kernel
theorem dX3_append_9 : decode cX3_append 9 = .ok (.iload 6, 2) := by decide +kernel
theorem dX3_append_11 : decode cX3_append 11 = .ok (.invokevirtual 55, 3) := by decide +kernel
theorem dX3_append_14 : decode cX3_append 14 = .ok (.astore 7, 2) := by decide +kernel
theorem dX3_append_16 : decode cX3_append 16 = .ok (.aload 7, 2) := by decide +kernel
theorem dX3_append_18 : decode cX3_append 18 = .ok (.ifnull 13, 3) := by decide +kernel
theorem dX3_append_21 : decode cX3_append 21 = .ok (.aload 7, 2) := by decide +kernel
theorem dX3_append_23 : decode cX3_append 23 = .ok (.iload_n 1, 1) := by decide +kernel
theorem dX3_append_24 : decode cX3_append 24 = .ok (.iload_n 2, 1) := by decide +kernel
theorem dX3_append_25 : decode cX3_append 25 = .ok (.invokevirtual 59, 3) := by decide +kernel
theorem dX3_append_28 : decode cX3_append 28 = .ok (.ifCond .ne 32, 3) := by decide +kernel
theorem dX3_append_31 : decode cX3_append 31 = .ok (.aload_n 0, 1) := by decide +kernel
theorem dX3_append_32 : decode cX3_append 32 = .ok (.invokevirtual 83, 3) := by decide +kernel
theorem dX3_append_35 : decode cX3_append 35 = .ok (.astore 7, 2) := by decide +kernel
theorem dX3_append_37 : decode cX3_append 37 = .ok (.aload 7, 2) := by decide +kernel
theorem dX3_append_39 : decode cX3_append 39 = .ok (.iload_n 1, 1) := by decide +kernel
theorem dX3_append_40 : decode cX3_append 40 = .ok (.putfield 80, 3) := by decide +kernel
theorem dX3_append_43 : decode cX3_append 43 = .ok (.aload 7, 2) := by decide +kernel
theorem dX3_append_45 : decode cX3_append 45 = .ok (.iload_n 2, 1) := by decide +kernel
theorem dX3_append_46 : decode cX3_append 46 = .ok (.putfield 77, 3) := by decide +kernel
theorem dX3_append_49 : decode cX3_append 49 = .ok (.aload_n 0, 1) := by decide +kernel
theorem dX3_append_50 : decode cX3_append 50 = .ok (.getfield 12, 3) := by decide +kernel
theorem dX3_append_53 : decode cX3_append 53 = .ok (.iload 6, 2) := by decide +kernel
theorem dX3_append_55 : decode cX3_append 55 = .ok (.aload 7, 2) := by decide +kernel
theorem dX3_append_57 : decode cX3_append 57 = .ok (.invokevirtual 87, 3) := by decide +kernel
theorem dX3_append_60 : decode cX3_append 60 = .ok (.aload 7, 2) := by decide +kernel
theorem dX3_append_62 : decode cX3_append 62 = .ok (.getfield 67, 3) := by decide +kernel
theorem dX3_append_65 : decode cX3_append 65 = .ok (.aload_n 3, 1) := by decide +kernel
theorem dX3_append_66 : decode cX3_append 66 = .ok (.iload 4, 2) := by decide +kernel
theorem dX3_append_68 : decode cX3_append 68 = .ok (.iload 5, 2) := by decide +kernel
theorem dX3_append_70 : decode cX3_append 70 = .ok (.invokevirtual 91, 3) := by decide +kernel
theorem dX3_append_73 : decode cX3_append 73 = .ok (.aload 7, 2) := by decide +kernel
theorem dX3_append_75 : decode cX3_append 75 = .ok (.dup, 1) := by decide +kernel
theorem dX3_append_76 : decode cX3_append 76 = .ok (.getfield 74, 3) := by decide +kernel
theorem dX3_append_79 : decode cX3_append 79 = .ok (.iload 5, 2) := by decide +kernel
theorem dX3_append_81 : decode cX3_append 81 = .ok (.iadd, 1) := by decide +kernel
theorem dX3_append_82 : decode cX3_append 82 = .ok (.putfield 74, 3) := by decide +kernel
theorem dX3_append_85 : decode cX3_append 85 = .ok (.aload_n 0, 1) := by decide +kernel
theorem dX3_append_86 : decode cX3_append 86 = .ok (.aload 7, 2) := by decide +kernel
theorem dX3_append_88 : decode cX3_append 88 = .ok (.iload 5, 2) := by decide +kernel
theorem dX3_append_90 : decode cX3_append 90 = .ok (.invokevirtual 95, 3) := by decide +kernel
theorem dX3_append_93 : decode cX3_append 93 = .ok (.return_, 1) := by decide +kernel
def X3_append_b60   (a0 : Nat) (a3 : Nat) (i4 : Int32) (i5 : Int32) (o7 : Option Nat) : M Unit := nn o7 (fun y1 => bd (gR 7 0 y1) (fun y2 => bd (ck 4 y2) (fun _ => bd (X1_addPart y2 a3 i4 i5) (fun _ => bd (gI 7 3 y1) (fun x3 => bd (pV 7 3 y1 (.int (x3 + i5))) (fun _ => bd (ck 6 a0) (fun _ => bd (X3_noteArrival a0 y1 i5) (fun _ => pu ()))))))))
def X3_append_b31   (a0 : Nat) (i1 : Int32) (i2 : Int32) (a3 : Nat) (i4 : Int32) (i5 : Int32) (i6 : Int32) : M Unit := bd (ck 6 a0) (fun _ => bd (X3_takeSpare a0) (fun y1 => bd (pV 7 1 y1 (.int i1)) (fun _ => bd (pV 7 2 y1 (.int i2)) (fun _ => bd (gR 6 0 a0) (fun y2 => bd (ck 2 y2) (fun _ => bd (Jx4a65c_add_7a177 y2 i6 y1) (fun _ => X3_append_b60   a0 a3 i4 i5 (some y1))))))))
def X3_append (a0 : Nat) (i1 : Int32) (i2 : Int32) (a3 : Nat) (i4 : Int32) (i5 : Int32) : M Unit := bd (ck 6 a0) (fun _ => bd (X3_placeFor a0 i1 i2) (fun x1 => bd (ck 6 a0) (fun _ => bd (X3_at a0 x1) (fun z2 => co z2 (X3_append_b31   a0 i1 i2 a3 i4 i5 x1) (fun y3 => bd (ck 7 y3) (fun _ => bd (X4_isOf y3 i1 i2) (fun x4 => it (¬ x4 = 0) (X3_append_b60   a0 a3 i4 i5 (some y3)) (X3_append_b31   a0 i1 i2 a3 i4 i5 x1))))))))
section
variable {G : Gx} {p : Program} {l : Launch} {e : Env} {R : Room} {s : State} {m : MethodId} {args : Array Value} {below : List Frame} {meth : Method} {c : Code} {h0 : Hp} {r : Unit} {h' : Hp}
set_option maxRecDepth 20000 in
theorem X3_append_b60_s (C : Cx G p R s m args meth c cX3_append 8 yX3_append.cls h0 h') (hF : R.frames = 8) (hO : R.locals = 255) (hr : meth.sig.returnType = none) (hm : meth.name = yX3_append.name)   (a0 : Nat) (a3 : Nat) (i4 : Int32) (i5 : Int32) (o7 : Option Nat) : Sm G (QM G rvU below args s h0 r h') p l e R s m args below meth c 8 h0 r h' 60 [(0, .ref a0), (3, .ref a3), (4, .int i4), (5, .int i5), (7, va_rf o7)] [] (X3_append_b60   a0 a3 i4 i5 o7) := by
  refine s_oload C 4 dX3_append_60 rfl ?_
  refine s_nn2 (fun y1 hq => ?_)
  subst hq
  refine s_gR C ci7 0 (by decide) (Or.inr (Or.inr ⟨_, wd_3_214⟩)) dX3_append_62 (fun y2 => ?_)
  refine s_aload_n C 1 dX3_append_65 rfl rfl ?_
  refine s_iload C 2 dX3_append_66 rfl ?_
  refine s_iload C 3 dX3_append_68 rfl ?_
  refine s_invV_u C ci4 cy_X1_addPart (Or.inl wd_5_8) rfl wd_3_115 wd_3_116 (con_X1_addPart l G y2 a3 i4 i5) rfl rfl (Nat.le_of_ble_eq_true rfl) (by rw [hF]; decide) (by rw [hO]; exact Nat.le_of_ble_eq_true rfl) dX3_append_70 ?_
  refine s_aload C 4 dX3_append_73 rfl ?_
  refine s_dup C dX3_append_75 rfl ?_
  refine s_gI C ci7 3 (by decide) (Or.inr (Or.inr ⟨_, wd_3_227⟩)) dX3_append_76 (fun x3 => ?_)
  refine s_iload C 3 dX3_append_79 rfl ?_
  refine s_iadd C dX3_append_81 ?_
  refine s_pV C ci7 3 (by decide) rfl (Or.inr (Or.inr ⟨_, wd_3_227⟩)) dX3_append_82 rfl rfl ?_
  refine s_aload_n C 0 dX3_append_85 rfl rfl ?_
  refine s_aload C 4 dX3_append_86 rfl ?_
  refine s_iload C 3 dX3_append_88 rfl ?_
  refine s_invV_u C ci6 cy_X3_noteArrival (Or.inl wd_5_9) rfl wd_5_11 wp_17 (con_X3_noteArrival l G a0 y1 i5) rfl rfl (Nat.le_of_ble_eq_true rfl) (by rw [hF]; decide) (by rw [hO]; exact Nat.le_of_ble_eq_true rfl) dX3_append_90 ?_
  exact s_vret C hr rfl dX3_append_93
set_option maxRecDepth 20000 in
theorem X3_append_b31_s (C : Cx G p R s m args meth c cX3_append 8 yX3_append.cls h0 h') (hF : R.frames = 8) (hO : R.locals = 255) (hr : meth.sig.returnType = none) (hm : meth.name = yX3_append.name)   (a0 : Nat) (i1 : Int32) (i2 : Int32) (a3 : Nat) (i4 : Int32) (i5 : Int32) (i6 : Int32) : Sm G (QM G rvU below args s h0 r h') p l e R s m args below meth c 8 h0 r h' 31 [(0, .ref a0), (1, .int i1), (2, .int i2), (3, .ref a3), (4, .int i4), (5, .int i5), (6, .int i6)] [] (X3_append_b31   a0 i1 i2 a3 i4 i5 i6) := by
  refine s_aload_n C 0 dX3_append_31 rfl rfl ?_
  refine s_invV_r C ci6 cy_X3_takeSpare (Or.inl wd_3_196) rfl wd_3_198 wp_14 (con_X3_takeSpare l G a0) rfl rfl (Nat.le_of_ble_eq_true rfl) (by rw [hF]; decide) (by rw [hO]; exact Nat.le_of_ble_eq_true rfl) dX3_append_32 (fun y1 => ?_)
  refine s_astore (lv' := [(7, .ref y1), (0, .ref a0), (1, .int i1), (2, .int i2), (3, .ref a3), (4, .int i4), (5, .int i5), (6, .int i6)]) C dX3_append_35 (by decide) rfl ?_
  refine s_aload C 0 dX3_append_37 rfl ?_
  refine s_iload_n C 2 dX3_append_39 rfl rfl ?_
  refine s_pV C ci7 1 (by decide) rfl (Or.inr (Or.inr ⟨_, wd_3_219⟩)) dX3_append_40 rfl rfl ?_
  refine s_aload C 0 dX3_append_43 rfl ?_
  refine s_iload_n C 3 dX3_append_45 rfl rfl ?_
  refine s_pV C ci7 2 (by decide) rfl (Or.inr (Or.inr ⟨_, wd_3_224⟩)) dX3_append_46 rfl rfl ?_
  refine s_aload_n C 1 dX3_append_49 rfl rfl ?_
  refine s_gR C ci6 0 (by decide) (Or.inl wd_1_87) dX3_append_50 (fun y2 => ?_)
  refine s_iload C 7 dX3_append_53 rfl ?_
  refine s_aload C 0 dX3_append_55 rfl ?_
  refine s_invV_u C ci2 cy_Jx4a65c_add_7a177 (Or.inl wd_3_239) rfl wd_4_0 wd_4_1 (con_Jx4a65c_add_7a177 l G y2 i6 y1) rfl rfl (Nat.le_of_ble_eq_true rfl) (by rw [hF]; decide) (by rw [hO]; exact Nat.le_of_ble_eq_true rfl) dX3_append_57 ?_
  refine s_sub [1, 4, 5, 6, 0] rfl ?_
  exact X3_append_b60_s C hF hO hr hm   a0 a3 i4 i5 (some y1)
end
set_option maxRecDepth 20000 in
theorem con_X3_append (l : Launch) (G : Gx) (a0 : Nat) (i1 : Int32) (i2 : Int32) (a3 : Nat) (i4 : Int32) (i5 : Int32) : Con G rvU l yX3_append cX3_append 8 none 8 255 [.ref a0, .int i1, .int i2, .ref a3, .int i4, .int i5] (X3_append a0 i1 i2 a3 i4 i5) := by
  refine con_of (lv := [(0, .ref a0), (1, .int i1), (2, .int i2), (3, .ref a3), (4, .int i4), (5, .int i5)]) (by decide) (Nat.le_of_ble_eq_true rfl) rfl (fun p e R s m args below meth c h0 r h' C hF hO hr hm => ?_)
  refine s_aload_n C 0 dX3_append_0 rfl rfl ?_
  refine s_iload_n C 1 dX3_append_1 rfl rfl ?_
  refine s_iload_n C 2 dX3_append_2 rfl rfl ?_
  refine s_invV_i C ci6 cy_X3_placeFor (Or.inl wd_3_179) rfl wd_3_181 wp_13 (con_X3_placeFor l G a0 i1 i2) rfl rfl (Nat.le_of_ble_eq_true rfl) (by rw [hF]; decide) (by rw [hO]; exact Nat.le_of_ble_eq_true rfl) dX3_append_3 (fun x1 => ?_)
  refine s_istore (lv' := [(6, .int x1), (0, .ref a0), (1, .int i1), (2, .int i2), (3, .ref a3), (4, .int i4), (5, .int i5)]) C dX3_append_6 (by decide) rfl ?_
  refine s_aload_n C 1 dX3_append_8 rfl rfl ?_
  refine s_iload C 0 dX3_append_9 rfl ?_
  refine s_invV_o C ci6 cy_X3_at (Or.inl wd_3_183) rfl wd_2_135 wd_2_136 (con_X3_at l G a0 x1) rfl rfl (Nat.le_of_ble_eq_true rfl) (by rw [hF]; decide) (by rw [hO]; exact Nat.le_of_ble_eq_true rfl) dX3_append_11 (fun z2 => ?_)
  refine s_ostore (lv' := [(7, va_rf z2), (6, .int x1), (0, .ref a0), (1, .int i1), (2, .int i2), (3, .ref a3), (4, .int i4), (5, .int i5)]) C dX3_append_14 (by decide) rfl ?_
  refine s_oload C 0 dX3_append_16 rfl ?_
  refine s_ifnull (tgt := 31) C dX3_append_18 (by decide) (fun hq => ?_) (fun y3 hq => ?_)
  · subst hq
    refine s_sub [2, 3, 4, 5, 6, 7, 1] rfl ?_
    exact X3_append_b31_s C hF hO hr hm   a0 i1 i2 a3 i4 i5 x1
  subst hq
  refine s_aload C 0 dX3_append_21 rfl ?_
  refine s_iload_n C 3 dX3_append_23 rfl rfl ?_
  refine s_iload_n C 4 dX3_append_24 rfl rfl ?_
  refine s_invV_i C ci7 cy_X4_isOf (Or.inl wd_3_184) rfl wd_3_185 wd_3_186 (con_X4_isOf l G y3 i1 i2) rfl rfl (Nat.le_of_ble_eq_true rfl) (by rw [hF]; decide) (by rw [hO]; exact Nat.le_of_ble_eq_true rfl) dX3_append_25 (fun x4 => ?_)
  refine s_if_ne (tgt := 60) C dX3_append_28 (by decide) ?_ ?_
  · refine s_sub [2, 5, 6, 7, 0] rfl ?_
    exact X3_append_b60_s C hF hO hr hm   a0 a3 i4 i5 (some y3)
  refine s_sub [2, 3, 4, 5, 6, 7, 1] rfl ?_
  exact X3_append_b31_s C hF hO hr hm   a0 i1 i2 a3 i4 i5 x1

theorem dX3_discard_0 : decode cX3_discard 0 = .ok (.aload_n 0, 1) := by decide +kernel
theorem dX3_discard_1 : decode cX3_discard 1 = .ok (.iload_n 1, 1) := by decide +kernel
theorem dX3_discard_2 : decode cX3_discard 2 = .ok (.iload_n 2, 1) := by decide +kernel
theorem dX3_discard_3 : decode cX3_discard 3 = .ok (.invokevirtual 51, 3) := by decide +kernel
theorem dX3_discard_6 : decode cX3_discard 6 = .ok (.istore_n 3, 1) := by decide +kernel
theorem dX3_discard_7 : decode cX3_discard 7 = .ok (.aload_n 0, 1) := by decide +kernel
theorem dX3_discard_8 : decode cX3_discard 8 = .ok (.iload_n 3, 1) := by decide +kernel
theorem dX3_discard_9 : decode cX3_discard 9 = .ok (.invokevirtual 55, 3) := by decide +kernel
theorem dX3_discard_12 : decode cX3_discard 12 = .ok (.astore 4, 2) := by decide +kernel
theorem dX3_discard_14 : decode cX3_discard 14 = .ok (.aload 4, 2) := by decide +kernel
theorem dX3_discard_16 : decode cX3_discard 16 = .ok (.ifnull 13, 3) := by decide +kernel
theorem dX3_discard_19 : decode cX3_discard 19 = .ok (.aload 4, 2) := by decide +kernel
theorem dX3_discard_21 : decode cX3_discard 21 = .ok (.iload_n 1, 1) := by decide +kernel
theorem dX3_discard_22 : decode cX3_discard 22 = .ok (.iload_n 2, 1) := by decide +kernel
theorem dX3_discard_23 : decode cX3_discard 23 = .ok (.invokevirtual 59, 3) := by decide +kernel
theorem dX3_discard_26 : decode cX3_discard 26 = .ok (.ifCond .ne 5, 3) := by decide +kernel
theorem dX3_discard_29 : decode cX3_discard 29 = .ok (.iconst 0, 1) := by decide +kernel
theorem dX3_discard_30 : decode cX3_discard 30 = .ok (.ireturn, 1) := by decide +kernel
theorem dX3_discard_31 : decode cX3_discard 31 = .ok (.aload_n 0, 1) := by decide +kernel
theorem dX3_discard_32 : decode cX3_discard 32 = .ok (.iload_n 3, 1) := by decide +kernel
theorem dX3_discard_33 : decode cX3_discard 33 = .ok (.invokevirtual 28, 3) := by decide +kernel
theorem dX3_discard_36 : decode cX3_discard 36 = .ok (.iconst 1, 1) := by decide +kernel
theorem dX3_discard_37 : decode cX3_discard 37 = .ok (.ireturn, 1) := by decide +kernel
def X3_discard (a0 : Nat) (i1 : Int32) (i2 : Int32) : M Int32 := bd (ck 6 a0) (fun _ => bd (X3_placeFor a0 i1 i2) (fun x1 => bd (ck 6 a0) (fun _ => bd (X3_at a0 x1) (fun z2 => co z2 (pu 0) (fun y3 => bd (ck 7 y3) (fun _ => bd (X4_isOf y3 i1 i2) (fun x4 => it (¬ x4 = 0) (bd (ck 6 a0) (fun _ => bd (X3_discardAt a0 x1) (fun _ => pu 1))) (pu 0))))))))
section
variable {G : Gx} {p : Program} {l : Launch} {e : Env} {R : Room} {s : State} {m : MethodId} {args : Array Value} {below : List Frame} {meth : Method} {c : Code} {h0 : Hp} {r : Int32} {h' : Hp}
end
set_option maxRecDepth 20000 in
theorem con_X3_discard (l : Launch) (G : Gx) (a0 : Nat) (i1 : Int32) (i2 : Int32) : Con G rvI l yX3_discard cX3_discard 5 (some .boolean) 8 252 [.ref a0, .int i1, .int i2] (X3_discard a0 i1 i2) := by
  refine con_of (lv := [(0, .ref a0), (1, .int i1), (2, .int i2)]) (by decide) (Nat.le_of_ble_eq_true rfl) rfl (fun p e R s m args below meth c h0 r h' C hF hO hr hm => ?_)
  refine s_aload_n C 0 dX3_discard_0 rfl rfl ?_
  refine s_iload_n C 1 dX3_discard_1 rfl rfl ?_
  refine s_iload_n C 2 dX3_discard_2 rfl rfl ?_
  refine s_invV_i C ci6 cy_X3_placeFor (Or.inl wd_3_179) rfl wd_3_181 wp_13 (con_X3_placeFor l G a0 i1 i2) rfl rfl (Nat.le_of_ble_eq_true rfl) (by rw [hF]; decide) (by rw [hO]; exact Nat.le_of_ble_eq_true rfl) dX3_discard_3 (fun x1 => ?_)
  refine s_istore_n (lv' := [(3, .int x1), (0, .ref a0), (1, .int i1), (2, .int i2)]) C dX3_discard_6 rfl (by decide) rfl ?_
  refine s_aload_n C 1 dX3_discard_7 rfl rfl ?_
  refine s_iload_n C 0 dX3_discard_8 rfl rfl ?_
  refine s_invV_o C ci6 cy_X3_at (Or.inl wd_3_183) rfl wd_2_135 wd_2_136 (con_X3_at l G a0 x1) rfl rfl (Nat.le_of_ble_eq_true rfl) (by rw [hF]; decide) (by rw [hO]; exact Nat.le_of_ble_eq_true rfl) dX3_discard_9 (fun z2 => ?_)
  refine s_ostore (lv' := [(4, va_rf z2), (3, .int x1), (0, .ref a0), (1, .int i1), (2, .int i2)]) C dX3_discard_12 (by decide) rfl ?_
  refine s_oload C 0 dX3_discard_14 rfl ?_
  refine s_ifnull (tgt := 29) C dX3_discard_16 (by decide) (fun hq => ?_) (fun y3 hq => ?_)
  · subst hq
    refine s_iconst (v := 0) C dX3_discard_29 (by decide) ?_
    exact s_zret C hr rfl (Or.inl rfl) dX3_discard_30
  subst hq
  refine s_aload C 0 dX3_discard_19 rfl ?_
  refine s_iload_n C 3 dX3_discard_21 rfl rfl ?_
  refine s_iload_n C 4 dX3_discard_22 rfl rfl ?_
  refine s_invV_i C ci7 cy_X4_isOf (Or.inl wd_3_184) rfl wd_3_185 wd_3_186 (con_X4_isOf l G y3 i1 i2) rfl rfl (Nat.le_of_ble_eq_true rfl) (by rw [hF]; decide) (by rw [hO]; exact Nat.le_of_ble_eq_true rfl) dX3_discard_23 (fun x4 => ?_)
  refine s_if_ne (tgt := 31) C dX3_discard_26 (by decide) ?_ ?_
  · refine s_aload_n C 2 dX3_discard_31 rfl rfl ?_
    refine s_iload_n C 1 dX3_discard_32 rfl rfl ?_
    refine s_invV_u C ci6 cy_X3_discardAt (Or.inl wd_1_216) rfl wd_1_218 wp_1 (con_X3_discardAt l G a0 x1) rfl rfl (Nat.le_of_ble_eq_true rfl) (by rw [hF]; decide) (by rw [hO]; exact Nat.le_of_ble_eq_true rfl) dX3_discard_33 ?_
    refine s_iconst (v := 1) C dX3_discard_36 (by decide) ?_
    exact s_zret C hr rfl (Or.inr rfl) dX3_discard_37
  refine s_iconst (v := 0) C dX3_discard_29 (by decide) ?_
  exact s_zret C hr rfl (Or.inl rfl) dX3_discard_30

theorem dX3_settle_0 : decode cX3_settle 0 = .ok (.iconst 0, 1) := by decide +kernel
theorem dX3_settle_1 : decode cX3_settle 1 = .ok (.istore_n 1, 1) := by decide +kernel
theorem dX3_settle_2 : decode cX3_settle 2 = .ok (.iload_n 1, 1) := by decide +kernel
theorem dX3_settle_3 : decode cX3_settle 3 = .ok (.aload_n 0, 1) := by decide +kernel
theorem dX3_settle_4 : decode cX3_settle 4 = .ok (.getfield 12, 3) := by decide +kernel
theorem dX3_settle_7 : decode cX3_settle 7 = .ok (.invokevirtual 24, 3) := by decide +kernel
theorem dX3_settle_10 : decode cX3_settle 10 = .ok (.if_icmp .ge 24, 3) := by decide +kernel
theorem dX3_settle_13 : decode cX3_settle 13 = .ok (.aload_n 0, 1) := by decide +kernel
theorem dX3_settle_14 : decode cX3_settle 14 = .ok (.getfield 12, 3) := by decide +kernel
theorem dX3_settle_17 : decode cX3_settle 17 = .ok (.iload_n 1, 1) := by decide +kernel
theorem dX3_settle_18 : decode cX3_settle 18 = .ok (.invokevirtual 45, 3) := by decide +kernel
theorem dX3_settle_21 : decode cX3_settle 21 = .ok (.checkcast 49, 3) := by decide +kernel
theorem dX3_settle_24 : decode cX3_settle 24 = .ok (.iconst 0, 1) := by decide +kernel
theorem dX3_settle_25 : decode cX3_settle 25 = .ok (.putfield 74, 3) := by decide +kernel
theorem dX3_settle_28 : decode cX3_settle 28 = .ok (.iinc 1 1, 3) := by decide +kernel
theorem dX3_settle_31 : decode cX3_settle 31 = .ok (.goto (-29), 3) := by decide +kernel
theorem dX3_settle_34 : decode cX3_settle 34 = .ok (.aload_n 0, 1) := by decide +kernel
theorem dX3_settle_35 : decode cX3_settle 35 = .ok (.iconst 0, 1) := by decide +kernel
theorem dX3_settle_36 : decode cX3_settle 36 = .ok (.putfield 32, 3) := by decide +kernel
theorem dX3_settle_39 : decode cX3_settle 39 = .ok (.return_, 1) := by decide +kernel
def X3_settle_b2b  (k2 : Nat → Int32 → M Unit) (a0 : Nat) (i1 : Int32) : M Unit := bd (gR 6 0 a0) (fun y1 => bd (ck 2 y1) (fun _ => bd (Jx4a65c_size_8abf5 y1) (fun x2 => it (x2 ≤ i1) (bd (pV 6 3 a0 (.int 0)) (fun _ => pu ())) (bd (gR 6 0 a0) (fun y3 => bd (ck 2 y3) (fun _ => bd (Jx4a65c_get_915e3 y3 i1) (fun y4 => bd (ck 7 y4) (fun _ => bd (pV 7 3 y4 (.int 0)) (fun _ => k2 a0 (i1 + 1))))))))))
def X3_settle_b2  : Nat → Nat → Int32 → M Unit
  | 0 => fun _ _ => fl
  | n + 1 => fun a0 i1 => X3_settle_b2b  (X3_settle_b2  n) a0 i1
def X3_settle (a0 : Nat) : M Unit := X3_settle_b2  FU a0 0
section
variable {G : Gx} {p : Program} {l : Launch} {e : Env} {R : Room} {s : State} {m : MethodId} {args : Array Value} {below : List Frame} {meth : Method} {c : Code} {h0 : Hp} {r : Unit} {h' : Hp}
set_option maxRecDepth 20000 in
theorem X3_settle_b2b_s (C : Cx G p R s m args meth c cX3_settle 2 yX3_settle.cls h0 h') (hF : R.frames = 3) (hO : R.locals = 64) (hr : meth.sig.returnType = none) (hm : meth.name = yX3_settle.name)  {k2 : Nat → Int32 → M Unit} (hk2 : ∀ (a0 : Nat) (i1 : Int32), Sm G (QM G rvU below args s h0 r h') p l e R s m args below meth c 2 h0 r h' 2 [(0, .ref a0), (1, .int i1)] [] (k2 a0 i1)) (a0 : Nat) (i1 : Int32) : Sm G (QM G rvU below args s h0 r h') p l e R s m args below meth c 2 h0 r h' 2 [(0, .ref a0), (1, .int i1)] [] (X3_settle_b2b  k2 a0 i1) := by
  refine s_iload_n C 1 dX3_settle_2 rfl rfl ?_
  refine s_aload_n C 0 dX3_settle_3 rfl rfl ?_
  refine s_gR C ci6 0 (by decide) (Or.inl wd_1_87) dX3_settle_4 (fun y1 => ?_)
  refine s_invV_i C ci2 cy_Jx4a65c_size_8abf5 (Or.inl wd_1_212) rfl wd_1_213 wd_1_214 (con_Jx4a65c_size_8abf5 l G y1) rfl rfl (Nat.le_of_ble_eq_true rfl) (by rw [hF]; decide) (by rw [hO]; exact Nat.le_of_ble_eq_true rfl) dX3_settle_7 (fun x2 => ?_)
  refine s_icmp_ge (tgt := 34) C dX3_settle_10 (by decide) ?_ ?_
  · refine s_aload_n C 0 dX3_settle_34 rfl rfl ?_
    refine s_iconst (v := 0) C dX3_settle_35 (by decide) ?_
    refine s_pV C ci6 3 (by decide) rfl (Or.inl wd_1_90) dX3_settle_36 rfl rfl ?_
    exact s_vret C hr rfl dX3_settle_39
  refine s_aload_n C 0 dX3_settle_13 rfl rfl ?_
  refine s_gR C ci6 0 (by decide) (Or.inl wd_1_87) dX3_settle_14 (fun y3 => ?_)
  refine s_iload_n C 1 dX3_settle_17 rfl rfl ?_
  refine s_invV_r C ci2 cy_Jx4a65c_get_915e3 (Or.inl wd_2_138) rfl wd_2_139 wd_2_140 (con_Jx4a65c_get_915e3 l G y3 i1) rfl rfl (Nat.le_of_ble_eq_true rfl) (by rw [hF]; decide) (by rw [hO]; exact Nat.le_of_ble_eq_true rfl) dX3_settle_18 (fun y4 => ?_)
  refine s_ck C ci7 wd_1_237 dX3_settle_21 ?_
  refine s_iconst (v := 0) C dX3_settle_24 (by decide) ?_
  refine s_pV C ci7 3 (by decide) rfl (Or.inr (Or.inr ⟨_, wd_3_227⟩)) dX3_settle_25 rfl rfl ?_
  refine s_iincK (lv' := [(1, .int (i1 + 1)), (0, .ref a0)]) (w := 1) C 1 dX3_settle_28 rfl (by decide) (by decide) rfl ?_
  refine s_goto (tgt := 2) C dX3_settle_31 (by decide) ?_
  refine s_sub [1, 0] rfl ?_
  exact hk2 a0 (i1 + 1)
set_option maxRecDepth 20000 in
theorem X3_settle_b2_s (C : Cx G p R s m args meth c cX3_settle 2 yX3_settle.cls h0 h') (hF : R.frames = 3) (hO : R.locals = 64) (hr : meth.sig.returnType = none) (hm : meth.name = yX3_settle.name)  (n : Nat) : ∀ (a0 : Nat) (i1 : Int32), Sm G (QM G rvU below args s h0 r h') p l e R s m args below meth c 2 h0 r h' 2 [(0, .ref a0), (1, .int i1)] [] (X3_settle_b2  n a0 i1) := by
  induction n with
  | zero => intro a0 i1; exact s_fl
  | succ n ih => intro a0 i1; exact X3_settle_b2b_s C hF hO hr hm  ih a0 i1
end
set_option maxRecDepth 20000 in
theorem con_X3_settle (l : Launch) (G : Gx) (a0 : Nat) : Con G rvU l yX3_settle cX3_settle 2 none 3 64 [.ref a0] (X3_settle a0) := by
  refine con_of (lv := [(0, .ref a0)]) (by decide) (Nat.le_of_ble_eq_true rfl) rfl (fun p e R s m args below meth c h0 r h' C hF hO hr hm => ?_)
  refine s_iconst (v := 0) C dX3_settle_0 (by decide) ?_
  refine s_istore_n (lv' := [(1, .int 0), (0, .ref a0)]) C dX3_settle_1 rfl (by decide) rfl ?_
  refine s_sub [1, 0] rfl ?_
  exact X3_settle_b2_s C hF hO hr hm  FU a0 0

theorem dX3_loseLast_0 : decode cX3_loseLast 0 = .ok (.iload_n 1, 1) := by decide +kernel
theorem dX3_loseLast_1 : decode cX3_loseLast 1 = .ok (.istore_n 2, 1) := by decide +kernel
theorem dX3_loseLast_2 : decode cX3_loseLast 2 = .ok (.aload_n 0, 1) := by decide +kernel
theorem dX3_loseLast_3 : decode cX3_loseLast 3 = .ok (.getfield 32, 3) := by decide +kernel
theorem dX3_loseLast_6 : decode cX3_loseLast 6 = .ok (.iconst 1, 1) := by decide +kernel
theorem dX3_loseLast_7 : decode cX3_loseLast 7 = .ok (.isub, 1) := by decide +kernel
theorem dX3_loseLast_8 : decode cX3_loseLast 8 = .ok (.istore_n 3, 1) := by decide +kernel
theorem dX3_loseLast_9 : decode cX3_loseLast 9 = .ok (.iload_n 3, 1) := by decide +kernel
theorem dX3_loseLast_10 : decode cX3_loseLast 10 = .ok (.ifCond .lt 48, 3) := by decide +kernel
theorem dX3_loseLast_13 : decode cX3_loseLast 13 = .ok (.iload_n 2, 1) := by decide +kernel
theorem dX3_loseLast_14 : decode cX3_loseLast 14 = .ok (.ifCond .le 44, 3) := by decide +kernel
theorem dX3_loseLast_17 : decode cX3_loseLast 17 = .ok (.aload_n 0, 1) := by decide +kernel
theorem dX3_loseLast_18 : decode cX3_loseLast 18 = .ok (.iload_n 3, 1) := by decide +kernel
theorem dX3_loseLast_19 : decode cX3_loseLast 19 = .ok (.invokevirtual 99, 3) := by decide +kernel
theorem dX3_loseLast_22 : decode cX3_loseLast 22 = .ok (.astore 4, 2) := by decide +kernel
theorem dX3_loseLast_24 : decode cX3_loseLast 24 = .ok (.aload 4, 2) := by decide +kernel
theorem dX3_loseLast_26 : decode cX3_loseLast 26 = .ok (.ifnull 26, 3) := by decide +kernel
theorem dX3_loseLast_29 : decode cX3_loseLast 29 = .ok (.iload_n 2, 1) := by decide +kernel
theorem dX3_loseLast_30 : decode cX3_loseLast 30 = .ok (.aload 4, 2) := by decide +kernel
theorem dX3_loseLast_32 : decode cX3_loseLast 32 = .ok (.getfield 103, 3) := by decide +kernel
theorem dX3_loseLast_35 : decode cX3_loseLast 35 = .ok (.invokestatic 108, 3) := by decide +kernel
theorem dX3_loseLast_38 : decode cX3_loseLast 38 = .ok (.istore 5, 2) := by decide +kernel
theorem dX3_loseLast_40 : decode cX3_loseLast 40 = .ok (.aload 4, 2) := by decide +kernel
theorem dX3_loseLast_42 : decode cX3_loseLast 42 = .ok (.iload 5, 2) := by decide +kernel
theorem dX3_loseLast_44 : decode cX3_loseLast 44 = .ok (.invokevirtual 113, 3) := by decide +kernel
theorem dX3_loseLast_47 : decode cX3_loseLast 47 = .ok (.iload_n 2, 1) := by decide +kernel
theorem dX3_loseLast_48 : decode cX3_loseLast 48 = .ok (.iload 5, 2) := by decide +kernel
theorem dX3_loseLast_50 : decode cX3_loseLast 50 = .ok (.isub, 1) := by decide +kernel
theorem dX3_loseLast_51 : decode cX3_loseLast 51 = .ok (.istore_n 2, 1) := by decide +kernel
theorem dX3_loseLast_52 : decode cX3_loseLast 52 = .ok (.iinc 3 (-1), 3) := by decide +kernel
theorem dX3_loseLast_55 : decode cX3_loseLast 55 = .ok (.goto (-46), 3) := by decide +kernel
theorem dX3_loseLast_58 : decode cX3_loseLast 58 = .ok (.aload_n 0, 1) := by decide +kernel
theorem dX3_loseLast_59 : decode cX3_loseLast 59 = .ok (.getfield 12, 3) := by decide +kernel
theorem dX3_loseLast_62 : decode cX3_loseLast 62 = .ok (.invokevirtual 24, 3) := by decide +kernel
theorem dX3_loseLast_65 : decode cX3_loseLast 65 = .ok (.iconst 1, 1) := by decide +kernel
theorem dX3_loseLast_66 : decode cX3_loseLast 66 = .ok (.isub, 1) := by decide +kernel
theorem dX3_loseLast_67 : decode cX3_loseLast 67 = .ok (.istore_n 3, 1) := by decide +kernel
theorem dX3_loseLast_68 : decode cX3_loseLast 68 = .ok (.iload_n 3, 1) := by decide +kernel
theorem dX3_loseLast_69 : decode cX3_loseLast 69 = .ok (.ifCond .lt 34, 3) := by decide +kernel
theorem dX3_loseLast_72 : decode cX3_loseLast 72 = .ok (.aload_n 0, 1) := by decide +kernel
theorem dX3_loseLast_73 : decode cX3_loseLast 73 = .ok (.getfield 12, 3) := by decide +kernel
theorem dX3_loseLast_76 : decode cX3_loseLast 76 = .ok (.iload_n 3, 1) := by decide +kernel
theorem dX3_loseLast_77 : decode cX3_loseLast 77 = .ok (.invokevirtual 45, 3) := by decide +kernel
theorem dX3_loseLast_80 : decode cX3_loseLast 80 = .ok (.checkcast 49, 3) := by decide +kernel
theorem dX3_loseLast_83 : decode cX3_loseLast 83 = .ok (.getfield 67, 3) := by decide +kernel
theorem dX3_loseLast_86 : decode cX3_loseLast 86 = .ok (.invokevirtual 71, 3) := by decide +kernel
theorem dX3_loseLast_89 : decode cX3_loseLast 89 = .ok (.ifCond .ne 8, 3) := by decide +kernel
theorem dX3_loseLast_92 : decode cX3_loseLast 92 = .ok (.aload_n 0, 1) := by decide +kernel
theorem dX3_loseLast_93 : decode cX3_loseLast 93 = .ok (.iload_n 3, 1) := by decide +kernel
theorem dX3_loseLast_94 : decode cX3_loseLast 94 = .ok (.invokevirtual 28, 3) := by decide +kernel
theorem dX3_loseLast_97 : decode cX3_loseLast 97 = .ok (.iinc 3 (-1), 3) := by decide +kernel
theorem dX3_loseLast_100 : decode cX3_loseLast 100 = .ok (.goto (-32), 3) := by decide +kernel
theorem dX3_loseLast_103 : decode cX3_loseLast 103 = .ok (.return_, 1) := by decide +kernel
def X3_loseLast_b97 (k68 : Nat → Int32 → M Unit)  (a0 : Nat) (i3 : Int32) : M Unit := k68 a0 (i3 + (-1))
def X3_loseLast_b68b  (k68 : Nat → Int32 → M Unit) (a0 : Nat) (i3 : Int32) : M Unit := it (i3 < 0) (pu ()) (bd (gR 6 0 a0) (fun y1 => bd (ck 2 y1) (fun _ => bd (Jx4a65c_get_915e3 y1 i3) (fun y2 => bd (ck 7 y2) (fun _ => bd (gR 7 0 y2) (fun y3 => bd (ck 4 y3) (fun _ => bd (X1_size y3) (fun x4 => it (¬ x4 = 0) (X3_loseLast_b97 k68  a0 i3) (bd (ck 6 a0) (fun _ => bd (X3_discardAt a0 i3) (fun _ => X3_loseLast_b97 k68  a0 i3)))))))))))
def X3_loseLast_b68  : Nat → Nat → Int32 → M Unit
  | 0 => fun _ _ => fl
  | n + 1 => fun a0 i3 => X3_loseLast_b68b  (X3_loseLast_b68  n) a0 i3
def X3_loseLast_b58   (a0 : Nat) : M Unit := bd (gR 6 0 a0) (fun y1 => bd (ck 2 y1) (fun _ => bd (Jx4a65c_size_8abf5 y1) (fun x2 => bd (pu (x2 - 1)) (fun x3 => X3_loseLast_b68  FU a0 x3))))
def X3_loseLast_b52 (k9 : Nat → Int32 → Int32 → M Unit)  (a0 : Nat) (i2 : Int32) (i3 : Int32) : M Unit := k9 a0 i2 (i3 + (-1))
def X3_loseLast_b9b  (k9 : Nat → Int32 → Int32 → M Unit) (a0 : Nat) (i2 : Int32) (i3 : Int32) : M Unit := it (i3 < 0) (X3_loseLast_b58   a0) (it (i2 ≤ 0) (X3_loseLast_b58   a0) (bd (ck 6 a0) (fun _ => bd (X3_arrivalAt a0 i3) (fun z1 => co z1 (X3_loseLast_b52 k9  a0 i2 i3) (fun y2 => bd (gI 3 1 y2) (fun x3 => bd (pu (imn i2 x3)) (fun x4 => bd (ck 3 y2) (fun _ => bd (X0_lose y2 x4) (fun _ => bd (pu (i2 - x4)) (fun x5 => X3_loseLast_b52 k9  a0 x5 i3))))))))))
def X3_loseLast_b9  : Nat → Nat → Int32 → Int32 → M Unit
  | 0 => fun _ _ _ => fl
  | n + 1 => fun a0 i2 i3 => X3_loseLast_b9b  (X3_loseLast_b9  n) a0 i2 i3
def X3_loseLast (a0 : Nat) (i1 : Int32) : M Unit := bd (gI 6 3 a0) (fun x1 => bd (pu (x1 - 1)) (fun x2 => X3_loseLast_b9  FU a0 i1 x2))
section
variable {G : Gx} {p : Program} {l : Launch} {e : Env} {R : Room} {s : State} {m : MethodId} {args : Array Value} {below : List Frame} {meth : Method} {c : Code} {h0 : Hp} {r : Unit} {h' : Hp}
set_option maxRecDepth 20000 in
theorem X3_loseLast_b97_s (C : Cx G p R s m args meth c cX3_loseLast 6 yX3_loseLast.cls h0 h') (hF : R.frames = 8) (hO : R.locals = 252) (hr : meth.sig.returnType = none) (hm : meth.name = yX3_loseLast.name) {k68 : Nat → Int32 → M Unit} (hk68 : ∀ (a0 : Nat) (i3 : Int32), Sm G (QM G rvU below args s h0 r h') p l e R s m args below meth c 6 h0 r h' 68 [(0, .ref a0), (3, .int i3)] [] (k68 a0 i3))  (a0 : Nat) (i3 : Int32) : Sm G (QM G rvU below args s h0 r h') p l e R s m args below meth c 6 h0 r h' 97 [(0, .ref a0), (3, .int i3)] [] (X3_loseLast_b97 k68  a0 i3) := by
  refine s_iincK (lv' := [(3, .int (i3 + (-1))), (0, .ref a0)]) (w := (-1)) C 1 dX3_loseLast_97 rfl (by decide) (by decide) rfl ?_
  refine s_goto (tgt := 68) C dX3_loseLast_100 (by decide) ?_
  refine s_sub [1, 0] rfl ?_
  exact hk68 a0 (i3 + (-1))
set_option maxRecDepth 20000 in
theorem X3_loseLast_b68b_s (C : Cx G p R s m args meth c cX3_loseLast 6 yX3_loseLast.cls h0 h') (hF : R.frames = 8) (hO : R.locals = 252) (hr : meth.sig.returnType = none) (hm : meth.name = yX3_loseLast.name)  {k68 : Nat → Int32 → M Unit} (hk68 : ∀ (a0 : Nat) (i3 : Int32), Sm G (QM G rvU below args s h0 r h') p l e R s m args below meth c 6 h0 r h' 68 [(0, .ref a0), (3, .int i3)] [] (k68 a0 i3)) (a0 : Nat) (i3 : Int32) : Sm G (QM G rvU below args s h0 r h') p l e R s m args below meth c 6 h0 r h' 68 [(0, .ref a0), (3, .int i3)] [] (X3_loseLast_b68b  k68 a0 i3) := by
  refine s_iload_n C 1 dX3_loseLast_68 rfl rfl ?_
  refine s_if_lt (tgt := 103) C dX3_loseLast_69 (by decide) ?_ ?_
  · exact s_vret C hr rfl dX3_loseLast_103
  refine s_aload_n C 0 dX3_loseLast_72 rfl rfl ?_
  refine s_gR C ci6 0 (by decide) (Or.inl wd_1_87) dX3_loseLast_73 (fun y1 => ?_)
  refine s_iload_n C 1 dX3_loseLast_76 rfl rfl ?_
  refine s_invV_r C ci2 cy_Jx4a65c_get_915e3 (Or.inl wd_2_138) rfl wd_2_139 wd_2_140 (con_Jx4a65c_get_915e3 l G y1 i3) rfl rfl (Nat.le_of_ble_eq_true rfl) (by rw [hF]; decide) (by rw [hO]; exact Nat.le_of_ble_eq_true rfl) dX3_loseLast_77 (fun y2 => ?_)
  refine s_ck C ci7 wd_1_237 dX3_loseLast_80 ?_
  refine s_gR C ci7 0 (by decide) (Or.inr (Or.inr ⟨_, wd_3_214⟩)) dX3_loseLast_83 (fun y3 => ?_)
  refine s_invV_i C ci4 cy_X1_size (Or.inl wd_2_179) rfl wd_2_147 wd_2_148 (con_X1_size l G y3) rfl rfl (Nat.le_of_ble_eq_true rfl) (by rw [hF]; decide) (by rw [hO]; exact Nat.le_of_ble_eq_true rfl) dX3_loseLast_86 (fun x4 => ?_)
  refine s_if_ne (tgt := 97) C dX3_loseLast_89 (by decide) ?_ ?_
  · exact X3_loseLast_b97_s C hF hO hr hm hk68  a0 i3
  refine s_aload_n C 0 dX3_loseLast_92 rfl rfl ?_
  refine s_iload_n C 1 dX3_loseLast_93 rfl rfl ?_
  refine s_invV_u C ci6 cy_X3_discardAt (Or.inl wd_1_216) rfl wd_1_218 wp_1 (con_X3_discardAt l G a0 i3) rfl rfl (Nat.le_of_ble_eq_true rfl) (by rw [hF]; decide) (by rw [hO]; exact Nat.le_of_ble_eq_true rfl) dX3_loseLast_94 ?_
  exact X3_loseLast_b97_s C hF hO hr hm hk68  a0 i3
set_option maxRecDepth 20000 in
theorem X3_loseLast_b68_s (C : Cx G p R s m args meth c cX3_loseLast 6 yX3_loseLast.cls h0 h') (hF : R.frames = 8) (hO : R.locals = 252) (hr : meth.sig.returnType = none) (hm : meth.name = yX3_loseLast.name)  (n : Nat) : ∀ (a0 : Nat) (i3 : Int32), Sm G (QM G rvU below args s h0 r h') p l e R s m args below meth c 6 h0 r h' 68 [(0, .ref a0), (3, .int i3)] [] (X3_loseLast_b68  n a0 i3) := by
  induction n with
  | zero => intro a0 i3; exact s_fl
  | succ n ih => intro a0 i3; exact X3_loseLast_b68b_s C hF hO hr hm  ih a0 i3
set_option maxRecDepth 20000 in
theorem X3_loseLast_b58_s (C : Cx G p R s m args meth c cX3_loseLast 6 yX3_loseLast.cls h0 h') (hF : R.frames = 8) (hO : R.locals = 252) (hr : meth.sig.returnType = none) (hm : meth.name = yX3_loseLast.name)   (a0 : Nat) : Sm G (QM G rvU below args s h0 r h') p l e R s m args below meth c 6 h0 r h' 58 [(0, .ref a0)] [] (X3_loseLast_b58   a0) := by
  refine s_aload_n C 0 dX3_loseLast_58 rfl rfl ?_
  refine s_gR C ci6 0 (by decide) (Or.inl wd_1_87) dX3_loseLast_59 (fun y1 => ?_)
  refine s_invV_i C ci2 cy_Jx4a65c_size_8abf5 (Or.inl wd_1_212) rfl wd_1_213 wd_1_214 (con_Jx4a65c_size_8abf5 l G y1) rfl rfl (Nat.le_of_ble_eq_true rfl) (by rw [hF]; decide) (by rw [hO]; exact Nat.le_of_ble_eq_true rfl) dX3_loseLast_62 (fun x2 => ?_)
  refine s_iconst (v := 1) C dX3_loseLast_65 (by decide) ?_
  refine s_isub C dX3_loseLast_66 ?_
  refine s_let (fun x3 => ?_)
  refine s_istore_n (lv' := [(3, .int x3), (0, .ref a0)]) C dX3_loseLast_67 rfl (by decide) rfl ?_
  refine s_sub [1, 0] rfl ?_
  exact X3_loseLast_b68_s C hF hO hr hm  FU a0 x3
set_option maxRecDepth 20000 in
theorem X3_loseLast_b52_s (C : Cx G p R s m args meth c cX3_loseLast 6 yX3_loseLast.cls h0 h') (hF : R.frames = 8) (hO : R.locals = 252) (hr : meth.sig.returnType = none) (hm : meth.name = yX3_loseLast.name) {k9 : Nat → Int32 → Int32 → M Unit} (hk9 : ∀ (a0 : Nat) (i2 : Int32) (i3 : Int32), Sm G (QM G rvU below args s h0 r h') p l e R s m args below meth c 6 h0 r h' 9 [(0, .ref a0), (2, .int i2), (3, .int i3)] [] (k9 a0 i2 i3))  (a0 : Nat) (i2 : Int32) (i3 : Int32) : Sm G (QM G rvU below args s h0 r h') p l e R s m args below meth c 6 h0 r h' 52 [(0, .ref a0), (2, .int i2), (3, .int i3)] [] (X3_loseLast_b52 k9  a0 i2 i3) := by
  refine s_iincK (lv' := [(3, .int (i3 + (-1))), (0, .ref a0), (2, .int i2)]) (w := (-1)) C 2 dX3_loseLast_52 rfl (by decide) (by decide) rfl ?_
  refine s_goto (tgt := 9) C dX3_loseLast_55 (by decide) ?_
  refine s_sub [1, 2, 0] rfl ?_
  exact hk9 a0 i2 (i3 + (-1))
set_option maxRecDepth 20000 in
theorem X3_loseLast_b9b_s (C : Cx G p R s m args meth c cX3_loseLast 6 yX3_loseLast.cls h0 h') (hF : R.frames = 8) (hO : R.locals = 252) (hr : meth.sig.returnType = none) (hm : meth.name = yX3_loseLast.name)  {k9 : Nat → Int32 → Int32 → M Unit} (hk9 : ∀ (a0 : Nat) (i2 : Int32) (i3 : Int32), Sm G (QM G rvU below args s h0 r h') p l e R s m args below meth c 6 h0 r h' 9 [(0, .ref a0), (2, .int i2), (3, .int i3)] [] (k9 a0 i2 i3)) (a0 : Nat) (i2 : Int32) (i3 : Int32) : Sm G (QM G rvU below args s h0 r h') p l e R s m args below meth c 6 h0 r h' 9 [(0, .ref a0), (2, .int i2), (3, .int i3)] [] (X3_loseLast_b9b  k9 a0 i2 i3) := by
  refine s_iload_n C 2 dX3_loseLast_9 rfl rfl ?_
  refine s_if_lt (tgt := 58) C dX3_loseLast_10 (by decide) ?_ ?_
  · refine s_sub [0] rfl ?_
    exact X3_loseLast_b58_s C hF hO hr hm   a0
  refine s_iload_n C 1 dX3_loseLast_13 rfl rfl ?_
  refine s_if_le (tgt := 58) C dX3_loseLast_14 (by decide) ?_ ?_
  · refine s_sub [0] rfl ?_
    exact X3_loseLast_b58_s C hF hO hr hm   a0
  refine s_aload_n C 0 dX3_loseLast_17 rfl rfl ?_
  refine s_iload_n C 2 dX3_loseLast_18 rfl rfl ?_
  refine s_invV_o C ci6 cy_X3_arrivalAt (Or.inl wd_5_13) rfl wd_5_15 wp_18 (con_X3_arrivalAt l G a0 i3) rfl rfl (Nat.le_of_ble_eq_true rfl) (by rw [hF]; decide) (by rw [hO]; exact Nat.le_of_ble_eq_true rfl) dX3_loseLast_19 (fun z1 => ?_)
  refine s_ostore (lv' := [(4, va_rf z1), (0, .ref a0), (2, .int i2), (3, .int i3)]) C dX3_loseLast_22 (by decide) rfl ?_
  refine s_oload C 0 dX3_loseLast_24 rfl ?_
  refine s_ifnull (tgt := 52) C dX3_loseLast_26 (by decide) (fun hq => ?_) (fun y2 hq => ?_)
  · subst hq
    refine s_sub [1, 2, 3] rfl ?_
    exact X3_loseLast_b52_s C hF hO hr hm hk9  a0 i2 i3
  subst hq
  refine s_iload_n C 2 dX3_loseLast_29 rfl rfl ?_
  refine s_aload C 0 dX3_loseLast_30 rfl ?_
  refine s_gI C ci3 1 (by decide) (Or.inr (Or.inr ⟨_, wd_5_25⟩)) dX3_loseLast_32 (fun x3 => ?_)
  refine s_mmin C wd_5_145 wd_2_55 wd_1_14 wd_2_56 (by rw [hF]; decide) (by rw [hO]; exact Nat.le_of_ble_eq_true rfl) dX3_loseLast_35 ?_
  refine s_let (fun x4 => ?_)
  refine s_istore (lv' := [(5, .int x4), (4, .ref y2), (0, .ref a0), (2, .int i2), (3, .int i3)]) C dX3_loseLast_38 (by decide) rfl ?_
  refine s_aload C 1 dX3_loseLast_40 rfl ?_
  refine s_iload C 0 dX3_loseLast_42 rfl ?_
  refine s_invV_u C ci3 cy_X0_lose (Or.inl wd_5_146) rfl wd_5_147 wd_5_148 (con_X0_lose l G y2 x4) rfl rfl (Nat.le_of_ble_eq_true rfl) (by rw [hF]; decide) (by rw [hO]; exact Nat.le_of_ble_eq_true rfl) dX3_loseLast_44 ?_
  refine s_iload_n C 3 dX3_loseLast_47 rfl rfl ?_
  refine s_iload C 0 dX3_loseLast_48 rfl ?_
  refine s_isub C dX3_loseLast_50 ?_
  refine s_let (fun x5 => ?_)
  refine s_istore_n (lv' := [(2, .int x5), (5, .int x4), (4, .ref y2), (0, .ref a0), (3, .int i3)]) C dX3_loseLast_51 rfl (by decide) rfl ?_
  refine s_sub [3, 0, 4] rfl ?_
  exact X3_loseLast_b52_s C hF hO hr hm hk9  a0 x5 i3
set_option maxRecDepth 20000 in
theorem X3_loseLast_b9_s (C : Cx G p R s m args meth c cX3_loseLast 6 yX3_loseLast.cls h0 h') (hF : R.frames = 8) (hO : R.locals = 252) (hr : meth.sig.returnType = none) (hm : meth.name = yX3_loseLast.name)  (n : Nat) : ∀ (a0 : Nat) (i2 : Int32) (i3 : Int32), Sm G (QM G rvU below args s h0 r h') p l e R s m args below meth c 6 h0 r h' 9 [(0, .ref a0), (2, .int i2), (3, .int i3)] [] (X3_loseLast_b9  n a0 i2 i3) := by
  induction n with
  | zero => intro a0 i2 i3; exact s_fl
  | succ n ih => intro a0 i2 i3; exact X3_loseLast_b9b_s C hF hO hr hm  ih a0 i2 i3
end
set_option maxRecDepth 20000 in
theorem con_X3_loseLast (l : Launch) (G : Gx) (a0 : Nat) (i1 : Int32) : Con G rvU l yX3_loseLast cX3_loseLast 6 none 8 252 [.ref a0, .int i1] (X3_loseLast a0 i1) := by
  refine con_of (lv := [(0, .ref a0), (1, .int i1)]) (by decide) (Nat.le_of_ble_eq_true rfl) rfl (fun p e R s m args below meth c h0 r h' C hF hO hr hm => ?_)
  refine s_iload_n C 1 dX3_loseLast_0 rfl rfl ?_
  refine s_istore_n (lv' := [(2, .int i1), (0, .ref a0), (1, .int i1)]) C dX3_loseLast_1 rfl (by decide) rfl ?_
  refine s_aload_n C 1 dX3_loseLast_2 rfl rfl ?_
  refine s_gI C ci6 3 (by decide) (Or.inl wd_1_90) dX3_loseLast_3 (fun x1 => ?_)
  refine s_iconst (v := 1) C dX3_loseLast_6 (by decide) ?_
  refine s_isub C dX3_loseLast_7 ?_
  refine s_let (fun x2 => ?_)
  refine s_istore_n (lv' := [(3, .int x2), (2, .int i1), (0, .ref a0), (1, .int i1)]) C dX3_loseLast_8 rfl (by decide) rfl ?_
  refine s_sub [2, 1, 0] rfl ?_
  exact X3_loseLast_b9_s C hF hO hr hm  FU a0 i1 x2
