theorem dX8_forget_0 : decode cX8_forget 0 = .ok (.aload_n 0, 1) := by decide +kernel
theorem dX8_forget_1 : decode cX8_forget 1 = .ok (.getfield 35, 3) := by decide +kernel
theorem dX8_forget_4 : decode cX8_forget 4 = .ok (.invokevirtual 307, 3) := by decide +kernel
theorem dX8_forget_7 : decode cX8_forget 7 = .ok (.aload_n 0, 1) := by decide +kernel
theorem dX8_forget_8 : decode cX8_forget 8 = .ok (.getfield 44, 3) := by decide +kernel
theorem dX8_forget_11 : decode cX8_forget 11 = .ok (.invokevirtual 308, 3) := by decide +kernel
theorem dX8_forget_14 : decode cX8_forget 14 = .ok (.aload_n 0, 1) := by decide +kernel
theorem dX8_forget_15 : decode cX8_forget 15 = .ok (.iconst (-1), 1) := by decide +kernel
theorem dX8_forget_16 : decode cX8_forget 16 = .ok (.putfield 118, 3) := by decide +kernel
theorem dX8_forget_19 : decode cX8_forget 19 = .ok (.return_, 1) := by decide +kernel
def X8_forget (a0 : Nat) : M Unit := bd (gR 11 5 a0) (fun y1 => bd (ck 5 y1) (fun _ => bd (X2_clear y1) (fun _ => bd (gR 11 6 a0) (fun y2 => bd (ck 8 y2) (fun _ => bd (X5_stop y2) (fun _ => bd (pV 11 9 a0 (.int (-1))) (fun _ => pu ())))))))
section
variable {G : Gx} {p : Program} {l : Launch} {e : Env} {R : Room} {s : State} {m : MethodId} {args : Array Value} {below : List Frame} {meth : Method} {c : Code} {h0 : Hp} {r : Unit} {h' : Hp}
end
set_option maxRecDepth 20000 in
theorem con_X8_forget (l : Launch) (G : Gx) (a0 : Nat) : Con G rvU l yX8_forget cX8_forget 1 none 9 273 [.ref a0] (X8_forget a0) := by
  refine con_of (lv := [(0, .ref a0)]) (by decide) (Nat.le_of_ble_eq_true rfl) rfl (fun p e R s m args below meth c h0 r h' C hF hO hr hm => ?_)
  refine s_aload_n C 0 dX8_forget_0 rfl rfl ?_
  refine s_gR C ci11 5 (by decide) (Or.inl wd_2_93) dX8_forget_1 (fun y1 => ?_)
  refine s_invV_u C ci5 cy_X2_clear (Or.inl wd_2_72) rfl wd_2_73 wd_2_74 (con_X2_clear l G y1) rfl rfl (Nat.le_of_ble_eq_true rfl) (by rw [hF]; decide) (by rw [hO]; exact Nat.le_of_ble_eq_true rfl) dX8_forget_4 ?_
  refine s_aload_n C 0 dX8_forget_7 rfl rfl ?_
  refine s_gR C ci11 6 (by decide) (Or.inl wd_2_94) dX8_forget_8 (fun y2 => ?_)
  refine s_invV_u C ci8 cy_X5_stop (Or.inl wd_2_84) rfl wd_2_85 wd_2_86 (con_X5_stop l G y2) rfl rfl (Nat.le_of_ble_eq_true rfl) (by rw [hF]; decide) (by rw [hO]; exact Nat.le_of_ble_eq_true rfl) dX8_forget_11 ?_
  refine s_aload_n C 0 dX8_forget_14 rfl rfl ?_
  refine s_iconst (v := (-1)) C dX8_forget_15 (by decide) ?_
  refine s_pV C ci11 9 (by decide) rfl (Or.inl wd_2_97) dX8_forget_16 rfl rfl ?_
  exact s_vret C hr rfl dX8_forget_19

theorem dX8_begin_0 : decode cX8_begin 0 = .ok (.aload_n 0, 1) := by decide +kernel
theorem dX8_begin_1 : decode cX8_begin 1 = .ok (.getfield 28, 3) := by decide +kernel
theorem dX8_begin_4 : decode cX8_begin 4 = .ok (.iload_n 1, 1) := by decide +kernel
theorem dX8_begin_5 : decode cX8_begin 5 = .ok (.iload_n 2, 1) := by decide +kernel
theorem dX8_begin_6 : decode cX8_begin 6 = .ok (.invokevirtual 305, 3) := by decide +kernel
theorem dX8_begin_9 : decode cX8_begin 9 = .ok (.aload_n 0, 1) := by decide +kernel
theorem dX8_begin_10 : decode cX8_begin 10 = .ok (.getfield 51, 3) := by decide +kernel
theorem dX8_begin_13 : decode cX8_begin 13 = .ok (.invokevirtual 192, 3) := by decide +kernel
theorem dX8_begin_16 : decode cX8_begin 16 = .ok (.aload_n 0, 1) := by decide +kernel
theorem dX8_begin_17 : decode cX8_begin 17 = .ok (.getfield 19, 3) := by decide +kernel
theorem dX8_begin_20 : decode cX8_begin 20 = .ok (.invokevirtual 136, 3) := by decide +kernel
theorem dX8_begin_23 : decode cX8_begin 23 = .ok (.aload_n 0, 1) := by decide +kernel
theorem dX8_begin_24 : decode cX8_begin 24 = .ok (.invokevirtual 187, 3) := by decide +kernel
theorem dX8_begin_27 : decode cX8_begin 27 = .ok (.aload_n 0, 1) := by decide +kernel
theorem dX8_begin_28 : decode cX8_begin 28 = .ok (.iconst 1, 1) := by decide +kernel
theorem dX8_begin_29 : decode cX8_begin 29 = .ok (.putfield 107, 3) := by decide +kernel
theorem dX8_begin_32 : decode cX8_begin 32 = .ok (.aload_n 0, 1) := by decide +kernel
theorem dX8_begin_33 : decode cX8_begin 33 = .ok (.iconst 1, 1) := by decide +kernel
theorem dX8_begin_34 : decode cX8_begin 34 = .ok (.putfield 86, 3) := by decide +kernel
theorem dX8_begin_37 : decode cX8_begin 37 = .ok (.return_, 1) := by decide +kernel
def X8_begin (a0 : Nat) (i1 : Int32) (i2 : Int32) : M Unit := bd (gR 11 4 a0) (fun y1 => bd (ck 6 y1) (fun _ => bd (X3_clear y1 i1 i2) (fun _ => bd (gR 11 7 a0) (fun y2 => bd (ck 9 y2) (fun _ => bd (X6_clear y2) (fun _ => bd (gR 11 2 a0) (fun y3 => bd (ck 4 y3) (fun _ => bd (X1_clear y3) (fun _ => bd (ck 11 a0) (fun _ => bd (X8_forget a0) (fun _ => bd (pV 11 10 a0 (.int 1)) (fun _ => bd (pZ 11 8 a0 1) (fun _ => pu ())))))))))))))
section
variable {G : Gx} {p : Program} {l : Launch} {e : Env} {R : Room} {s : State} {m : MethodId} {args : Array Value} {below : List Frame} {meth : Method} {c : Code} {h0 : Hp} {r : Unit} {h' : Hp}
end
set_option maxRecDepth 20000 in
theorem con_X8_begin (l : Launch) (G : Gx) (a0 : Nat) (i1 : Int32) (i2 : Int32) : Con G rvU l yX8_begin cX8_begin 3 none 10 293 [.ref a0, .int i1, .int i2] (X8_begin a0 i1 i2) := by
  refine con_of (lv := [(0, .ref a0), (1, .int i1), (2, .int i2)]) (by decide) (Nat.le_of_ble_eq_true rfl) rfl (fun p e R s m args below meth c h0 r h' C hF hO hr hm => ?_)
  refine s_aload_n C 0 dX8_begin_0 rfl rfl ?_
  refine s_gR C ci11 4 (by decide) (Or.inl wd_2_92) dX8_begin_1 (fun y1 => ?_)
  refine s_iload_n C 1 dX8_begin_4 rfl rfl ?_
  refine s_iload_n C 2 dX8_begin_5 rfl rfl ?_
  refine s_invV_u C ci6 cy_X3_clear (Or.inl wd_1_208) rfl wd_1_209 wd_1_210 (con_X3_clear l G y1 i1 i2) rfl rfl (Nat.le_of_ble_eq_true rfl) (by rw [hF]; decide) (by rw [hO]; exact Nat.le_of_ble_eq_true rfl) dX8_begin_6 ?_
  refine s_aload_n C 0 dX8_begin_9 rfl rfl ?_
  refine s_gR C ci11 7 (by decide) (Or.inl wd_2_95) dX8_begin_10 (fun y2 => ?_)
  refine s_invV_u C ci9 cy_X6_clear (Or.inl wd_2_60) rfl wd_2_61 wd_2_62 (con_X6_clear l G y2) rfl rfl (Nat.le_of_ble_eq_true rfl) (by rw [hF]; decide) (by rw [hO]; exact Nat.le_of_ble_eq_true rfl) dX8_begin_13 ?_
  refine s_aload_n C 0 dX8_begin_16 rfl rfl ?_
  refine s_gR C ci11 2 (by decide) (Or.inl wd_2_90) dX8_begin_17 (fun y3 => ?_)
  refine s_invV_u C ci4 cy_X1_clear (Or.inl wd_2_64) rfl wd_2_65 wd_2_66 (con_X1_clear l G y3) rfl rfl (Nat.le_of_ble_eq_true rfl) (by rw [hF]; decide) (by rw [hO]; exact Nat.le_of_ble_eq_true rfl) dX8_begin_20 ?_
  refine s_aload_n C 0 dX8_begin_23 rfl rfl ?_
  refine s_invV_u C ci11 cy_X8_forget (Or.inl wd_2_68) rfl wd_2_70 wp_6 (con_X8_forget l G a0) rfl rfl (Nat.le_of_ble_eq_true rfl) (by rw [hF]; decide) (by rw [hO]; exact Nat.le_of_ble_eq_true rfl) dX8_begin_24 ?_
  refine s_aload_n C 0 dX8_begin_27 rfl rfl ?_
  refine s_iconst (v := 1) C dX8_begin_28 (by decide) ?_
  refine s_pV C ci11 10 (by decide) rfl (Or.inl wd_2_98) dX8_begin_29 rfl rfl ?_
  refine s_aload_n C 0 dX8_begin_32 rfl rfl ?_
  refine s_iconst (v := 1) C dX8_begin_33 (by decide) ?_
  refine s_pZ C ci11 8 (by decide) rfl rfl (Or.inl wd_2_96) dX8_begin_34 ?_
  exact s_vret C hr rfl dX8_begin_37

theorem dX8_init_0 : decode cX8_init 0 = .ok (.aload_n 0, 1) := by decide +kernel
theorem dX8_init_1 : decode cX8_init 1 = .ok (.invokespecial 1, 3) := by decide +kernel
theorem dX8_init_4 : decode cX8_init 4 = .ok (.aload_n 0, 1) := by decide +kernel
theorem dX8_init_5 : decode cX8_init 5 = .ok (.new 7, 3) := by decide +kernel
theorem dX8_init_8 : decode cX8_init 8 = .ok (.dup, 1) := by decide +kernel
theorem dX8_init_9 : decode cX8_init 9 = .ok (.invokespecial 9, 3) := by decide +kernel
theorem dX8_init_12 : decode cX8_init 12 = .ok (.putfield 10, 3) := by decide +kernel
theorem dX8_init_15 : decode cX8_init 15 = .ok (.aload_n 0, 1) := by decide +kernel
theorem dX8_init_16 : decode cX8_init 16 = .ok (.new 7, 3) := by decide +kernel
theorem dX8_init_19 : decode cX8_init 19 = .ok (.dup, 1) := by decide +kernel
theorem dX8_init_20 : decode cX8_init 20 = .ok (.invokespecial 9, 3) := by decide +kernel
theorem dX8_init_23 : decode cX8_init 23 = .ok (.putfield 16, 3) := by decide +kernel
theorem dX8_init_26 : decode cX8_init 26 = .ok (.aload_n 0, 1) := by decide +kernel
theorem dX8_init_27 : decode cX8_init 27 = .ok (.new 7, 3) := by decide +kernel
theorem dX8_init_30 : decode cX8_init 30 = .ok (.dup, 1) := by decide +kernel
theorem dX8_init_31 : decode cX8_init 31 = .ok (.invokespecial 9, 3) := by decide +kernel
theorem dX8_init_34 : decode cX8_init 34 = .ok (.putfield 19, 3) := by decide +kernel
theorem dX8_init_37 : decode cX8_init 37 = .ok (.aload_n 0, 1) := by decide +kernel
theorem dX8_init_38 : decode cX8_init 38 = .ok (.new 7, 3) := by decide +kernel
theorem dX8_init_41 : decode cX8_init 41 = .ok (.dup, 1) := by decide +kernel
theorem dX8_init_42 : decode cX8_init 42 = .ok (.invokespecial 9, 3) := by decide +kernel
theorem dX8_init_45 : decode cX8_init 45 = .ok (.putfield 22, 3) := by decide +kernel
theorem dX8_init_48 : decode cX8_init 48 = .ok (.aload_n 0, 1) := by decide +kernel
theorem dX8_init_49 : decode cX8_init 49 = .ok (.new 25, 3) := by decide +kernel
theorem dX8_init_52 : decode cX8_init 52 = .ok (.dup, 1) := by decide +kernel
theorem dX8_init_53 : decode cX8_init 53 = .ok (.invokespecial 27, 3) := by decide +kernel
theorem dX8_init_56 : decode cX8_init 56 = .ok (.putfield 28, 3) := by decide +kernel
theorem dX8_init_59 : decode cX8_init 59 = .ok (.aload_n 0, 1) := by decide +kernel
theorem dX8_init_60 : decode cX8_init 60 = .ok (.new 32, 3) := by decide +kernel
theorem dX8_init_63 : decode cX8_init 63 = .ok (.dup, 1) := by decide +kernel
theorem dX8_init_64 : decode cX8_init 64 = .ok (.invokespecial 34, 3) := by decide +kernel
theorem dX8_init_67 : decode cX8_init 67 = .ok (.putfield 35, 3) := by decide +kernel
theorem dX8_init_70 : decode cX8_init 70 = .ok (.aload_n 0, 1) := by decide +kernel
theorem dX8_init_71 : decode cX8_init 71 = .ok (.new 39, 3) := by decide +kernel
theorem dX8_init_74 : decode cX8_init 74 = .ok (.dup, 1) := by decide +kernel
theorem dX8_init_75 : decode cX8_init 75 = .ok (.aload_n 0, 1) := by decide +kernel
theorem dX8_init_76 : decode cX8_init 76 = .ok (.getfield 28, 3) := by decide +kernel
theorem dX8_init_79 : decode cX8_init 79 = .ok (.aload_n 0, 1) := by decide +kernel
theorem dX8_init_80 : decode cX8_init 80 = .ok (.getfield 35, 3) := by decide +kernel
theorem dX8_init_83 : decode cX8_init 83 = .ok (.invokespecial 41, 3) := by decide +kernel
theorem dX8_init_86 : decode cX8_init 86 = .ok (.putfield 44, 3) := by decide +kernel
theorem dX8_init_89 : decode cX8_init 89 = .ok (.aload_n 0, 1) := by decide +kernel
theorem dX8_init_90 : decode cX8_init 90 = .ok (.new 48, 3) := by decide +kernel
theorem dX8_init_93 : decode cX8_init 93 = .ok (.dup, 1) := by decide +kernel
theorem dX8_init_94 : decode cX8_init 94 = .ok (.aload_n 0, 1) := by decide +kernel
theorem dX8_init_95 : decode cX8_init 95 = .ok (.getfield 28, 3) := by decide +kernel
theorem dX8_init_98 : decode cX8_init 98 = .ok (.aload_n 0, 1) := by decide +kernel
theorem dX8_init_99 : decode cX8_init 99 = .ok (.getfield 35, 3) := by decide +kernel
theorem dX8_init_102 : decode cX8_init 102 = .ok (.invokespecial 50, 3) := by decide +kernel
theorem dX8_init_105 : decode cX8_init 105 = .ok (.putfield 51, 3) := by decide +kernel
theorem dX8_init_108 : decode cX8_init 108 = .ok (.aload_n 0, 1) := by decide +kernel
theorem dX8_init_109 : decode cX8_init 109 = .ok (.sipush 4096, 3) := by decide +kernel
theorem dX8_init_112 : decode cX8_init 112 = .ok (.sipush 512, 3) := by decide +kernel
theorem dX8_init_115 : decode cX8_init 115 = .ok (.invokevirtual 55, 3) := by decide +kernel
theorem dX8_init_118 : decode cX8_init 118 = .ok (.return_, 1) := by decide +kernel
def X8_init (a0 : Nat) : M Unit := bd (nw 4 2) (fun y1 => bd (X1_init y1) (fun _ => bd (pV 11 0 a0 (.ref y1)) (fun _ => bd (nw 4 2) (fun y2 => bd (X1_init y2) (fun _ => bd (pV 11 1 a0 (.ref y2)) (fun _ => bd (nw 4 2) (fun y3 => bd (X1_init y3) (fun _ => bd (pV 11 2 a0 (.ref y3)) (fun _ => bd (nw 4 2) (fun y4 => bd (X1_init y4) (fun _ => bd (pV 11 3 a0 (.ref y4)) (fun _ => bd (nw 6 7) (fun y5 => bd (X3_init y5) (fun _ => bd (pV 11 4 a0 (.ref y5)) (fun _ => bd (nw 5 2) (fun y6 => bd (X2_init y6) (fun _ => bd (pV 11 5 a0 (.ref y6)) (fun _ => bd (nw 8 10) (fun y7 => bd (gR 11 4 a0) (fun y8 => bd (gR 11 5 a0) (fun y9 => bd (X5_init y7 y8 y9) (fun _ => bd (pV 11 6 a0 (.ref y7)) (fun _ => bd (nw 9 7) (fun y10 => bd (gR 11 4 a0) (fun y11 => bd (gR 11 5 a0) (fun y12 => bd (X6_init y10 y11 y12) (fun _ => bd (pV 11 7 a0 (.ref y10)) (fun _ => bd (ck 11 a0) (fun _ => bd (X8_begin a0 4096 512) (fun _ => pu ()))))))))))))))))))))))))))))))
section
variable {G : Gx} {p : Program} {l : Launch} {e : Env} {R : Room} {s : State} {m : MethodId} {args : Array Value} {below : List Frame} {meth : Method} {c : Code} {h0 : Hp} {r : Unit} {h' : Hp}
end
set_option maxRecDepth 20000 in
theorem con_X8_init (l : Launch) (G : Gx) (a0 : Nat) : Con G rvU l yX8_init cX8_init 1 none 11 315 [.ref a0] (X8_init a0) := by
  refine con_of (lv := [(0, .ref a0)]) (by decide) (Nat.le_of_ble_eq_true rfl) rfl (fun p e R s m args below meth c h0 r h' C hF hO hr hm => ?_)
  refine s_aload_n C 0 dX8_init_0 rfl rfl ?_
  refine s_obj C wd_1_38 wd_1_39 wd_1_40 (by rw [hF]; decide) (by rw [hO]; exact Nat.le_of_ble_eq_true rfl) dX8_init_1 ?_
  refine s_aload_n C 0 dX8_init_4 rfl rfl ?_
  refine s_nw C ci4 wd_1_41 wd_1_42 wd_1_2 dX8_init_5 (fun y1 => ?_)
  refine s_dup C dX8_init_8 rfl ?_
  refine s_invI_u C cy_X1_init (Or.inr ⟨_, wd_1_43⟩) rfl wd_1_44 (con_X1_init l G y1) rfl rfl (Nat.le_of_ble_eq_true rfl) (by rw [hF]; decide) (by rw [hO]; exact Nat.le_of_ble_eq_true rfl) dX8_init_9 ?_
  refine s_pF C ci11 0 (by decide) rfl rfl hm wd_2_88 dX8_init_12 rfl rfl ?_
  refine s_aload_n C 0 dX8_init_15 rfl rfl ?_
  refine s_nw C ci4 wd_1_41 wd_1_42 wd_1_2 dX8_init_16 (fun y2 => ?_)
  refine s_dup C dX8_init_19 rfl ?_
  refine s_invI_u C cy_X1_init (Or.inr ⟨_, wd_1_43⟩) rfl wd_1_44 (con_X1_init l G y2) rfl rfl (Nat.le_of_ble_eq_true rfl) (by rw [hF]; decide) (by rw [hO]; exact Nat.le_of_ble_eq_true rfl) dX8_init_20 ?_
  refine s_pF C ci11 1 (by decide) rfl rfl hm wd_2_89 dX8_init_23 rfl rfl ?_
  refine s_aload_n C 0 dX8_init_26 rfl rfl ?_
  refine s_nw C ci4 wd_1_41 wd_1_42 wd_1_2 dX8_init_27 (fun y3 => ?_)
  refine s_dup C dX8_init_30 rfl ?_
  refine s_invI_u C cy_X1_init (Or.inr ⟨_, wd_1_43⟩) rfl wd_1_44 (con_X1_init l G y3) rfl rfl (Nat.le_of_ble_eq_true rfl) (by rw [hF]; decide) (by rw [hO]; exact Nat.le_of_ble_eq_true rfl) dX8_init_31 ?_
  refine s_pF C ci11 2 (by decide) rfl rfl hm wd_2_90 dX8_init_34 rfl rfl ?_
  refine s_aload_n C 0 dX8_init_37 rfl rfl ?_
  refine s_nw C ci4 wd_1_41 wd_1_42 wd_1_2 dX8_init_38 (fun y4 => ?_)
  refine s_dup C dX8_init_41 rfl ?_
  refine s_invI_u C cy_X1_init (Or.inr ⟨_, wd_1_43⟩) rfl wd_1_44 (con_X1_init l G y4) rfl rfl (Nat.le_of_ble_eq_true rfl) (by rw [hF]; decide) (by rw [hO]; exact Nat.le_of_ble_eq_true rfl) dX8_init_42 ?_
  refine s_pF C ci11 3 (by decide) rfl rfl hm wd_2_91 dX8_init_45 rfl rfl ?_
  refine s_aload_n C 0 dX8_init_48 rfl rfl ?_
  refine s_nw C ci6 wd_1_55 wd_1_56 wd_1_3 dX8_init_49 (fun y5 => ?_)
  refine s_dup C dX8_init_52 rfl ?_
  refine s_invI_u C cy_X3_init (Or.inr ⟨_, wd_1_57⟩) rfl wd_1_58 (con_X3_init l G y5) rfl rfl (Nat.le_of_ble_eq_true rfl) (by rw [hF]; decide) (by rw [hO]; exact Nat.le_of_ble_eq_true rfl) dX8_init_53 ?_
  refine s_pF C ci11 4 (by decide) rfl rfl hm wd_2_92 dX8_init_56 rfl rfl ?_
  refine s_aload_n C 0 dX8_init_59 rfl rfl ?_
  refine s_nw C ci5 wd_1_114 wd_1_115 wd_1_7 dX8_init_60 (fun y6 => ?_)
  refine s_dup C dX8_init_63 rfl ?_
  refine s_invI_u C cy_X2_init (Or.inr ⟨_, wd_1_116⟩) rfl wd_1_117 (con_X2_init l G y6) rfl rfl (Nat.le_of_ble_eq_true rfl) (by rw [hF]; decide) (by rw [hO]; exact Nat.le_of_ble_eq_true rfl) dX8_init_64 ?_
  refine s_pF C ci11 5 (by decide) rfl rfl hm wd_2_93 dX8_init_67 rfl rfl ?_
  refine s_aload_n C 0 dX8_init_70 rfl rfl ?_
  refine s_nw C ci8 wd_1_129 wd_1_130 wd_1_8 dX8_init_71 (fun y7 => ?_)
  refine s_dup C dX8_init_74 rfl ?_
  refine s_aload_n C 0 dX8_init_75 rfl rfl ?_
  refine s_gR C ci11 4 (by decide) (Or.inl wd_2_92) dX8_init_76 (fun y8 => ?_)
  refine s_aload_n C 0 dX8_init_79 rfl rfl ?_
  refine s_gR C ci11 5 (by decide) (Or.inl wd_2_93) dX8_init_80 (fun y9 => ?_)
  refine s_invI_u C cy_X5_init (Or.inl wd_1_131) rfl wd_1_132 (con_X5_init l G y7 y8 y9) rfl rfl (Nat.le_of_ble_eq_true rfl) (by rw [hF]; decide) (by rw [hO]; exact Nat.le_of_ble_eq_true rfl) dX8_init_83 ?_
  refine s_pF C ci11 6 (by decide) rfl rfl hm wd_2_94 dX8_init_86 rfl rfl ?_
  refine s_aload_n C 0 dX8_init_89 rfl rfl ?_
  refine s_nw C ci9 wd_1_171 wd_1_172 wd_1_9 dX8_init_90 (fun y10 => ?_)
  refine s_dup C dX8_init_93 rfl ?_
  refine s_aload_n C 0 dX8_init_94 rfl rfl ?_
  refine s_gR C ci11 4 (by decide) (Or.inl wd_2_92) dX8_init_95 (fun y11 => ?_)
  refine s_aload_n C 0 dX8_init_98 rfl rfl ?_
  refine s_gR C ci11 5 (by decide) (Or.inl wd_2_93) dX8_init_99 (fun y12 => ?_)
  refine s_invI_u C cy_X6_init (Or.inl wd_1_173) rfl wd_1_174 (con_X6_init l G y10 y11 y12) rfl rfl (Nat.le_of_ble_eq_true rfl) (by rw [hF]; decide) (by rw [hO]; exact Nat.le_of_ble_eq_true rfl) dX8_init_102 ?_
  refine s_pF C ci11 7 (by decide) rfl rfl hm wd_2_95 dX8_init_105 rfl rfl ?_
  refine s_aload_n C 0 dX8_init_108 rfl rfl ?_
  refine s_sipush (v := 4096) C dX8_init_109 (by decide) ?_
  refine s_sipush (v := 512) C dX8_init_112 (by decide) ?_
  refine s_invV_u C ci11 cy_X8_begin (Or.inl wd_1_204) rfl wd_1_206 wp_0 (con_X8_begin l G a0 4096 512) rfl rfl (Nat.le_of_ble_eq_true rfl) (by rw [hF]; decide) (by rw [hO]; exact Nat.le_of_ble_eq_true rfl) dX8_init_115 ?_
  exact s_vret C hr rfl dX8_init_118

theorem dX8_answer_0 : decode cX8_answer 0 = .ok (.aload_n 0, 1) := by decide +kernel
theorem dX8_answer_1 : decode cX8_answer 1 = .ok (.getfield 19, 3) := by decide +kernel
theorem dX8_answer_4 : decode cX8_answer 4 = .ok (.iload_n 1, 1) := by decide +kernel
theorem dX8_answer_5 : decode cX8_answer 5 = .ok (.invokevirtual 172, 3) := by decide +kernel
theorem dX8_answer_8 : decode cX8_answer 8 = .ok (.ireturn, 1) := by decide +kernel
def X8_answer (a0 : Nat) (i1 : Int32) : M Int32 := bd (gR 11 2 a0) (fun y1 => bd (ck 4 y1) (fun _ => bd (X1_at y1 i1) (fun x2 => pu x2)))
section
variable {G : Gx} {p : Program} {l : Launch} {e : Env} {R : Room} {s : State} {m : MethodId} {args : Array Value} {below : List Frame} {meth : Method} {c : Code} {h0 : Hp} {r : Int32} {h' : Hp}
end
set_option maxRecDepth 20000 in
theorem con_X8_answer (l : Launch) (G : Gx) (a0 : Nat) (i1 : Int32) : Con G rvI l yX8_answer cX8_answer 2 (some .int) 1 21 [.ref a0, .int i1] (X8_answer a0 i1) := by
  refine con_of (lv := [(0, .ref a0), (1, .int i1)]) (by decide) (Nat.le_of_ble_eq_true rfl) rfl (fun p e R s m args below meth c h0 r h' C hF hO hr hm => ?_)
  refine s_aload_n C 0 dX8_answer_0 rfl rfl ?_
  refine s_gR C ci11 2 (by decide) (Or.inl wd_2_90) dX8_answer_1 (fun y1 => ?_)
  refine s_iload_n C 1 dX8_answer_4 rfl rfl ?_
  refine s_invV_i C ci4 cy_X1_at (Or.inl wd_2_126) rfl wd_2_127 wd_2_128 (con_X1_at l G y1 i1) rfl rfl (Nat.le_of_ble_eq_true rfl) (by rw [hF]; decide) (by rw [hO]; exact Nat.le_of_ble_eq_true rfl) dX8_answer_5 (fun x2 => ?_)
  exact s_iret C hr rfl dX8_answer_8

theorem dX8_file_0 : decode cX8_file 0 = .ok (.aload_n 0, 1) := by decide +kernel
theorem dX8_file_1 : decode cX8_file 1 = .ok (.getfield 28, 3) := by decide +kernel
theorem dX8_file_4 : decode cX8_file 4 = .ok (.iload_n 1, 1) := by decide +kernel
theorem dX8_file_5 : decode cX8_file 5 = .ok (.invokevirtual 251, 3) := by decide +kernel
theorem dX8_file_8 : decode cX8_file 8 = .ok (.astore_n 3, 1) := by decide +kernel
theorem dX8_file_9 : decode cX8_file 9 = .ok (.aload_n 3, 1) := by decide +kernel
theorem dX8_file_10 : decode cX8_file 10 = .ok (.ifnonnull 5, 3) := by decide +kernel
theorem dX8_file_13 : decode cX8_file 13 = .ok (.iconst (-1), 1) := by decide +kernel
theorem dX8_file_14 : decode cX8_file 14 = .ok (.ireturn, 1) := by decide +kernel
theorem dX8_file_15 : decode cX8_file 15 = .ok (.iload_n 2, 1) := by decide +kernel
theorem dX8_file_16 : decode cX8_file 16 = .ok (.tableswitch 55 0 3 #[32, 37, 42, 50], 32) := by decide +kernel
theorem dX8_file_48 : decode cX8_file 48 = .ok (.aload_n 3, 1) := by decide +kernel
theorem dX8_file_49 : decode cX8_file 49 = .ok (.getfield 262, 3) := by decide +kernel
theorem dX8_file_52 : decode cX8_file 52 = .ok (.ireturn, 1) := by decide +kernel
theorem dX8_file_53 : decode cX8_file 53 = .ok (.aload_n 3, 1) := by decide +kernel
theorem dX8_file_54 : decode cX8_file 54 = .ok (.getfield 263, 3) := by decide +kernel
theorem dX8_file_57 : decode cX8_file 57 = .ok (.ireturn, 1) := by decide +kernel
theorem dX8_file_58 : decode cX8_file 58 = .ok (.aload_n 3, 1) := by decide +kernel
theorem dX8_file_59 : decode cX8_file 59 = .ok (.getfield 150, 3) := by decide +kernel
theorem dX8_file_62 : decode cX8_file 62 = .ok (.invokevirtual 70, 3) := by decide +kernel
theorem dX8_file_65 : decode cX8_file 65 = .ok (.ireturn, 1) := by decide +kernel
theorem dX8_file_66 : decode cX8_file 66 = .ok (.aload_n 3, 1) := by decide +kernel
theorem dX8_file_67 : decode cX8_file 67 = .ok (.getfield 266, 3) := by decide +kernel
theorem dX8_file_70 : decode cX8_file 70 = .ok (.ireturn, 1) := by decide +kernel
theorem dX8_file_71 : decode cX8_file 71 = .ok (.iconst (-1), 1) := by decide +kernel
theorem dX8_file_72 : decode cX8_file 72 = .ok (.ireturn, 1) := by decide +kernel
def X8_file (a0 : Nat) (i1 : Int32) (i2 : Int32) : M Int32 := bd (gR 11 4 a0) (fun y1 => bd (ck 6 y1) (fun _ => bd (X3_at y1 i1) (fun z2 => co z2 (pu (-1)) (fun y3 => it (i2 = 0) (bd (gI 7 1 y3) (fun x4 => pu x4)) (it (i2 = 1) (bd (gI 7 2 y3) (fun x5 => pu x5)) (it (i2 = 2) (bd (gR 7 0 y3) (fun y6 => bd (ck 4 y6) (fun _ => bd (X1_size y6) (fun x7 => pu x7)))) (it (i2 = 3) (bd (gI 7 3 y3) (fun x8 => pu x8)) (pu (-1)))))))))
section
variable {G : Gx} {p : Program} {l : Launch} {e : Env} {R : Room} {s : State} {m : MethodId} {args : Array Value} {below : List Frame} {meth : Method} {c : Code} {h0 : Hp} {r : Int32} {h' : Hp}
end
set_option maxRecDepth 20000 in
theorem con_X8_file (l : Launch) (G : Gx) (a0 : Nat) (i1 : Int32) (i2 : Int32) : Con G rvI l yX8_file cX8_file 4 (some .int) 4 85 [.ref a0, .int i1, .int i2] (X8_file a0 i1 i2) := by
  refine con_of (lv := [(0, .ref a0), (1, .int i1), (2, .int i2)]) (by decide) (Nat.le_of_ble_eq_true rfl) rfl (fun p e R s m args below meth c h0 r h' C hF hO hr hm => ?_)
  refine s_aload_n C 0 dX8_file_0 rfl rfl ?_
  refine s_gR C ci11 4 (by decide) (Or.inl wd_2_92) dX8_file_1 (fun y1 => ?_)
  refine s_iload_n C 1 dX8_file_4 rfl rfl ?_
  refine s_invV_o C ci6 cy_X3_at (Or.inl wd_2_134) rfl wd_2_135 wd_2_136 (con_X3_at l G y1 i1) rfl rfl (Nat.le_of_ble_eq_true rfl) (by rw [hF]; decide) (by rw [hO]; exact Nat.le_of_ble_eq_true rfl) dX8_file_5 (fun z2 => ?_)
  refine s_ostore_n (lv' := [(3, va_rf z2), (0, .ref a0), (1, .int i1), (2, .int i2)]) C dX8_file_8 rfl (by decide) rfl ?_
  refine s_oload_n C 0 dX8_file_9 rfl rfl ?_
  refine s_ifnonnull (tgt := 15) C dX8_file_10 (by decide) (fun hq => ?_) (fun y3 hq => ?_)
  · subst hq
    refine s_iconst (v := (-1)) C dX8_file_13 (by decide) ?_
    exact s_iret C hr rfl dX8_file_14
  subst hq
  refine s_iload_n C 3 dX8_file_15 rfl rfl ?_
  refine s_tableIn (v := 0) (q := 0) (off := 32) (tgt := 48) C dX8_file_16 (by decide) (by decide) (by decide) (by decide) (by decide) ?_ (fun hx0 => ?_)
  · refine s_aload_n C 0 dX8_file_48 rfl rfl ?_
    refine s_gI C ci7 1 (by decide) (Or.inr (Or.inr ⟨_, wd_3_221⟩)) dX8_file_49 (fun x4 => ?_)
    exact s_iret C hr rfl dX8_file_52
  refine s_tableIn (v := 1) (q := 1) (off := 37) (tgt := 53) C dX8_file_16 (by decide) (by decide) (by decide) (by decide) (by decide) ?_ (fun hx1 => ?_)
  · refine s_aload_n C 0 dX8_file_53 rfl rfl ?_
    refine s_gI C ci7 2 (by decide) (Or.inr (Or.inr ⟨_, wd_3_226⟩)) dX8_file_54 (fun x5 => ?_)
    exact s_iret C hr rfl dX8_file_57
  refine s_tableIn (v := 2) (q := 2) (off := 42) (tgt := 58) C dX8_file_16 (by decide) (by decide) (by decide) (by decide) (by decide) ?_ (fun hx2 => ?_)
  · refine s_aload_n C 0 dX8_file_58 rfl rfl ?_
    refine s_gR C ci7 0 (by decide) (Or.inr (Or.inr ⟨_, wd_3_215⟩)) dX8_file_59 (fun y6 => ?_)
    refine s_invV_i C ci4 cy_X1_size (Or.inl wd_2_146) rfl wd_2_147 wd_2_148 (con_X1_size l G y6) rfl rfl (Nat.le_of_ble_eq_true rfl) (by rw [hF]; decide) (by rw [hO]; exact Nat.le_of_ble_eq_true rfl) dX8_file_62 (fun x7 => ?_)
    exact s_iret C hr rfl dX8_file_65
  refine s_tableIn (v := 3) (q := 3) (off := 50) (tgt := 66) C dX8_file_16 (by decide) (by decide) (by decide) (by decide) (by decide) ?_ (fun hx3 => ?_)
  · refine s_aload_n C 0 dX8_file_66 rfl rfl ?_
    refine s_gI C ci7 3 (by decide) (Or.inr (Or.inr ⟨_, wd_3_228⟩)) dX8_file_67 (fun x8 => ?_)
    exact s_iret C hr rfl dX8_file_70
  refine s_tableOut (tgt := 71) C dX8_file_16 (by have q0 : i2.toInt ≠ 0 := fun q => hx0 (Int32.toInt_inj.mp q); have q1 : i2.toInt ≠ 1 := fun q => hx1 (Int32.toInt_inj.mp q); have q2 : i2.toInt ≠ 2 := fun q => hx2 (Int32.toInt_inj.mp q); have q3 : i2.toInt ≠ 3 := fun q => hx3 (Int32.toInt_inj.mp q); omega) (by decide) ?_
  refine s_iconst (v := (-1)) C dX8_file_71 (by decide) ?_
  exact s_iret C hr rfl dX8_file_72

theorem dX8_byteOf_0 : decode cX8_byteOf 0 = .ok (.aload_n 0, 1) := by decide +kernel
theorem dX8_byteOf_1 : decode cX8_byteOf 1 = .ok (.getfield 28, 3) := by decide +kernel
theorem dX8_byteOf_4 : decode cX8_byteOf 4 = .ok (.iload_n 1, 1) := by decide +kernel
theorem dX8_byteOf_5 : decode cX8_byteOf 5 = .ok (.invokevirtual 251, 3) := by decide +kernel
theorem dX8_byteOf_8 : decode cX8_byteOf 8 = .ok (.astore_n 3, 1) := by decide +kernel
theorem dX8_byteOf_9 : decode cX8_byteOf 9 = .ok (.aload_n 3, 1) := by decide +kernel
theorem dX8_byteOf_10 : decode cX8_byteOf 10 = .ok (.ifnonnull 7, 3) := by decide +kernel
theorem dX8_byteOf_13 : decode cX8_byteOf 13 = .ok (.iconst (-1), 1) := by decide +kernel
theorem dX8_byteOf_14 : decode cX8_byteOf 14 = .ok (.goto 11, 3) := by decide +kernel
theorem dX8_byteOf_17 : decode cX8_byteOf 17 = .ok (.aload_n 3, 1) := by decide +kernel
theorem dX8_byteOf_18 : decode cX8_byteOf 18 = .ok (.getfield 150, 3) := by decide +kernel
theorem dX8_byteOf_21 : decode cX8_byteOf 21 = .ok (.iload_n 2, 1) := by decide +kernel
theorem dX8_byteOf_22 : decode cX8_byteOf 22 = .ok (.invokevirtual 172, 3) := by decide +kernel
theorem dX8_byteOf_25 : decode cX8_byteOf 25 = .ok (.ireturn, 1) := by decide +kernel
def X8_byteOf (a0 : Nat) (i1 : Int32) (i2 : Int32) : M Int32 := bd (gR 11 4 a0) (fun y1 => bd (ck 6 y1) (fun _ => bd (X3_at y1 i1) (fun z2 => co z2 (pu (-1)) (fun y3 => bd (gR 7 0 y3) (fun y4 => bd (ck 4 y4) (fun _ => bd (X1_at y4 i2) (fun x5 => pu x5)))))))
section
variable {G : Gx} {p : Program} {l : Launch} {e : Env} {R : Room} {s : State} {m : MethodId} {args : Array Value} {below : List Frame} {meth : Method} {c : Code} {h0 : Hp} {r : Int32} {h' : Hp}
end
set_option maxRecDepth 20000 in
theorem con_X8_byteOf (l : Launch) (G : Gx) (a0 : Nat) (i1 : Int32) (i2 : Int32) : Con G rvI l yX8_byteOf cX8_byteOf 4 (some .int) 4 85 [.ref a0, .int i1, .int i2] (X8_byteOf a0 i1 i2) := by
  refine con_of (lv := [(0, .ref a0), (1, .int i1), (2, .int i2)]) (by decide) (Nat.le_of_ble_eq_true rfl) rfl (fun p e R s m args below meth c h0 r h' C hF hO hr hm => ?_)
  refine s_aload_n C 0 dX8_byteOf_0 rfl rfl ?_
  refine s_gR C ci11 4 (by decide) (Or.inl wd_2_92) dX8_byteOf_1 (fun y1 => ?_)
  refine s_iload_n C 1 dX8_byteOf_4 rfl rfl ?_
  refine s_invV_o C ci6 cy_X3_at (Or.inl wd_2_134) rfl wd_2_135 wd_2_136 (con_X3_at l G y1 i1) rfl rfl (Nat.le_of_ble_eq_true rfl) (by rw [hF]; decide) (by rw [hO]; exact Nat.le_of_ble_eq_true rfl) dX8_byteOf_5 (fun z2 => ?_)
  refine s_ostore_n (lv' := [(3, va_rf z2), (0, .ref a0), (1, .int i1), (2, .int i2)]) C dX8_byteOf_8 rfl (by decide) rfl ?_
  refine s_oload_n C 0 dX8_byteOf_9 rfl rfl ?_
  refine s_ifnonnull (tgt := 17) C dX8_byteOf_10 (by decide) (fun hq => ?_) (fun y3 hq => ?_)
  · subst hq
    refine s_iconst (v := (-1)) C dX8_byteOf_13 (by decide) ?_
    refine s_goto (tgt := 25) C dX8_byteOf_14 (by decide) ?_
    exact s_iret C hr rfl dX8_byteOf_25
  subst hq
  refine s_aload_n C 0 dX8_byteOf_17 rfl rfl ?_
  refine s_gR C ci7 0 (by decide) (Or.inr (Or.inr ⟨_, wd_3_215⟩)) dX8_byteOf_18 (fun y4 => ?_)
  refine s_iload_n C 3 dX8_byteOf_21 rfl rfl ?_
  refine s_invV_i C ci4 cy_X1_at (Or.inl wd_2_126) rfl wd_2_127 wd_2_128 (con_X1_at l G y4 i2) rfl rfl (Nat.le_of_ble_eq_true rfl) (by rw [hF]; decide) (by rw [hO]; exact Nat.le_of_ble_eq_true rfl) dX8_byteOf_22 (fun x5 => ?_)
  exact s_iret C hr rfl dX8_byteOf_25

theorem dX8_entry_0 : decode cX8_entry 0 = .ok (.aload_n 0, 1) := by decide +kernel
theorem dX8_entry_1 : decode cX8_entry 1 = .ok (.getfield 35, 3) := by decide +kernel
theorem dX8_entry_4 : decode cX8_entry 4 = .ok (.iload_n 1, 1) := by decide +kernel
theorem dX8_entry_5 : decode cX8_entry 5 = .ok (.invokevirtual 139, 3) := by decide +kernel
theorem dX8_entry_8 : decode cX8_entry 8 = .ok (.astore_n 3, 1) := by decide +kernel
theorem dX8_entry_9 : decode cX8_entry 9 = .ok (.aload_n 0, 1) := by decide +kernel
theorem dX8_entry_10 : decode cX8_entry 10 = .ok (.getfield 86, 3) := by decide +kernel
theorem dX8_entry_13 : decode cX8_entry 13 = .ok (.ifCond .eq 7, 3) := by decide +kernel
theorem dX8_entry_16 : decode cX8_entry 16 = .ok (.aload_n 3, 1) := by decide +kernel
theorem dX8_entry_17 : decode cX8_entry 17 = .ok (.ifnonnull 5, 3) := by decide +kernel
theorem dX8_entry_20 : decode cX8_entry 20 = .ok (.iconst (-1), 1) := by decide +kernel
theorem dX8_entry_21 : decode cX8_entry 21 = .ok (.ireturn, 1) := by decide +kernel
theorem dX8_entry_22 : decode cX8_entry 22 = .ok (.iload_n 2, 1) := by decide +kernel
theorem dX8_entry_23 : decode cX8_entry 23 = .ok (.tableswitch 61 0 4 #[33, 41, 46, 51, 56], 33) := by decide +kernel
theorem dX8_entry_56 : decode cX8_entry 56 = .ok (.aload_n 3, 1) := by decide +kernel
theorem dX8_entry_57 : decode cX8_entry 57 = .ok (.getfield 162, 3) := by decide +kernel
theorem dX8_entry_60 : decode cX8_entry 60 = .ok (.invokevirtual 70, 3) := by decide +kernel
theorem dX8_entry_63 : decode cX8_entry 63 = .ok (.ireturn, 1) := by decide +kernel
theorem dX8_entry_64 : decode cX8_entry 64 = .ok (.aload_n 3, 1) := by decide +kernel
theorem dX8_entry_65 : decode cX8_entry 65 = .ok (.getfield 165, 3) := by decide +kernel
theorem dX8_entry_68 : decode cX8_entry 68 = .ok (.ireturn, 1) := by decide +kernel
theorem dX8_entry_69 : decode cX8_entry 69 = .ok (.aload_n 3, 1) := by decide +kernel
theorem dX8_entry_70 : decode cX8_entry 70 = .ok (.getfield 143, 3) := by decide +kernel
theorem dX8_entry_73 : decode cX8_entry 73 = .ok (.ireturn, 1) := by decide +kernel
theorem dX8_entry_74 : decode cX8_entry 74 = .ok (.aload_n 3, 1) := by decide +kernel
theorem dX8_entry_75 : decode cX8_entry 75 = .ok (.getfield 159, 3) := by decide +kernel
theorem dX8_entry_78 : decode cX8_entry 78 = .ok (.ireturn, 1) := by decide +kernel
theorem dX8_entry_79 : decode cX8_entry 79 = .ok (.aload_n 3, 1) := by decide +kernel
theorem dX8_entry_80 : decode cX8_entry 80 = .ok (.getfield 268, 3) := by decide +kernel
theorem dX8_entry_83 : decode cX8_entry 83 = .ok (.ireturn, 1) := by decide +kernel
theorem dX8_entry_84 : decode cX8_entry 84 = .ok (.iconst (-1), 1) := by decide +kernel
theorem dX8_entry_85 : decode cX8_entry 85 = .ok (.ireturn, 1) := by decide +kernel
def X8_entry (a0 : Nat) (i1 : Int32) (i2 : Int32) : M Int32 := bd (gR 11 5 a0) (fun y1 => bd (ck 5 y1) (fun _ => bd (X2_row y1 i1) (fun z2 => bd (gI 11 8 a0) (fun x3 => it (x3 = 0) (pu (-1)) (co z2 (pu (-1)) (fun y4 => it (i2 = 0) (bd (gR 10 0 y4) (fun y5 => bd (ck 4 y5) (fun _ => bd (X1_size y5) (fun x6 => pu x6)))) (it (i2 = 1) (bd (gI 10 3 y4) (fun x7 => pu x7)) (it (i2 = 2) (bd (gI 10 1 y4) (fun x8 => pu x8)) (it (i2 = 3) (bd (gI 10 2 y4) (fun x9 => pu x9)) (it (i2 = 4) (bd (gI 10 4 y4) (fun x10 => pu x10)) (pu (-1))))))))))))
section
variable {G : Gx} {p : Program} {l : Launch} {e : Env} {R : Room} {s : State} {m : MethodId} {args : Array Value} {below : List Frame} {meth : Method} {c : Code} {h0 : Hp} {r : Int32} {h' : Hp}
end
set_option maxRecDepth 20000 in
theorem con_X8_entry (l : Launch) (G : Gx) (a0 : Nat) (i1 : Int32) (i2 : Int32) : Con G rvI l yX8_entry cX8_entry 4 (some .int) 4 85 [.ref a0, .int i1, .int i2] (X8_entry a0 i1 i2) := by
  refine con_of (lv := [(0, .ref a0), (1, .int i1), (2, .int i2)]) (by decide) (Nat.le_of_ble_eq_true rfl) rfl (fun p e R s m args below meth c h0 r h' C hF hO hr hm => ?_)
  refine s_aload_n C 0 dX8_entry_0 rfl rfl ?_
  refine s_gR C ci11 5 (by decide) (Or.inl wd_2_93) dX8_entry_1 (fun y1 => ?_)
  refine s_iload_n C 1 dX8_entry_4 rfl rfl ?_
  refine s_invV_o C ci5 cy_X2_row (Or.inl wd_2_158) rfl wd_2_159 wd_2_160 (con_X2_row l G y1 i1) rfl rfl (Nat.le_of_ble_eq_true rfl) (by rw [hF]; decide) (by rw [hO]; exact Nat.le_of_ble_eq_true rfl) dX8_entry_5 (fun z2 => ?_)
  refine s_ostore_n (lv' := [(3, va_rf z2), (0, .ref a0), (1, .int i1), (2, .int i2)]) C dX8_entry_8 rfl (by decide) rfl ?_
  refine s_aload_n C 1 dX8_entry_9 rfl rfl ?_
  refine s_gI C ci11 8 (by decide) (Or.inl wd_2_96) dX8_entry_10 (fun x3 => ?_)
  refine s_if_eq (tgt := 20) C dX8_entry_13 (by decide) ?_ ?_
  · refine s_iconst (v := (-1)) C dX8_entry_20 (by decide) ?_
    exact s_iret C hr rfl dX8_entry_21
  refine s_oload_n C 0 dX8_entry_16 rfl rfl ?_
  refine s_ifnonnull (tgt := 22) C dX8_entry_17 (by decide) (fun hq => ?_) (fun y4 hq => ?_)
  · subst hq
    refine s_iconst (v := (-1)) C dX8_entry_20 (by decide) ?_
    exact s_iret C hr rfl dX8_entry_21
  subst hq
  refine s_iload_n C 3 dX8_entry_22 rfl rfl ?_
  refine s_tableIn (v := 0) (q := 0) (off := 33) (tgt := 56) C dX8_entry_23 (by decide) (by decide) (by decide) (by decide) (by decide) ?_ (fun hx0 => ?_)
  · refine s_aload_n C 0 dX8_entry_56 rfl rfl ?_
    refine s_gR C ci10 0 (by decide) (Or.inr (Or.inr ⟨_, wd_5_55⟩)) dX8_entry_57 (fun y5 => ?_)
    refine s_invV_i C ci4 cy_X1_size (Or.inl wd_2_146) rfl wd_2_147 wd_2_148 (con_X1_size l G y5) rfl rfl (Nat.le_of_ble_eq_true rfl) (by rw [hF]; decide) (by rw [hO]; exact Nat.le_of_ble_eq_true rfl) dX8_entry_60 (fun x6 => ?_)
    exact s_iret C hr rfl dX8_entry_63
  refine s_tableIn (v := 1) (q := 1) (off := 41) (tgt := 64) C dX8_entry_23 (by decide) (by decide) (by decide) (by decide) (by decide) ?_ (fun hx1 => ?_)
  · refine s_aload_n C 0 dX8_entry_64 rfl rfl ?_
    refine s_gI C ci10 3 (by decide) (Or.inr (Or.inr ⟨_, wd_5_64⟩)) dX8_entry_65 (fun x7 => ?_)
    exact s_iret C hr rfl dX8_entry_68
  refine s_tableIn (v := 2) (q := 2) (off := 46) (tgt := 69) C dX8_entry_23 (by decide) (by decide) (by decide) (by decide) (by decide) ?_ (fun hx2 => ?_)
  · refine s_aload_n C 0 dX8_entry_69 rfl rfl ?_
    refine s_gI C ci10 1 (by decide) (Or.inr (Or.inr ⟨_, wd_5_57⟩)) dX8_entry_70 (fun x8 => ?_)
    exact s_iret C hr rfl dX8_entry_73
  refine s_tableIn (v := 3) (q := 3) (off := 51) (tgt := 74) C dX8_entry_23 (by decide) (by decide) (by decide) (by decide) (by decide) ?_ (fun hx3 => ?_)
  · refine s_aload_n C 0 dX8_entry_74 rfl rfl ?_
    refine s_gI C ci10 2 (by decide) (Or.inr (Or.inr ⟨_, wd_5_61⟩)) dX8_entry_75 (fun x9 => ?_)
    exact s_iret C hr rfl dX8_entry_78
  refine s_tableIn (v := 4) (q := 4) (off := 56) (tgt := 79) C dX8_entry_23 (by decide) (by decide) (by decide) (by decide) (by decide) ?_ (fun hx4 => ?_)
  · refine s_aload_n C 0 dX8_entry_79 rfl rfl ?_
    refine s_gI C ci10 4 (by decide) (Or.inr (Or.inr ⟨_, wd_5_70⟩)) dX8_entry_80 (fun x10 => ?_)
    exact s_iret C hr rfl dX8_entry_83
  refine s_tableOut (tgt := 84) C dX8_entry_23 (by have q0 : i2.toInt ≠ 0 := fun q => hx0 (Int32.toInt_inj.mp q); have q1 : i2.toInt ≠ 1 := fun q => hx1 (Int32.toInt_inj.mp q); have q2 : i2.toInt ≠ 2 := fun q => hx2 (Int32.toInt_inj.mp q); have q3 : i2.toInt ≠ 3 := fun q => hx3 (Int32.toInt_inj.mp q); have q4 : i2.toInt ≠ 4 := fun q => hx4 (Int32.toInt_inj.mp q); omega) (by decide) ?_
  refine s_iconst (v := (-1)) C dX8_entry_84 (by decide) ?_
  exact s_iret C hr rfl dX8_entry_85

theorem dX8_key_0 : decode cX8_key 0 = .ok (.aload_n 0, 1) := by decide +kernel
theorem dX8_key_1 : decode cX8_key 1 = .ok (.getfield 35, 3) := by decide +kernel
theorem dX8_key_4 : decode cX8_key 4 = .ok (.iload_n 1, 1) := by decide +kernel
theorem dX8_key_5 : decode cX8_key 5 = .ok (.invokevirtual 139, 3) := by decide +kernel
theorem dX8_key_8 : decode cX8_key 8 = .ok (.astore_n 3, 1) := by decide +kernel
theorem dX8_key_9 : decode cX8_key 9 = .ok (.aload_n 0, 1) := by decide +kernel
theorem dX8_key_10 : decode cX8_key 10 = .ok (.getfield 86, 3) := by decide +kernel
theorem dX8_key_13 : decode cX8_key 13 = .ok (.ifCond .eq 7, 3) := by decide +kernel
theorem dX8_key_16 : decode cX8_key 16 = .ok (.aload_n 3, 1) := by decide +kernel
theorem dX8_key_17 : decode cX8_key 17 = .ok (.ifnonnull 7, 3) := by decide +kernel
theorem dX8_key_20 : decode cX8_key 20 = .ok (.iconst (-1), 1) := by decide +kernel
theorem dX8_key_21 : decode cX8_key 21 = .ok (.goto 11, 3) := by decide +kernel
theorem dX8_key_24 : decode cX8_key 24 = .ok (.aload_n 3, 1) := by decide +kernel
theorem dX8_key_25 : decode cX8_key 25 = .ok (.getfield 162, 3) := by decide +kernel
theorem dX8_key_28 : decode cX8_key 28 = .ok (.iload_n 2, 1) := by decide +kernel
theorem dX8_key_29 : decode cX8_key 29 = .ok (.invokevirtual 172, 3) := by decide +kernel
theorem dX8_key_32 : decode cX8_key 32 = .ok (.ireturn, 1) := by decide +kernel
def X8_key_b20    : M Int32 := pu (-1)
def X8_key (a0 : Nat) (i1 : Int32) (i2 : Int32) : M Int32 := bd (gR 11 5 a0) (fun y1 => bd (ck 5 y1) (fun _ => bd (X2_row y1 i1) (fun z2 => bd (gI 11 8 a0) (fun x3 => it (x3 = 0) (X8_key_b20   ) (co z2 (X8_key_b20   ) (fun y4 => bd (gR 10 0 y4) (fun y5 => bd (ck 4 y5) (fun _ => bd (X1_at y5 i2) (fun x6 => pu x6)))))))))
section
variable {G : Gx} {p : Program} {l : Launch} {e : Env} {R : Room} {s : State} {m : MethodId} {args : Array Value} {below : List Frame} {meth : Method} {c : Code} {h0 : Hp} {r : Int32} {h' : Hp}
set_option maxRecDepth 20000 in
theorem X8_key_b20_s (C : Cx G p R s m args meth c cX8_key 4 yX8_key.cls h0 h') (hF : R.frames = 4) (hO : R.locals = 85) (hr : meth.sig.returnType = (some .int)) (hm : meth.name = yX8_key.name)    : Sm G (QM G rvI below args s h0 r h') p l e R s m args below meth c 4 h0 r h' 20 [] [] (X8_key_b20   ) := by
  refine s_iconst (v := (-1)) C dX8_key_20 (by decide) ?_
  refine s_goto (tgt := 32) C dX8_key_21 (by decide) ?_
  exact s_iret C hr rfl dX8_key_32
end
set_option maxRecDepth 20000 in
theorem con_X8_key (l : Launch) (G : Gx) (a0 : Nat) (i1 : Int32) (i2 : Int32) : Con G rvI l yX8_key cX8_key 4 (some .int) 4 85 [.ref a0, .int i1, .int i2] (X8_key a0 i1 i2) := by
  refine con_of (lv := [(0, .ref a0), (1, .int i1), (2, .int i2)]) (by decide) (Nat.le_of_ble_eq_true rfl) rfl (fun p e R s m args below meth c h0 r h' C hF hO hr hm => ?_)
  refine s_aload_n C 0 dX8_key_0 rfl rfl ?_
  refine s_gR C ci11 5 (by decide) (Or.inl wd_2_93) dX8_key_1 (fun y1 => ?_)
  refine s_iload_n C 1 dX8_key_4 rfl rfl ?_
  refine s_invV_o C ci5 cy_X2_row (Or.inl wd_2_158) rfl wd_2_159 wd_2_160 (con_X2_row l G y1 i1) rfl rfl (Nat.le_of_ble_eq_true rfl) (by rw [hF]; decide) (by rw [hO]; exact Nat.le_of_ble_eq_true rfl) dX8_key_5 (fun z2 => ?_)
  refine s_ostore_n (lv' := [(3, va_rf z2), (0, .ref a0), (1, .int i1), (2, .int i2)]) C dX8_key_8 rfl (by decide) rfl ?_
  refine s_aload_n C 1 dX8_key_9 rfl rfl ?_
  refine s_gI C ci11 8 (by decide) (Or.inl wd_2_96) dX8_key_10 (fun x3 => ?_)
  refine s_if_eq (tgt := 20) C dX8_key_13 (by decide) ?_ ?_
  · refine s_sub [] rfl ?_
    exact X8_key_b20_s C hF hO hr hm   
  refine s_oload_n C 0 dX8_key_16 rfl rfl ?_
  refine s_ifnonnull (tgt := 24) C dX8_key_17 (by decide) (fun hq => ?_) (fun y4 hq => ?_)
  · subst hq
    refine s_sub [] rfl ?_
    exact X8_key_b20_s C hF hO hr hm   
  subst hq
  refine s_aload_n C 0 dX8_key_24 rfl rfl ?_
  refine s_gR C ci10 0 (by decide) (Or.inr (Or.inr ⟨_, wd_5_55⟩)) dX8_key_25 (fun y5 => ?_)
  refine s_iload_n C 3 dX8_key_28 rfl rfl ?_
  refine s_invV_i C ci4 cy_X1_at (Or.inl wd_2_126) rfl wd_2_127 wd_2_128 (con_X1_at l G y5 i2) rfl rfl (Nat.le_of_ble_eq_true rfl) (by rw [hF]; decide) (by rw [hO]; exact Nat.le_of_ble_eq_true rfl) dX8_key_29 (fun x6 => ?_)
  exact s_iret C hr rfl dX8_key_32

theorem dX8_lookInside_0 : decode cX8_lookInside 0 = .ok (.iload_n 1, 1) := by decide +kernel
theorem dX8_lookInside_1 : decode cX8_lookInside 1 = .ok (.tableswitch 125 11 19 #[51, 59, 64, 72, 77, 85, 93, 101, 109], 51) := by decide +kernel
theorem dX8_lookInside_52 : decode cX8_lookInside 52 = .ok (.aload_n 0, 1) := by decide +kernel
theorem dX8_lookInside_53 : decode cX8_lookInside 53 = .ok (.getfield 35, 3) := by decide +kernel
theorem dX8_lookInside_56 : decode cX8_lookInside 56 = .ok (.invokevirtual 211, 3) := by decide +kernel
theorem dX8_lookInside_59 : decode cX8_lookInside 59 = .ok (.ireturn, 1) := by decide +kernel
theorem dX8_lookInside_60 : decode cX8_lookInside 60 = .ok (.aload_n 0, 1) := by decide +kernel
theorem dX8_lookInside_61 : decode cX8_lookInside 61 = .ok (.getfield 107, 3) := by decide +kernel
theorem dX8_lookInside_64 : decode cX8_lookInside 64 = .ok (.ireturn, 1) := by decide +kernel
theorem dX8_lookInside_65 : decode cX8_lookInside 65 = .ok (.aload_n 0, 1) := by decide +kernel
theorem dX8_lookInside_66 : decode cX8_lookInside 66 = .ok (.getfield 28, 3) := by decide +kernel
theorem dX8_lookInside_69 : decode cX8_lookInside 69 = .ok (.getfield 219, 3) := by decide +kernel
theorem dX8_lookInside_72 : decode cX8_lookInside 72 = .ok (.ireturn, 1) := by decide +kernel
theorem dX8_lookInside_73 : decode cX8_lookInside 73 = .ok (.aload_n 0, 1) := by decide +kernel
theorem dX8_lookInside_74 : decode cX8_lookInside 74 = .ok (.getfield 118, 3) := by decide +kernel
theorem dX8_lookInside_77 : decode cX8_lookInside 77 = .ok (.ireturn, 1) := by decide +kernel
theorem dX8_lookInside_78 : decode cX8_lookInside 78 = .ok (.aload_n 0, 1) := by decide +kernel
theorem dX8_lookInside_79 : decode cX8_lookInside 79 = .ok (.getfield 44, 3) := by decide +kernel
theorem dX8_lookInside_82 : decode cX8_lookInside 82 = .ok (.getfield 293, 3) := by decide +kernel
theorem dX8_lookInside_85 : decode cX8_lookInside 85 = .ok (.ireturn, 1) := by decide +kernel
theorem dX8_lookInside_86 : decode cX8_lookInside 86 = .ok (.aload_n 0, 1) := by decide +kernel
theorem dX8_lookInside_87 : decode cX8_lookInside 87 = .ok (.getfield 44, 3) := by decide +kernel
theorem dX8_lookInside_90 : decode cX8_lookInside 90 = .ok (.invokevirtual 236, 3) := by decide +kernel
theorem dX8_lookInside_93 : decode cX8_lookInside 93 = .ok (.ireturn, 1) := by decide +kernel
theorem dX8_lookInside_94 : decode cX8_lookInside 94 = .ok (.aload_n 0, 1) := by decide +kernel
theorem dX8_lookInside_95 : decode cX8_lookInside 95 = .ok (.getfield 44, 3) := by decide +kernel
theorem dX8_lookInside_98 : decode cX8_lookInside 98 = .ok (.getfield 296, 3) := by decide +kernel
theorem dX8_lookInside_101 : decode cX8_lookInside 101 = .ok (.ireturn, 1) := by decide +kernel
theorem dX8_lookInside_102 : decode cX8_lookInside 102 = .ok (.aload_n 0, 1) := by decide +kernel
theorem dX8_lookInside_103 : decode cX8_lookInside 103 = .ok (.getfield 35, 3) := by decide +kernel
theorem dX8_lookInside_106 : decode cX8_lookInside 106 = .ok (.invokevirtual 299, 3) := by decide +kernel
theorem dX8_lookInside_109 : decode cX8_lookInside 109 = .ok (.ireturn, 1) := by decide +kernel
theorem dX8_lookInside_110 : decode cX8_lookInside 110 = .ok (.aload_n 0, 1) := by decide +kernel
theorem dX8_lookInside_111 : decode cX8_lookInside 111 = .ok (.getfield 28, 3) := by decide +kernel
theorem dX8_lookInside_114 : decode cX8_lookInside 114 = .ok (.invokevirtual 302, 3) := by decide +kernel
theorem dX8_lookInside_117 : decode cX8_lookInside 117 = .ok (.aload_n 0, 1) := by decide +kernel
theorem dX8_lookInside_118 : decode cX8_lookInside 118 = .ok (.getfield 35, 3) := by decide +kernel
theorem dX8_lookInside_121 : decode cX8_lookInside 121 = .ok (.invokevirtual 299, 3) := by decide +kernel
theorem dX8_lookInside_124 : decode cX8_lookInside 124 = .ok (.isub, 1) := by decide +kernel
theorem dX8_lookInside_125 : decode cX8_lookInside 125 = .ok (.ireturn, 1) := by decide +kernel
theorem dX8_lookInside_126 : decode cX8_lookInside 126 = .ok (.iconst (-1), 1) := by decide +kernel
theorem dX8_lookInside_127 : decode cX8_lookInside 127 = .ok (.ireturn, 1) := by decide +kernel
def X8_lookInside (a0 : Nat) (i1 : Int32) : M Int32 := it (i1 = 11) (bd (gR 11 5 a0) (fun y1 => bd (ck 5 y1) (fun _ => bd (X2_count y1) (fun x2 => pu x2)))) (it (i1 = 12) (bd (gI 11 10 a0) (fun x3 => pu x3)) (it (i1 = 13) (bd (gR 11 4 a0) (fun y4 => bd (gI 6 6 y4) (fun x5 => pu x5))) (it (i1 = 14) (bd (gI 11 9 a0) (fun x6 => pu x6)) (it (i1 = 15) (bd (gR 11 6 a0) (fun y7 => bd (gI 8 6 y7) (fun x8 => pu x8))) (it (i1 = 16) (bd (gR 11 6 a0) (fun y9 => bd (ck 8 y9) (fun _ => bd (X5_unitsLeft y9) (fun x10 => pu x10)))) (it (i1 = 17) (bd (gR 11 6 a0) (fun y11 => bd (gI 8 9 y11) (fun x12 => pu x12))) (it (i1 = 18) (bd (gR 11 5 a0) (fun y13 => bd (ck 5 y13) (fun _ => bd (X2_liveBytes y13) (fun x14 => pu x14)))) (it (i1 = 19) (bd (gR 11 4 a0) (fun y15 => bd (ck 6 y15) (fun _ => bd (X3_dataBytes y15) (fun x16 => bd (gR 11 5 a0) (fun y17 => bd (ck 5 y17) (fun _ => bd (X2_liveBytes y17) (fun x18 => pu (x16 - x18)))))))) (pu (-1))))))))))
section
variable {G : Gx} {p : Program} {l : Launch} {e : Env} {R : Room} {s : State} {m : MethodId} {args : Array Value} {below : List Frame} {meth : Method} {c : Code} {h0 : Hp} {r : Int32} {h' : Hp}
end
set_option maxRecDepth 20000 in
theorem con_X8_lookInside (l : Launch) (G : Gx) (a0 : Nat) (i1 : Int32) : Con G rvI l yX8_lookInside cX8_lookInside 2 (some .int) 5 109 [.ref a0, .int i1] (X8_lookInside a0 i1) := by
  refine con_of (lv := [(0, .ref a0), (1, .int i1)]) (by decide) (Nat.le_of_ble_eq_true rfl) rfl (fun p e R s m args below meth c h0 r h' C hF hO hr hm => ?_)
  refine s_iload_n C 1 dX8_lookInside_0 rfl rfl ?_
  refine s_tableIn (v := 11) (q := 11) (off := 51) (tgt := 52) C dX8_lookInside_1 (by decide) (by decide) (by decide) (by decide) (by decide) ?_ (fun hx11 => ?_)
  · refine s_aload_n C 0 dX8_lookInside_52 rfl rfl ?_
    refine s_gR C ci11 5 (by decide) (Or.inl wd_2_93) dX8_lookInside_53 (fun y1 => ?_)
    refine s_invV_i C ci5 cy_X2_count (Or.inl wd_2_188) rfl wd_2_189 wd_2_190 (con_X2_count l G y1) rfl rfl (Nat.le_of_ble_eq_true rfl) (by rw [hF]; decide) (by rw [hO]; exact Nat.le_of_ble_eq_true rfl) dX8_lookInside_56 (fun x2 => ?_)
    exact s_iret C hr rfl dX8_lookInside_59
  refine s_tableIn (v := 12) (q := 12) (off := 59) (tgt := 60) C dX8_lookInside_1 (by decide) (by decide) (by decide) (by decide) (by decide) ?_ (fun hx12 => ?_)
  · refine s_aload_n C 0 dX8_lookInside_60 rfl rfl ?_
    refine s_gI C ci11 10 (by decide) (Or.inl wd_2_98) dX8_lookInside_61 (fun x3 => ?_)
    exact s_iret C hr rfl dX8_lookInside_64
  refine s_tableIn (v := 13) (q := 13) (off := 64) (tgt := 65) C dX8_lookInside_1 (by decide) (by decide) (by decide) (by decide) (by decide) ?_ (fun hx13 => ?_)
  · refine s_aload_n C 0 dX8_lookInside_65 rfl rfl ?_
    refine s_gR C ci11 4 (by decide) (Or.inl wd_2_92) dX8_lookInside_66 (fun y4 => ?_)
    refine s_gI C ci6 6 (by decide) (Or.inr (Or.inr ⟨_, wd_1_98⟩)) dX8_lookInside_69 (fun x5 => ?_)
    exact s_iret C hr rfl dX8_lookInside_72
  refine s_tableIn (v := 14) (q := 14) (off := 72) (tgt := 73) C dX8_lookInside_1 (by decide) (by decide) (by decide) (by decide) (by decide) ?_ (fun hx14 => ?_)
  · refine s_aload_n C 0 dX8_lookInside_73 rfl rfl ?_
    refine s_gI C ci11 9 (by decide) (Or.inl wd_2_97) dX8_lookInside_74 (fun x6 => ?_)
    exact s_iret C hr rfl dX8_lookInside_77
  refine s_tableIn (v := 15) (q := 15) (off := 77) (tgt := 78) C dX8_lookInside_1 (by decide) (by decide) (by decide) (by decide) (by decide) ?_ (fun hx15 => ?_)
  · refine s_aload_n C 0 dX8_lookInside_78 rfl rfl ?_
    refine s_gR C ci11 6 (by decide) (Or.inl wd_2_94) dX8_lookInside_79 (fun y7 => ?_)
    refine s_gI C ci8 6 (by decide) (Or.inr (Or.inr ⟨_, wd_1_145⟩)) dX8_lookInside_82 (fun x8 => ?_)
    exact s_iret C hr rfl dX8_lookInside_85
  refine s_tableIn (v := 16) (q := 16) (off := 85) (tgt := 86) C dX8_lookInside_1 (by decide) (by decide) (by decide) (by decide) (by decide) ?_ (fun hx16 => ?_)
  · refine s_aload_n C 0 dX8_lookInside_86 rfl rfl ?_
    refine s_gR C ci11 6 (by decide) (Or.inl wd_2_94) dX8_lookInside_87 (fun y9 => ?_)
    refine s_invV_i C ci8 cy_X5_unitsLeft (Or.inl wd_2_192) rfl wd_2_193 wd_2_194 (con_X5_unitsLeft l G y9) rfl rfl (Nat.le_of_ble_eq_true rfl) (by rw [hF]; decide) (by rw [hO]; exact Nat.le_of_ble_eq_true rfl) dX8_lookInside_90 (fun x10 => ?_)
    exact s_iret C hr rfl dX8_lookInside_93
  refine s_tableIn (v := 17) (q := 17) (off := 93) (tgt := 94) C dX8_lookInside_1 (by decide) (by decide) (by decide) (by decide) (by decide) ?_ (fun hx17 => ?_)
  · refine s_aload_n C 0 dX8_lookInside_94 rfl rfl ?_
    refine s_gR C ci11 6 (by decide) (Or.inl wd_2_94) dX8_lookInside_95 (fun y11 => ?_)
    refine s_gI C ci8 9 (by decide) (Or.inr (Or.inr ⟨_, wd_1_149⟩)) dX8_lookInside_98 (fun x12 => ?_)
    exact s_iret C hr rfl dX8_lookInside_101
  refine s_tableIn (v := 18) (q := 18) (off := 101) (tgt := 102) C dX8_lookInside_1 (by decide) (by decide) (by decide) (by decide) (by decide) ?_ (fun hx18 => ?_)
  · refine s_aload_n C 0 dX8_lookInside_102 rfl rfl ?_
    refine s_gR C ci11 5 (by decide) (Or.inl wd_2_93) dX8_lookInside_103 (fun y13 => ?_)
    refine s_invV_i C ci5 cy_X2_liveBytes (Or.inl wd_2_204) rfl wd_2_205 wd_2_206 (con_X2_liveBytes l G y13) rfl rfl (Nat.le_of_ble_eq_true rfl) (by rw [hF]; decide) (by rw [hO]; exact Nat.le_of_ble_eq_true rfl) dX8_lookInside_106 (fun x14 => ?_)
    exact s_iret C hr rfl dX8_lookInside_109
  refine s_tableIn (v := 19) (q := 19) (off := 109) (tgt := 110) C dX8_lookInside_1 (by decide) (by decide) (by decide) (by decide) (by decide) ?_ (fun hx19 => ?_)
  · refine s_aload_n C 0 dX8_lookInside_110 rfl rfl ?_
    refine s_gR C ci11 4 (by decide) (Or.inl wd_2_92) dX8_lookInside_111 (fun y15 => ?_)
    refine s_invV_i C ci6 cy_X3_dataBytes (Or.inl wd_2_217) rfl wd_2_218 wd_2_219 (con_X3_dataBytes l G y15) rfl rfl (Nat.le_of_ble_eq_true rfl) (by rw [hF]; decide) (by rw [hO]; exact Nat.le_of_ble_eq_true rfl) dX8_lookInside_114 (fun x16 => ?_)
    refine s_aload_n C 0 dX8_lookInside_117 rfl rfl ?_
    refine s_gR C ci11 5 (by decide) (Or.inl wd_2_93) dX8_lookInside_118 (fun y17 => ?_)
    refine s_invV_i C ci5 cy_X2_liveBytes (Or.inl wd_2_204) rfl wd_2_205 wd_2_206 (con_X2_liveBytes l G y17) rfl rfl (Nat.le_of_ble_eq_true rfl) (by rw [hF]; decide) (by rw [hO]; exact Nat.le_of_ble_eq_true rfl) dX8_lookInside_121 (fun x18 => ?_)
    refine s_isub C dX8_lookInside_124 ?_
    exact s_iret C hr rfl dX8_lookInside_125
  refine s_tableOut (tgt := 126) C dX8_lookInside_1 (by have q11 : i1.toInt ≠ 11 := fun q => hx11 (Int32.toInt_inj.mp q); have q12 : i1.toInt ≠ 12 := fun q => hx12 (Int32.toInt_inj.mp q); have q13 : i1.toInt ≠ 13 := fun q => hx13 (Int32.toInt_inj.mp q); have q14 : i1.toInt ≠ 14 := fun q => hx14 (Int32.toInt_inj.mp q); have q15 : i1.toInt ≠ 15 := fun q => hx15 (Int32.toInt_inj.mp q); have q16 : i1.toInt ≠ 16 := fun q => hx16 (Int32.toInt_inj.mp q); have q17 : i1.toInt ≠ 17 := fun q => hx17 (Int32.toInt_inj.mp q); have q18 : i1.toInt ≠ 18 := fun q => hx18 (Int32.toInt_inj.mp q); have q19 : i1.toInt ≠ 19 := fun q => hx19 (Int32.toInt_inj.mp q); omega) (by decide) ?_
  refine s_iconst (v := (-1)) C dX8_lookInside_126 (by decide) ?_
  exact s_iret C hr rfl dX8_lookInside_127

theorem dX8_look_0 : decode cX8_look 0 = .ok (.iload_n 1, 1) := by decide +kernel
theorem dX8_look_1 : decode cX8_look 1 = .ok (.tableswitch 152 0 10 #[59, 72, 80, 88, 96, 104, 112, 120, 128, 136, 144], 59) := by decide +kernel
theorem dX8_look_60 : decode cX8_look 60 = .ok (.aload_n 0, 1) := by decide +kernel
theorem dX8_look_61 : decode cX8_look 61 = .ok (.getfield 86, 3) := by decide +kernel
theorem dX8_look_64 : decode cX8_look 64 = .ok (.ifCond .eq 7, 3) := by decide +kernel
theorem dX8_look_67 : decode cX8_look 67 = .ok (.iconst 1, 1) := by decide +kernel
theorem dX8_look_68 : decode cX8_look 68 = .ok (.goto 4, 3) := by decide +kernel
theorem dX8_look_71 : decode cX8_look 71 = .ok (.iconst 0, 1) := by decide +kernel
theorem dX8_look_72 : decode cX8_look 72 = .ok (.ireturn, 1) := by decide +kernel
theorem dX8_look_73 : decode cX8_look 73 = .ok (.aload_n 0, 1) := by decide +kernel
theorem dX8_look_74 : decode cX8_look 74 = .ok (.getfield 28, 3) := by decide +kernel
theorem dX8_look_77 : decode cX8_look 77 = .ok (.getfield 271, 3) := by decide +kernel
theorem dX8_look_80 : decode cX8_look 80 = .ok (.ireturn, 1) := by decide +kernel
theorem dX8_look_81 : decode cX8_look 81 = .ok (.aload_n 0, 1) := by decide +kernel
theorem dX8_look_82 : decode cX8_look 82 = .ok (.getfield 28, 3) := by decide +kernel
theorem dX8_look_85 : decode cX8_look 85 = .ok (.getfield 274, 3) := by decide +kernel
theorem dX8_look_88 : decode cX8_look 88 = .ok (.ireturn, 1) := by decide +kernel
theorem dX8_look_89 : decode cX8_look 89 = .ok (.aload_n 0, 1) := by decide +kernel
theorem dX8_look_90 : decode cX8_look 90 = .ok (.getfield 28, 3) := by decide +kernel
theorem dX8_look_93 : decode cX8_look 93 = .ok (.invokevirtual 277, 3) := by decide +kernel
theorem dX8_look_96 : decode cX8_look 96 = .ok (.ireturn, 1) := by decide +kernel
theorem dX8_look_97 : decode cX8_look 97 = .ok (.aload_n 0, 1) := by decide +kernel
theorem dX8_look_98 : decode cX8_look 98 = .ok (.getfield 28, 3) := by decide +kernel
theorem dX8_look_101 : decode cX8_look 101 = .ok (.invokevirtual 228, 3) := by decide +kernel
theorem dX8_look_104 : decode cX8_look 104 = .ok (.ireturn, 1) := by decide +kernel
theorem dX8_look_105 : decode cX8_look 105 = .ok (.aload_n 0, 1) := by decide +kernel
theorem dX8_look_106 : decode cX8_look 106 = .ok (.getfield 28, 3) := by decide +kernel
theorem dX8_look_109 : decode cX8_look 109 = .ok (.invokevirtual 176, 3) := by decide +kernel
theorem dX8_look_112 : decode cX8_look 112 = .ok (.ireturn, 1) := by decide +kernel
theorem dX8_look_113 : decode cX8_look 113 = .ok (.aload_n 0, 1) := by decide +kernel
theorem dX8_look_114 : decode cX8_look 114 = .ok (.getfield 10, 3) := by decide +kernel
theorem dX8_look_117 : decode cX8_look 117 = .ok (.invokevirtual 70, 3) := by decide +kernel
theorem dX8_look_120 : decode cX8_look 120 = .ok (.ireturn, 1) := by decide +kernel
theorem dX8_look_121 : decode cX8_look 121 = .ok (.aload_n 0, 1) := by decide +kernel
theorem dX8_look_122 : decode cX8_look 122 = .ok (.getfield 51, 3) := by decide +kernel
theorem dX8_look_125 : decode cX8_look 125 = .ok (.getfield 278, 3) := by decide +kernel
theorem dX8_look_128 : decode cX8_look 128 = .ok (.ireturn, 1) := by decide +kernel
theorem dX8_look_129 : decode cX8_look 129 = .ok (.aload_n 0, 1) := by decide +kernel
theorem dX8_look_130 : decode cX8_look 130 = .ok (.getfield 51, 3) := by decide +kernel
theorem dX8_look_133 : decode cX8_look 133 = .ok (.getfield 281, 3) := by decide +kernel
theorem dX8_look_136 : decode cX8_look 136 = .ok (.ireturn, 1) := by decide +kernel
theorem dX8_look_137 : decode cX8_look 137 = .ok (.aload_n 0, 1) := by decide +kernel
theorem dX8_look_138 : decode cX8_look 138 = .ok (.getfield 51, 3) := by decide +kernel
theorem dX8_look_141 : decode cX8_look 141 = .ok (.getfield 284, 3) := by decide +kernel
theorem dX8_look_144 : decode cX8_look 144 = .ok (.ireturn, 1) := by decide +kernel
theorem dX8_look_145 : decode cX8_look 145 = .ok (.aload_n 0, 1) := by decide +kernel
theorem dX8_look_146 : decode cX8_look 146 = .ok (.getfield 51, 3) := by decide +kernel
theorem dX8_look_149 : decode cX8_look 149 = .ok (.getfield 287, 3) := by decide +kernel
theorem dX8_look_152 : decode cX8_look 152 = .ok (.ireturn, 1) := by decide +kernel
theorem dX8_look_153 : decode cX8_look 153 = .ok (.aload_n 0, 1) := by decide +kernel
theorem dX8_look_154 : decode cX8_look 154 = .ok (.getfield 86, 3) := by decide +kernel
theorem dX8_look_157 : decode cX8_look 157 = .ok (.ifCond .eq 11, 3) := by decide +kernel
theorem dX8_look_160 : decode cX8_look 160 = .ok (.aload_n 0, 1) := by decide +kernel
theorem dX8_look_161 : decode cX8_look 161 = .ok (.iload_n 1, 1) := by decide +kernel
theorem dX8_look_162 : decode cX8_look 162 = .ok (.invokevirtual 290, 3) := by decide +kernel
theorem dX8_look_165 : decode cX8_look 165 = .ok (.goto 4, 3) := by decide +kernel
theorem dX8_look_168 : decode cX8_look 168 = .ok (.iconst (-1), 1) := by decide +kernel
theorem dX8_look_169 : decode cX8_look 169 = .ok (.ireturn, 1) := by decide +kernel
def X8_look (a0 : Nat) (i1 : Int32) : M Int32 := it (i1 = 0) (bd (gI 11 8 a0) (fun x1 => it (x1 = 0) (pu 0) (pu 1))) (it (i1 = 1) (bd (gR 11 4 a0) (fun y2 => bd (gI 6 4 y2) (fun x3 => pu x3))) (it (i1 = 2) (bd (gR 11 4 a0) (fun y4 => bd (gI 6 5 y4) (fun x5 => pu x5))) (it (i1 = 3) (bd (gR 11 4 a0) (fun y6 => bd (ck 6 y6) (fun _ => bd (X3_count y6) (fun x7 => pu x7)))) (it (i1 = 4) (bd (gR 11 4 a0) (fun y8 => bd (ck 6 y8) (fun _ => bd (X3_room y8) (fun x9 => pu x9)))) (it (i1 = 5) (bd (gR 11 4 a0) (fun y10 => bd (ck 6 y10) (fun _ => bd (X3_unsynced y10) (fun x11 => pu x11)))) (it (i1 = 6) (bd (gR 11 0 a0) (fun y12 => bd (ck 4 y12) (fun _ => bd (X1_size y12) (fun x13 => pu x13)))) (it (i1 = 7) (bd (gR 11 7 a0) (fun y14 => bd (gI 9 2 y14) (fun x15 => pu x15))) (it (i1 = 8) (bd (gR 11 7 a0) (fun y16 => bd (gI 9 3 y16) (fun x17 => pu x17))) (it (i1 = 9) (bd (gR 11 7 a0) (fun y18 => bd (gI 9 4 y18) (fun x19 => pu x19))) (it (i1 = 10) (bd (gR 11 7 a0) (fun y20 => bd (gI 9 5 y20) (fun x21 => pu x21))) (bd (gI 11 8 a0) (fun x22 => it (x22 = 0) (pu (-1)) (bd (ck 11 a0) (fun _ => bd (X8_lookInside a0 i1) (fun x23 => pu x23)))))))))))))))
section
variable {G : Gx} {p : Program} {l : Launch} {e : Env} {R : Room} {s : State} {m : MethodId} {args : Array Value} {below : List Frame} {meth : Method} {c : Code} {h0 : Hp} {r : Int32} {h' : Hp}
end
set_option maxRecDepth 20000 in
theorem con_X8_look (l : Launch) (G : Gx) (a0 : Nat) (i1 : Int32) : Con G rvI l yX8_look cX8_look 2 (some .int) 6 130 [.ref a0, .int i1] (X8_look a0 i1) := by
  refine con_of (lv := [(0, .ref a0), (1, .int i1)]) (by decide) (Nat.le_of_ble_eq_true rfl) rfl (fun p e R s m args below meth c h0 r h' C hF hO hr hm => ?_)
  refine s_iload_n C 1 dX8_look_0 rfl rfl ?_
  refine s_tableIn (v := 0) (q := 0) (off := 59) (tgt := 60) C dX8_look_1 (by decide) (by decide) (by decide) (by decide) (by decide) ?_ (fun hx0 => ?_)
  · refine s_aload_n C 0 dX8_look_60 rfl rfl ?_
    refine s_gI C ci11 8 (by decide) (Or.inl wd_2_96) dX8_look_61 (fun x1 => ?_)
    refine s_if_eq (tgt := 71) C dX8_look_64 (by decide) ?_ ?_
    · refine s_iconst (v := 0) C dX8_look_71 (by decide) ?_
      exact s_iret C hr rfl dX8_look_72
    refine s_iconst (v := 1) C dX8_look_67 (by decide) ?_
    refine s_goto (tgt := 72) C dX8_look_68 (by decide) ?_
    exact s_iret C hr rfl dX8_look_72
  refine s_tableIn (v := 1) (q := 1) (off := 72) (tgt := 73) C dX8_look_1 (by decide) (by decide) (by decide) (by decide) (by decide) ?_ (fun hx1 => ?_)
  · refine s_aload_n C 0 dX8_look_73 rfl rfl ?_
    refine s_gR C ci11 4 (by decide) (Or.inl wd_2_92) dX8_look_74 (fun y2 => ?_)
    refine s_gI C ci6 4 (by decide) (Or.inr (Or.inr ⟨_, wd_1_92⟩)) dX8_look_77 (fun x3 => ?_)
    exact s_iret C hr rfl dX8_look_80
  refine s_tableIn (v := 2) (q := 2) (off := 80) (tgt := 81) C dX8_look_1 (by decide) (by decide) (by decide) (by decide) (by decide) ?_ (fun hx2 => ?_)
  · refine s_aload_n C 0 dX8_look_81 rfl rfl ?_
    refine s_gR C ci11 4 (by decide) (Or.inl wd_2_92) dX8_look_82 (fun y4 => ?_)
    refine s_gI C ci6 5 (by decide) (Or.inr (Or.inr ⟨_, wd_1_95⟩)) dX8_look_85 (fun x5 => ?_)
    exact s_iret C hr rfl dX8_look_88
  refine s_tableIn (v := 3) (q := 3) (off := 88) (tgt := 89) C dX8_look_1 (by decide) (by decide) (by decide) (by decide) (by decide) ?_ (fun hx3 => ?_)
  · refine s_aload_n C 0 dX8_look_89 rfl rfl ?_
    refine s_gR C ci11 4 (by decide) (Or.inl wd_2_92) dX8_look_90 (fun y6 => ?_)
    refine s_invV_i C ci6 cy_X3_count (Or.inl wd_2_171) rfl wd_2_172 wd_2_173 (con_X3_count l G y6) rfl rfl (Nat.le_of_ble_eq_true rfl) (by rw [hF]; decide) (by rw [hO]; exact Nat.le_of_ble_eq_true rfl) dX8_look_93 (fun x7 => ?_)
    exact s_iret C hr rfl dX8_look_96
  refine s_tableIn (v := 4) (q := 4) (off := 96) (tgt := 97) C dX8_look_1 (by decide) (by decide) (by decide) (by decide) (by decide) ?_ (fun hx4 => ?_)
  · refine s_aload_n C 0 dX8_look_97 rfl rfl ?_
    refine s_gR C ci11 4 (by decide) (Or.inl wd_2_92) dX8_look_98 (fun y8 => ?_)
    refine s_invV_i C ci6 cy_X3_room (Or.inl wd_2_175) rfl wd_2_176 wd_2_177 (con_X3_room l G y8) rfl rfl (Nat.le_of_ble_eq_true rfl) (by rw [hF]; decide) (by rw [hO]; exact Nat.le_of_ble_eq_true rfl) dX8_look_101 (fun x9 => ?_)
    exact s_iret C hr rfl dX8_look_104
  refine s_tableIn (v := 5) (q := 5) (off := 104) (tgt := 105) C dX8_look_1 (by decide) (by decide) (by decide) (by decide) (by decide) ?_ (fun hx5 => ?_)
  · refine s_aload_n C 0 dX8_look_105 rfl rfl ?_
    refine s_gR C ci11 4 (by decide) (Or.inl wd_2_92) dX8_look_106 (fun y10 => ?_)
    refine s_invV_i C ci6 cy_X3_unsynced (Or.inl wd_2_180) rfl wd_2_181 wd_2_182 (con_X3_unsynced l G y10) rfl rfl (Nat.le_of_ble_eq_true rfl) (by rw [hF]; decide) (by rw [hO]; exact Nat.le_of_ble_eq_true rfl) dX8_look_109 (fun x11 => ?_)
    exact s_iret C hr rfl dX8_look_112
  refine s_tableIn (v := 6) (q := 6) (off := 112) (tgt := 113) C dX8_look_1 (by decide) (by decide) (by decide) (by decide) (by decide) ?_ (fun hx6 => ?_)
  · refine s_aload_n C 0 dX8_look_113 rfl rfl ?_
    refine s_gR C ci11 0 (by decide) (Or.inl wd_2_88) dX8_look_114 (fun y12 => ?_)
    refine s_invV_i C ci4 cy_X1_size (Or.inl wd_2_146) rfl wd_2_147 wd_2_148 (con_X1_size l G y12) rfl rfl (Nat.le_of_ble_eq_true rfl) (by rw [hF]; decide) (by rw [hO]; exact Nat.le_of_ble_eq_true rfl) dX8_look_117 (fun x13 => ?_)
    exact s_iret C hr rfl dX8_look_120
  refine s_tableIn (v := 7) (q := 7) (off := 120) (tgt := 121) C dX8_look_1 (by decide) (by decide) (by decide) (by decide) (by decide) ?_ (fun hx7 => ?_)
  · refine s_aload_n C 0 dX8_look_121 rfl rfl ?_
    refine s_gR C ci11 7 (by decide) (Or.inl wd_2_95) dX8_look_122 (fun y14 => ?_)
    refine s_gI C ci9 2 (by decide) (Or.inr (Or.inr ⟨_, wd_1_180⟩)) dX8_look_125 (fun x15 => ?_)
    exact s_iret C hr rfl dX8_look_128
  refine s_tableIn (v := 8) (q := 8) (off := 128) (tgt := 129) C dX8_look_1 (by decide) (by decide) (by decide) (by decide) (by decide) ?_ (fun hx8 => ?_)
  · refine s_aload_n C 0 dX8_look_129 rfl rfl ?_
    refine s_gR C ci11 7 (by decide) (Or.inl wd_2_95) dX8_look_130 (fun y16 => ?_)
    refine s_gI C ci9 3 (by decide) (Or.inr (Or.inr ⟨_, wd_1_182⟩)) dX8_look_133 (fun x17 => ?_)
    exact s_iret C hr rfl dX8_look_136
  refine s_tableIn (v := 9) (q := 9) (off := 136) (tgt := 137) C dX8_look_1 (by decide) (by decide) (by decide) (by decide) (by decide) ?_ (fun hx9 => ?_)
  · refine s_aload_n C 0 dX8_look_137 rfl rfl ?_
    refine s_gR C ci11 7 (by decide) (Or.inl wd_2_95) dX8_look_138 (fun y18 => ?_)
    refine s_gI C ci9 4 (by decide) (Or.inr (Or.inr ⟨_, wd_1_184⟩)) dX8_look_141 (fun x19 => ?_)
    exact s_iret C hr rfl dX8_look_144
  refine s_tableIn (v := 10) (q := 10) (off := 144) (tgt := 145) C dX8_look_1 (by decide) (by decide) (by decide) (by decide) (by decide) ?_ (fun hx10 => ?_)
  · refine s_aload_n C 0 dX8_look_145 rfl rfl ?_
    refine s_gR C ci11 7 (by decide) (Or.inl wd_2_95) dX8_look_146 (fun y20 => ?_)
    refine s_gI C ci9 5 (by decide) (Or.inr (Or.inr ⟨_, wd_1_186⟩)) dX8_look_149 (fun x21 => ?_)
    exact s_iret C hr rfl dX8_look_152
  refine s_tableOut (tgt := 153) C dX8_look_1 (by have q0 : i1.toInt ≠ 0 := fun q => hx0 (Int32.toInt_inj.mp q); have q1 : i1.toInt ≠ 1 := fun q => hx1 (Int32.toInt_inj.mp q); have q2 : i1.toInt ≠ 2 := fun q => hx2 (Int32.toInt_inj.mp q); have q3 : i1.toInt ≠ 3 := fun q => hx3 (Int32.toInt_inj.mp q); have q4 : i1.toInt ≠ 4 := fun q => hx4 (Int32.toInt_inj.mp q); have q5 : i1.toInt ≠ 5 := fun q => hx5 (Int32.toInt_inj.mp q); have q6 : i1.toInt ≠ 6 := fun q => hx6 (Int32.toInt_inj.mp q); have q7 : i1.toInt ≠ 7 := fun q => hx7 (Int32.toInt_inj.mp q); have q8 : i1.toInt ≠ 8 := fun q => hx8 (Int32.toInt_inj.mp q); have q9 : i1.toInt ≠ 9 := fun q => hx9 (Int32.toInt_inj.mp q); have q10 : i1.toInt ≠ 10 := fun q => hx10 (Int32.toInt_inj.mp q); omega) (by decide) ?_
  refine s_aload_n C 0 dX8_look_153 rfl rfl ?_
  refine s_gI C ci11 8 (by decide) (Or.inl wd_2_96) dX8_look_154 (fun x22 => ?_)
  refine s_if_eq (tgt := 168) C dX8_look_157 (by decide) ?_ ?_
  · refine s_iconst (v := (-1)) C dX8_look_168 (by decide) ?_
    exact s_iret C hr rfl dX8_look_169
  refine s_aload_n C 0 dX8_look_160 rfl rfl ?_
  refine s_iload_n C 1 dX8_look_161 rfl rfl ?_
  refine s_invV_i C ci11 cy_X8_lookInside (Or.inl wd_2_184) rfl wd_2_186 wp_7 (con_X8_lookInside l G a0 i1) rfl rfl (Nat.le_of_ble_eq_true rfl) (by rw [hF]; decide) (by rw [hO]; exact Nat.le_of_ble_eq_true rfl) dX8_look_162 (fun x23 => ?_)
  refine s_goto (tgt := 169) C dX8_look_165 (by decide) ?_
  exact s_iret C hr rfl dX8_look_169

theorem dX8_takeTape_0 : decode cX8_takeTape 0 = .ok (.aload_n 0, 1) := by decide +kernel
theorem dX8_takeTape_1 : decode cX8_takeTape 1 = .ok (.getfield 16, 3) := by decide +kernel
theorem dX8_takeTape_4 : decode cX8_takeTape 4 = .ok (.invokevirtual 136, 3) := by decide +kernel
theorem dX8_takeTape_7 : decode cX8_takeTape 7 = .ok (.aload_n 0, 1) := by decide +kernel
theorem dX8_takeTape_8 : decode cX8_takeTape 8 = .ok (.getfield 16, 3) := by decide +kernel
theorem dX8_takeTape_11 : decode cX8_takeTape 11 = .ok (.aload_n 0, 1) := by decide +kernel
theorem dX8_takeTape_12 : decode cX8_takeTape 12 = .ok (.getfield 10, 3) := by decide +kernel
theorem dX8_takeTape_15 : decode cX8_takeTape 15 = .ok (.iconst 0, 1) := by decide +kernel
theorem dX8_takeTape_16 : decode cX8_takeTape 16 = .ok (.aload_n 0, 1) := by decide +kernel
theorem dX8_takeTape_17 : decode cX8_takeTape 17 = .ok (.getfield 10, 3) := by decide +kernel
theorem dX8_takeTape_20 : decode cX8_takeTape 20 = .ok (.invokevirtual 70, 3) := by decide +kernel
theorem dX8_takeTape_23 : decode cX8_takeTape 23 = .ok (.invokevirtual 168, 3) := by decide +kernel
theorem dX8_takeTape_26 : decode cX8_takeTape 26 = .ok (.aload_n 0, 1) := by decide +kernel
theorem dX8_takeTape_27 : decode cX8_takeTape 27 = .ok (.getfield 10, 3) := by decide +kernel
theorem dX8_takeTape_30 : decode cX8_takeTape 30 = .ok (.invokevirtual 136, 3) := by decide +kernel
theorem dX8_takeTape_33 : decode cX8_takeTape 33 = .ok (.return_, 1) := by decide +kernel
def X8_takeTape (a0 : Nat) : M Unit := bd (gR 11 1 a0) (fun y1 => bd (ck 4 y1) (fun _ => bd (X1_clear y1) (fun _ => bd (gR 11 1 a0) (fun y2 => bd (gR 11 0 a0) (fun y3 => bd (gR 11 0 a0) (fun y4 => bd (ck 4 y4) (fun _ => bd (X1_size y4) (fun x5 => bd (ck 4 y2) (fun _ => bd (X1_addPart y2 y3 0 x5) (fun _ => bd (gR 11 0 a0) (fun y6 => bd (ck 4 y6) (fun _ => bd (X1_clear y6) (fun _ => pu ())))))))))))))
section
variable {G : Gx} {p : Program} {l : Launch} {e : Env} {R : Room} {s : State} {m : MethodId} {args : Array Value} {below : List Frame} {meth : Method} {c : Code} {h0 : Hp} {r : Unit} {h' : Hp}
end
set_option maxRecDepth 20000 in
theorem con_X8_takeTape (l : Launch) (G : Gx) (a0 : Nat) : Con G rvU l yX8_takeTape cX8_takeTape 1 none 4 166 [.ref a0] (X8_takeTape a0) := by
  refine con_of (lv := [(0, .ref a0)]) (by decide) (Nat.le_of_ble_eq_true rfl) rfl (fun p e R s m args below meth c h0 r h' C hF hO hr hm => ?_)
  refine s_aload_n C 0 dX8_takeTape_0 rfl rfl ?_
  refine s_gR C ci11 1 (by decide) (Or.inl wd_2_89) dX8_takeTape_1 (fun y1 => ?_)
  refine s_invV_u C ci4 cy_X1_clear (Or.inl wd_2_64) rfl wd_2_65 wd_2_66 (con_X1_clear l G y1) rfl rfl (Nat.le_of_ble_eq_true rfl) (by rw [hF]; decide) (by rw [hO]; exact Nat.le_of_ble_eq_true rfl) dX8_takeTape_4 ?_
  refine s_aload_n C 0 dX8_takeTape_7 rfl rfl ?_
  refine s_gR C ci11 1 (by decide) (Or.inl wd_2_89) dX8_takeTape_8 (fun y2 => ?_)
  refine s_aload_n C 0 dX8_takeTape_11 rfl rfl ?_
  refine s_gR C ci11 0 (by decide) (Or.inl wd_2_88) dX8_takeTape_12 (fun y3 => ?_)
  refine s_iconst (v := 0) C dX8_takeTape_15 (by decide) ?_
  refine s_aload_n C 0 dX8_takeTape_16 rfl rfl ?_
  refine s_gR C ci11 0 (by decide) (Or.inl wd_2_88) dX8_takeTape_17 (fun y4 => ?_)
  refine s_invV_i C ci4 cy_X1_size (Or.inl wd_2_146) rfl wd_2_147 wd_2_148 (con_X1_size l G y4) rfl rfl (Nat.le_of_ble_eq_true rfl) (by rw [hF]; decide) (by rw [hO]; exact Nat.le_of_ble_eq_true rfl) dX8_takeTape_20 (fun x5 => ?_)
  refine s_invV_u C ci4 cy_X1_addPart (Or.inl wd_3_114) rfl wd_3_115 wd_3_116 (con_X1_addPart l G y2 y3 0 x5) rfl rfl (Nat.le_of_ble_eq_true rfl) (by rw [hF]; decide) (by rw [hO]; exact Nat.le_of_ble_eq_true rfl) dX8_takeTape_23 ?_
  refine s_aload_n C 0 dX8_takeTape_26 rfl rfl ?_
  refine s_gR C ci11 0 (by decide) (Or.inl wd_2_88) dX8_takeTape_27 (fun y6 => ?_)
  refine s_invV_u C ci4 cy_X1_clear (Or.inl wd_2_64) rfl wd_2_65 wd_2_66 (con_X1_clear l G y6) rfl rfl (Nat.le_of_ble_eq_true rfl) (by rw [hF]; decide) (by rw [hO]; exact Nat.le_of_ble_eq_true rfl) dX8_takeTape_30 ?_
  exact s_vret C hr rfl dX8_takeTape_33

theorem dX8_isFull_0 : decode cX8_isFull 0 = .ok (.iload_n 1, 1) := by decide +kernel
theorem dX8_isFull_1 : decode cX8_isFull 1 = .ok (.aload_n 0, 1) := by decide +kernel
theorem dX8_isFull_2 : decode cX8_isFull 2 = .ok (.getfield 28, 3) := by decide +kernel
theorem dX8_isFull_5 : decode cX8_isFull 5 = .ok (.invokevirtual 228, 3) := by decide +kernel
theorem dX8_isFull_8 : decode cX8_isFull 8 = .ok (.aload_n 0, 1) := by decide +kernel
theorem dX8_isFull_9 : decode cX8_isFull 9 = .ok (.getfield 44, 3) := by decide +kernel
theorem dX8_isFull_12 : decode cX8_isFull 12 = .ok (.getfield 296, 3) := by decide +kernel
theorem dX8_isFull_15 : decode cX8_isFull 15 = .ok (.isub, 1) := by decide +kernel
theorem dX8_isFull_16 : decode cX8_isFull 16 = .ok (.if_icmp .gt 13, 3) := by decide +kernel
theorem dX8_isFull_19 : decode cX8_isFull 19 = .ok (.aload_n 0, 1) := by decide +kernel
theorem dX8_isFull_20 : decode cX8_isFull 20 = .ok (.getfield 107, 3) := by decide +kernel
theorem dX8_isFull_23 : decode cX8_isFull 23 = .ok (.ldc_w 311, 3) := by decide +kernel
theorem dX8_isFull_26 : decode cX8_isFull 26 = .ok (.if_icmp .le 7, 3) := by decide +kernel
theorem dX8_isFull_29 : decode cX8_isFull 29 = .ok (.iconst 1, 1) := by decide +kernel
theorem dX8_isFull_30 : decode cX8_isFull 30 = .ok (.goto 4, 3) := by decide +kernel
theorem dX8_isFull_33 : decode cX8_isFull 33 = .ok (.iconst 0, 1) := by decide +kernel
theorem dX8_isFull_34 : decode cX8_isFull 34 = .ok (.ireturn, 1) := by decide +kernel
def X8_isFull_b29    : M Int32 := pu 1
def X8_isFull (a0 : Nat) (i1 : Int32) : M Int32 := bd (gR 11 4 a0) (fun y1 => bd (ck 6 y1) (fun _ => bd (X3_room y1) (fun x2 => bd (gR 11 6 a0) (fun y3 => bd (gI 8 9 y3) (fun x4 => it ((x2 - x4) < i1) (X8_isFull_b29   ) (bd (gI 11 10 a0) (fun x5 => it (x5 ≤ 1000000000) (pu 0) (X8_isFull_b29   ))))))))
section
variable {G : Gx} {p : Program} {l : Launch} {e : Env} {R : Room} {s : State} {m : MethodId} {args : Array Value} {below : List Frame} {meth : Method} {c : Code} {h0 : Hp} {r : Int32} {h' : Hp}
set_option maxRecDepth 20000 in
theorem X8_isFull_b29_s (C : Cx G p R s m args meth c cX8_isFull 2 yX8_isFull.cls h0 h') (hF : R.frames = 4) (hO : R.locals = 86) (hr : meth.sig.returnType = (some .boolean)) (hm : meth.name = yX8_isFull.name)    : Sm G (QM G rvI below args s h0 r h') p l e R s m args below meth c 2 h0 r h' 29 [] [] (X8_isFull_b29   ) := by
  refine s_iconst (v := 1) C dX8_isFull_29 (by decide) ?_
  refine s_goto (tgt := 34) C dX8_isFull_30 (by decide) ?_
  exact s_zret C hr rfl (Or.inr rfl) dX8_isFull_34
end
set_option maxRecDepth 20000 in
theorem con_X8_isFull (l : Launch) (G : Gx) (a0 : Nat) (i1 : Int32) : Con G rvI l yX8_isFull cX8_isFull 2 (some .boolean) 4 86 [.ref a0, .int i1] (X8_isFull a0 i1) := by
  refine con_of (lv := [(0, .ref a0), (1, .int i1)]) (by decide) (Nat.le_of_ble_eq_true rfl) rfl (fun p e R s m args below meth c h0 r h' C hF hO hr hm => ?_)
  refine s_iload_n C 1 dX8_isFull_0 rfl rfl ?_
  refine s_aload_n C 0 dX8_isFull_1 rfl rfl ?_
  refine s_gR C ci11 4 (by decide) (Or.inl wd_2_92) dX8_isFull_2 (fun y1 => ?_)
  refine s_invV_i C ci6 cy_X3_room (Or.inl wd_2_175) rfl wd_2_176 wd_2_177 (con_X3_room l G y1) rfl rfl (Nat.le_of_ble_eq_true rfl) (by rw [hF]; decide) (by rw [hO]; exact Nat.le_of_ble_eq_true rfl) dX8_isFull_5 (fun x2 => ?_)
  refine s_aload_n C 0 dX8_isFull_8 rfl rfl ?_
  refine s_gR C ci11 6 (by decide) (Or.inl wd_2_94) dX8_isFull_9 (fun y3 => ?_)
  refine s_gI C ci8 9 (by decide) (Or.inr (Or.inr ⟨_, wd_1_149⟩)) dX8_isFull_12 (fun x4 => ?_)
  refine s_isub C dX8_isFull_15 ?_
  refine s_icmp_gt (tgt := 29) C dX8_isFull_16 (by decide) ?_ ?_
  · refine s_sub [] rfl ?_
    exact X8_isFull_b29_s C hF hO hr hm   
  refine s_aload_n C 0 dX8_isFull_19 rfl rfl ?_
  refine s_gI C ci11 10 (by decide) (Or.inl wd_2_98) dX8_isFull_20 (fun x5 => ?_)
  refine s_ldcw C dX8_isFull_23 wd_3_141 ?_
  refine s_icmp_le (tgt := 33) C dX8_isFull_26 (by decide) ?_ ?_
  · refine s_iconst (v := 0) C dX8_isFull_33 (by decide) ?_
    exact s_zret C hr rfl (Or.inl rfl) dX8_isFull_34
  refine s_sub [] rfl ?_
  exact X8_isFull_b29_s C hF hO hr hm   

theorem dX8_write_0 : decode cX8_write 0 = .ok (.aload_n 0, 1) := by decide +kernel
theorem dX8_write_1 : decode cX8_write 1 = .ok (.getfield 22, 3) := by decide +kernel
theorem dX8_write_4 : decode cX8_write 4 = .ok (.invokevirtual 136, 3) := by decide +kernel
theorem dX8_write_7 : decode cX8_write 7 = .ok (.aload_n 0, 1) := by decide +kernel
theorem dX8_write_8 : decode cX8_write 8 = .ok (.getfield 22, 3) := by decide +kernel
theorem dX8_write_11 : decode cX8_write 11 = .ok (.iconst 0, 1) := by decide +kernel
theorem dX8_write_12 : decode cX8_write 12 = .ok (.invokevirtual 312, 3) := by decide +kernel
theorem dX8_write_15 : decode cX8_write 15 = .ok (.aload_n 0, 1) := by decide +kernel
theorem dX8_write_16 : decode cX8_write 16 = .ok (.getfield 22, 3) := by decide +kernel
theorem dX8_write_19 : decode cX8_write 19 = .ok (.aload_n 0, 1) := by decide +kernel
theorem dX8_write_20 : decode cX8_write 20 = .ok (.getfield 107, 3) := by decide +kernel
theorem dX8_write_23 : decode cX8_write 23 = .ok (.invokevirtual 312, 3) := by decide +kernel
theorem dX8_write_26 : decode cX8_write 26 = .ok (.aload_n 0, 1) := by decide +kernel
theorem dX8_write_27 : decode cX8_write 27 = .ok (.getfield 22, 3) := by decide +kernel
theorem dX8_write_30 : decode cX8_write 30 = .ok (.iload_n 1, 1) := by decide +kernel
theorem dX8_write_31 : decode cX8_write 31 = .ok (.invokevirtual 315, 3) := by decide +kernel
theorem dX8_write_34 : decode cX8_write 34 = .ok (.aload_n 0, 1) := by decide +kernel
theorem dX8_write_35 : decode cX8_write 35 = .ok (.getfield 22, 3) := by decide +kernel
theorem dX8_write_38 : decode cX8_write 38 = .ok (.iload_n 2, 1) := by decide +kernel
theorem dX8_write_39 : decode cX8_write 39 = .ok (.invokevirtual 312, 3) := by decide +kernel
theorem dX8_write_42 : decode cX8_write 42 = .ok (.aload_n 0, 1) := by decide +kernel
theorem dX8_write_43 : decode cX8_write 43 = .ok (.getfield 22, 3) := by decide +kernel
theorem dX8_write_46 : decode cX8_write 46 = .ok (.aload_n 0, 1) := by decide +kernel
theorem dX8_write_47 : decode cX8_write 47 = .ok (.getfield 16, 3) := by decide +kernel
theorem dX8_write_50 : decode cX8_write 50 = .ok (.iconst 0, 1) := by decide +kernel
theorem dX8_write_51 : decode cX8_write 51 = .ok (.aload_n 0, 1) := by decide +kernel
theorem dX8_write_52 : decode cX8_write 52 = .ok (.getfield 16, 3) := by decide +kernel
theorem dX8_write_55 : decode cX8_write 55 = .ok (.invokevirtual 70, 3) := by decide +kernel
theorem dX8_write_58 : decode cX8_write 58 = .ok (.invokevirtual 168, 3) := by decide +kernel
theorem dX8_write_61 : decode cX8_write 61 = .ok (.aload_n 0, 1) := by decide +kernel
theorem dX8_write_62 : decode cX8_write 62 = .ok (.getfield 22, 3) := by decide +kernel
theorem dX8_write_65 : decode cX8_write 65 = .ok (.iconst 0, 1) := by decide +kernel
theorem dX8_write_66 : decode cX8_write 66 = .ok (.aload_n 0, 1) := by decide +kernel
theorem dX8_write_67 : decode cX8_write 67 = .ok (.getfield 22, 3) := by decide +kernel
theorem dX8_write_70 : decode cX8_write 70 = .ok (.iconst 4, 1) := by decide +kernel
theorem dX8_write_71 : decode cX8_write 71 = .ok (.aload_n 0, 1) := by decide +kernel
theorem dX8_write_72 : decode cX8_write 72 = .ok (.getfield 22, 3) := by decide +kernel
theorem dX8_write_75 : decode cX8_write 75 = .ok (.invokevirtual 70, 3) := by decide +kernel
theorem dX8_write_78 : decode cX8_write 78 = .ok (.invokevirtual 318, 3) := by decide +kernel
theorem dX8_write_81 : decode cX8_write 81 = .ok (.invokevirtual 321, 3) := by decide +kernel
theorem dX8_write_84 : decode cX8_write 84 = .ok (.aload_n 0, 1) := by decide +kernel
theorem dX8_write_85 : decode cX8_write 85 = .ok (.dup, 1) := by decide +kernel
theorem dX8_write_86 : decode cX8_write 86 = .ok (.getfield 107, 3) := by decide +kernel
theorem dX8_write_89 : decode cX8_write 89 = .ok (.iconst 1, 1) := by decide +kernel
theorem dX8_write_90 : decode cX8_write 90 = .ok (.iadd, 1) := by decide +kernel
theorem dX8_write_91 : decode cX8_write 91 = .ok (.putfield 107, 3) := by decide +kernel
theorem dX8_write_94 : decode cX8_write 94 = .ok (.aload_n 0, 1) := by decide +kernel
theorem dX8_write_95 : decode cX8_write 95 = .ok (.getfield 28, 3) := by decide +kernel
theorem dX8_write_98 : decode cX8_write 98 = .ok (.aload_n 0, 1) := by decide +kernel
theorem dX8_write_99 : decode cX8_write 99 = .ok (.getfield 118, 3) := by decide +kernel
theorem dX8_write_102 : decode cX8_write 102 = .ok (.iconst 0, 1) := by decide +kernel
theorem dX8_write_103 : decode cX8_write 103 = .ok (.invokevirtual 324, 3) := by decide +kernel
theorem dX8_write_106 : decode cX8_write 106 = .ok (.istore_n 3, 1) := by decide +kernel
theorem dX8_write_107 : decode cX8_write 107 = .ok (.aload_n 0, 1) := by decide +kernel
theorem dX8_write_108 : decode cX8_write 108 = .ok (.getfield 118, 3) := by decide +kernel
theorem dX8_write_111 : decode cX8_write 111 = .ok (.iconst (-1), 1) := by decide +kernel
theorem dX8_write_112 : decode cX8_write 112 = .ok (.if_icmp .eq 22, 3) := by decide +kernel
theorem dX8_write_115 : decode cX8_write 115 = .ok (.iload_n 3, 1) := by decide +kernel
theorem dX8_write_116 : decode cX8_write 116 = .ok (.aload_n 0, 1) := by decide +kernel
theorem dX8_write_117 : decode cX8_write 117 = .ok (.getfield 22, 3) := by decide +kernel
theorem dX8_write_120 : decode cX8_write 120 = .ok (.invokevirtual 70, 3) := by decide +kernel
theorem dX8_write_123 : decode cX8_write 123 = .ok (.iadd, 1) := by decide +kernel
theorem dX8_write_124 : decode cX8_write 124 = .ok (.aload_n 0, 1) := by decide +kernel
theorem dX8_write_125 : decode cX8_write 125 = .ok (.getfield 28, 3) := by decide +kernel
theorem dX8_write_128 : decode cX8_write 128 = .ok (.getfield 274, 3) := by decide +kernel
theorem dX8_write_131 : decode cX8_write 131 = .ok (.if_icmp .le 16, 3) := by decide +kernel
theorem dX8_write_134 : decode cX8_write 134 = .ok (.aload_n 0, 1) := by decide +kernel
theorem dX8_write_135 : decode cX8_write 135 = .ok (.aload_n 0, 1) := by decide +kernel
theorem dX8_write_136 : decode cX8_write 136 = .ok (.getfield 28, 3) := by decide +kernel
theorem dX8_write_139 : decode cX8_write 139 = .ok (.invokevirtual 327, 3) := by decide +kernel
theorem dX8_write_142 : decode cX8_write 142 = .ok (.putfield 118, 3) := by decide +kernel
theorem dX8_write_145 : decode cX8_write 145 = .ok (.iconst 0, 1) := by decide +kernel
theorem dX8_write_146 : decode cX8_write 146 = .ok (.istore_n 3, 1) := by decide +kernel
theorem dX8_write_147 : decode cX8_write 147 = .ok (.aload_n 0, 1) := by decide +kernel
theorem dX8_write_148 : decode cX8_write 148 = .ok (.getfield 28, 3) := by decide +kernel
theorem dX8_write_151 : decode cX8_write 151 = .ok (.aload_n 0, 1) := by decide +kernel
theorem dX8_write_152 : decode cX8_write 152 = .ok (.getfield 118, 3) := by decide +kernel
theorem dX8_write_155 : decode cX8_write 155 = .ok (.iconst 0, 1) := by decide +kernel
theorem dX8_write_156 : decode cX8_write 156 = .ok (.aload_n 0, 1) := by decide +kernel
theorem dX8_write_157 : decode cX8_write 157 = .ok (.getfield 22, 3) := by decide +kernel
theorem dX8_write_160 : decode cX8_write 160 = .ok (.iconst 0, 1) := by decide +kernel
theorem dX8_write_161 : decode cX8_write 161 = .ok (.aload_n 0, 1) := by decide +kernel
theorem dX8_write_162 : decode cX8_write 162 = .ok (.getfield 22, 3) := by decide +kernel
theorem dX8_write_165 : decode cX8_write 165 = .ok (.invokevirtual 70, 3) := by decide +kernel
theorem dX8_write_168 : decode cX8_write 168 = .ok (.invokevirtual 330, 3) := by decide +kernel
theorem dX8_write_171 : decode cX8_write 171 = .ok (.iload_n 3, 1) := by decide +kernel
theorem dX8_write_172 : decode cX8_write 172 = .ok (.ireturn, 1) := by decide +kernel
def X8_write_b147   (a0 : Nat) (i3 : Int32) : M Int32 := bd (gR 11 4 a0) (fun y1 => bd (gI 11 9 a0) (fun x2 => bd (gR 11 3 a0) (fun y3 => bd (gR 11 3 a0) (fun y4 => bd (ck 4 y4) (fun _ => bd (X1_size y4) (fun x5 => bd (ck 6 y1) (fun _ => bd (X3_append y1 x2 0 y3 0 x5) (fun _ => pu i3))))))))
def X8_write_b134   (a0 : Nat) : M Int32 := bd (gR 11 4 a0) (fun y1 => bd (ck 6 y1) (fun _ => bd (X3_takeNumber y1) (fun x2 => bd (pV 11 9 a0 (.int x2)) (fun _ => X8_write_b147   a0 0))))
def X8_write (a0 : Nat) (i1 : Int32) (i2 : Int32) : M Int32 := bd (gR 11 3 a0) (fun y1 => bd (ck 4 y1) (fun _ => bd (X1_clear y1) (fun _ => bd (gR 11 3 a0) (fun y2 => bd (ck 4 y2) (fun _ => bd (X1_addNumber y2 0) (fun _ => bd (gR 11 3 a0) (fun y3 => bd (gI 11 10 a0) (fun x4 => bd (ck 4 y3) (fun _ => bd (X1_addNumber y3 x4) (fun _ => bd (gR 11 3 a0) (fun y5 => bd (ck 4 y5) (fun _ => bd (X1_addShort y5 i1) (fun _ => bd (gR 11 3 a0) (fun y6 => bd (ck 4 y6) (fun _ => bd (X1_addNumber y6 i2) (fun _ => bd (gR 11 3 a0) (fun y7 => bd (gR 11 1 a0) (fun y8 => bd (gR 11 1 a0) (fun y9 => bd (ck 4 y9) (fun _ => bd (X1_size y9) (fun x10 => bd (ck 4 y7) (fun _ => bd (X1_addPart y7 y8 0 x10) (fun _ => bd (gR 11 3 a0) (fun y11 => bd (gR 11 3 a0) (fun y12 => bd (gR 11 3 a0) (fun y13 => bd (ck 4 y13) (fun _ => bd (X1_size y13) (fun x14 => bd (ck 4 y12) (fun _ => bd (X1_sum y12 4 x14) (fun x15 => bd (ck 4 y11) (fun _ => bd (X1_changeNumber y11 0 x15) (fun _ => bd (gI 11 10 a0) (fun x16 => bd (pV 11 10 a0 (.int (x16 + 1))) (fun _ => bd (gR 11 4 a0) (fun y17 => bd (gI 11 9 a0) (fun x18 => bd (ck 6 y17) (fun _ => bd (X3_sizeOf y17 x18 0) (fun x19 => bd (gI 11 9 a0) (fun x20 => it (x20 = (-1)) (X8_write_b134   a0) (bd (gR 11 3 a0) (fun y21 => bd (ck 4 y21) (fun _ => bd (X1_size y21) (fun x22 => bd (gR 11 4 a0) (fun y23 => bd (gI 6 5 y23) (fun x24 => it ((x19 + x22) ≤ x24) (X8_write_b147   a0 x19) (X8_write_b134   a0))))))))))))))))))))))))))))))))))))))))))))))
section
variable {G : Gx} {p : Program} {l : Launch} {e : Env} {R : Room} {s : State} {m : MethodId} {args : Array Value} {below : List Frame} {meth : Method} {c : Code} {h0 : Hp} {r : Int32} {h' : Hp}
set_option maxRecDepth 20000 in
theorem X8_write_b147_s (C : Cx G p R s m args meth c cX8_write 4 yX8_write.cls h0 h') (hF : R.frames = 9) (hO : R.locals = 282) (hr : meth.sig.returnType = (some .int)) (hm : meth.name = yX8_write.name)   (a0 : Nat) (i3 : Int32) : Sm G (QM G rvI below args s h0 r h') p l e R s m args below meth c 4 h0 r h' 147 [(0, .ref a0), (3, .int i3)] [] (X8_write_b147   a0 i3) := by
  refine s_aload_n C 0 dX8_write_147 rfl rfl ?_
  refine s_gR C ci11 4 (by decide) (Or.inl wd_2_92) dX8_write_148 (fun y1 => ?_)
  refine s_aload_n C 0 dX8_write_151 rfl rfl ?_
  refine s_gI C ci11 9 (by decide) (Or.inl wd_2_97) dX8_write_152 (fun x2 => ?_)
  refine s_iconst (v := 0) C dX8_write_155 (by decide) ?_
  refine s_aload_n C 0 dX8_write_156 rfl rfl ?_
  refine s_gR C ci11 3 (by decide) (Or.inl wd_2_91) dX8_write_157 (fun y3 => ?_)
  refine s_iconst (v := 0) C dX8_write_160 (by decide) ?_
  refine s_aload_n C 0 dX8_write_161 rfl rfl ?_
  refine s_gR C ci11 3 (by decide) (Or.inl wd_2_91) dX8_write_162 (fun y4 => ?_)
  refine s_invV_i C ci4 cy_X1_size (Or.inl wd_2_146) rfl wd_2_147 wd_2_148 (con_X1_size l G y4) rfl rfl (Nat.le_of_ble_eq_true rfl) (by rw [hF]; decide) (by rw [hO]; exact Nat.le_of_ble_eq_true rfl) dX8_write_165 (fun x5 => ?_)
  refine s_invV_u C ci6 cy_X3_append (Or.inl wd_3_192) rfl wd_3_193 wd_3_194 (con_X3_append l G y1 x2 0 y3 0 x5) rfl rfl (Nat.le_of_ble_eq_true rfl) (by rw [hF]; decide) (by rw [hO]; exact Nat.le_of_ble_eq_true rfl) dX8_write_168 ?_
  refine s_iload_n C 1 dX8_write_171 rfl rfl ?_
  exact s_iret C hr rfl dX8_write_172
set_option maxRecDepth 20000 in
theorem X8_write_b134_s (C : Cx G p R s m args meth c cX8_write 4 yX8_write.cls h0 h') (hF : R.frames = 9) (hO : R.locals = 282) (hr : meth.sig.returnType = (some .int)) (hm : meth.name = yX8_write.name)   (a0 : Nat) : Sm G (QM G rvI below args s h0 r h') p l e R s m args below meth c 4 h0 r h' 134 [(0, .ref a0)] [] (X8_write_b134   a0) := by
  refine s_aload_n C 0 dX8_write_134 rfl rfl ?_
  refine s_aload_n C 0 dX8_write_135 rfl rfl ?_
  refine s_gR C ci11 4 (by decide) (Or.inl wd_2_92) dX8_write_136 (fun y1 => ?_)
  refine s_invV_i C ci6 cy_X3_takeNumber (Or.inl wd_3_188) rfl wd_3_189 wd_3_190 (con_X3_takeNumber l G y1) rfl rfl (Nat.le_of_ble_eq_true rfl) (by rw [hF]; decide) (by rw [hO]; exact Nat.le_of_ble_eq_true rfl) dX8_write_139 (fun x2 => ?_)
  refine s_pV C ci11 9 (by decide) rfl (Or.inl wd_2_97) dX8_write_142 rfl rfl ?_
  refine s_iconst (v := 0) C dX8_write_145 (by decide) ?_
  refine s_istore_n (lv' := [(3, .int 0), (0, .ref a0)]) C dX8_write_146 rfl (by decide) rfl ?_
  refine s_sub [1, 0] rfl ?_
  exact X8_write_b147_s C hF hO hr hm   a0 0
end
set_option maxRecDepth 20000 in
theorem con_X8_write (l : Launch) (G : Gx) (a0 : Nat) (i1 : Int32) (i2 : Int32) : Con G rvI l yX8_write cX8_write 4 (some .int) 9 282 [.ref a0, .int i1, .int i2] (X8_write a0 i1 i2) := by
  refine con_of (lv := [(0, .ref a0), (1, .int i1), (2, .int i2)]) (by decide) (Nat.le_of_ble_eq_true rfl) rfl (fun p e R s m args below meth c h0 r h' C hF hO hr hm => ?_)
  refine s_aload_n C 0 dX8_write_0 rfl rfl ?_
  refine s_gR C ci11 3 (by decide) (Or.inl wd_2_91) dX8_write_1 (fun y1 => ?_)
  refine s_invV_u C ci4 cy_X1_clear (Or.inl wd_2_64) rfl wd_2_65 wd_2_66 (con_X1_clear l G y1) rfl rfl (Nat.le_of_ble_eq_true rfl) (by rw [hF]; decide) (by rw [hO]; exact Nat.le_of_ble_eq_true rfl) dX8_write_4 ?_
  refine s_aload_n C 0 dX8_write_7 rfl rfl ?_
  refine s_gR C ci11 3 (by decide) (Or.inl wd_2_91) dX8_write_8 (fun y2 => ?_)
  refine s_iconst (v := 0) C dX8_write_11 (by decide) ?_
  refine s_invV_u C ci4 cy_X1_addNumber (Or.inl wd_3_147) rfl wd_3_148 wd_3_149 (con_X1_addNumber l G y2 0) rfl rfl (Nat.le_of_ble_eq_true rfl) (by rw [hF]; decide) (by rw [hO]; exact Nat.le_of_ble_eq_true rfl) dX8_write_12 ?_
  refine s_aload_n C 0 dX8_write_15 rfl rfl ?_
  refine s_gR C ci11 3 (by decide) (Or.inl wd_2_91) dX8_write_16 (fun y3 => ?_)
  refine s_aload_n C 0 dX8_write_19 rfl rfl ?_
  refine s_gI C ci11 10 (by decide) (Or.inl wd_2_98) dX8_write_20 (fun x4 => ?_)
  refine s_invV_u C ci4 cy_X1_addNumber (Or.inl wd_3_147) rfl wd_3_148 wd_3_149 (con_X1_addNumber l G y3 x4) rfl rfl (Nat.le_of_ble_eq_true rfl) (by rw [hF]; decide) (by rw [hO]; exact Nat.le_of_ble_eq_true rfl) dX8_write_23 ?_
  refine s_aload_n C 0 dX8_write_26 rfl rfl ?_
  refine s_gR C ci11 3 (by decide) (Or.inl wd_2_91) dX8_write_27 (fun y5 => ?_)
  refine s_iload_n C 1 dX8_write_30 rfl rfl ?_
  refine s_invV_u C ci4 cy_X1_addShort (Or.inl wd_3_152) rfl wd_3_153 wd_3_154 (con_X1_addShort l G y5 i1) rfl rfl (Nat.le_of_ble_eq_true rfl) (by rw [hF]; decide) (by rw [hO]; exact Nat.le_of_ble_eq_true rfl) dX8_write_31 ?_
  refine s_aload_n C 0 dX8_write_34 rfl rfl ?_
  refine s_gR C ci11 3 (by decide) (Or.inl wd_2_91) dX8_write_35 (fun y6 => ?_)
  refine s_iload_n C 2 dX8_write_38 rfl rfl ?_
  refine s_invV_u C ci4 cy_X1_addNumber (Or.inl wd_3_147) rfl wd_3_148 wd_3_149 (con_X1_addNumber l G y6 i2) rfl rfl (Nat.le_of_ble_eq_true rfl) (by rw [hF]; decide) (by rw [hO]; exact Nat.le_of_ble_eq_true rfl) dX8_write_39 ?_
  refine s_aload_n C 0 dX8_write_42 rfl rfl ?_
  refine s_gR C ci11 3 (by decide) (Or.inl wd_2_91) dX8_write_43 (fun y7 => ?_)
  refine s_aload_n C 0 dX8_write_46 rfl rfl ?_
  refine s_gR C ci11 1 (by decide) (Or.inl wd_2_89) dX8_write_47 (fun y8 => ?_)
  refine s_iconst (v := 0) C dX8_write_50 (by decide) ?_
  refine s_aload_n C 0 dX8_write_51 rfl rfl ?_
  refine s_gR C ci11 1 (by decide) (Or.inl wd_2_89) dX8_write_52 (fun y9 => ?_)
  refine s_invV_i C ci4 cy_X1_size (Or.inl wd_2_146) rfl wd_2_147 wd_2_148 (con_X1_size l G y9) rfl rfl (Nat.le_of_ble_eq_true rfl) (by rw [hF]; decide) (by rw [hO]; exact Nat.le_of_ble_eq_true rfl) dX8_write_55 (fun x10 => ?_)
  refine s_invV_u C ci4 cy_X1_addPart (Or.inl wd_3_114) rfl wd_3_115 wd_3_116 (con_X1_addPart l G y7 y8 0 x10) rfl rfl (Nat.le_of_ble_eq_true rfl) (by rw [hF]; decide) (by rw [hO]; exact Nat.le_of_ble_eq_true rfl) dX8_write_58 ?_
  refine s_aload_n C 0 dX8_write_61 rfl rfl ?_
  refine s_gR C ci11 3 (by decide) (Or.inl wd_2_91) dX8_write_62 (fun y11 => ?_)
  refine s_iconst (v := 0) C dX8_write_65 (by decide) ?_
  refine s_aload_n C 0 dX8_write_66 rfl rfl ?_
  refine s_gR C ci11 3 (by decide) (Or.inl wd_2_91) dX8_write_67 (fun y12 => ?_)
  refine s_iconst (v := 4) C dX8_write_70 (by decide) ?_
  refine s_aload_n C 0 dX8_write_71 rfl rfl ?_
  refine s_gR C ci11 3 (by decide) (Or.inl wd_2_91) dX8_write_72 (fun y13 => ?_)
  refine s_invV_i C ci4 cy_X1_size (Or.inl wd_2_146) rfl wd_2_147 wd_2_148 (con_X1_size l G y13) rfl rfl (Nat.le_of_ble_eq_true rfl) (by rw [hF]; decide) (by rw [hO]; exact Nat.le_of_ble_eq_true rfl) dX8_write_75 (fun x14 => ?_)
  refine s_invV_i C ci4 cy_X1_sum (Or.inl wd_3_156) rfl wd_3_157 wd_3_158 (con_X1_sum l G y12 4 x14) rfl rfl (Nat.le_of_ble_eq_true rfl) (by rw [hF]; decide) (by rw [hO]; exact Nat.le_of_ble_eq_true rfl) dX8_write_78 (fun x15 => ?_)
  refine s_invV_u C ci4 cy_X1_changeNumber (Or.inl wd_3_163) rfl wd_3_164 wd_3_165 (con_X1_changeNumber l G y11 0 x15) rfl rfl (Nat.le_of_ble_eq_true rfl) (by rw [hF]; decide) (by rw [hO]; exact Nat.le_of_ble_eq_true rfl) dX8_write_81 ?_
  refine s_aload_n C 0 dX8_write_84 rfl rfl ?_
  refine s_dup C dX8_write_85 rfl ?_
  refine s_gI C ci11 10 (by decide) (Or.inl wd_2_98) dX8_write_86 (fun x16 => ?_)
  refine s_iconst (v := 1) C dX8_write_89 (by decide) ?_
  refine s_iadd C dX8_write_90 ?_
  refine s_pV C ci11 10 (by decide) rfl (Or.inl wd_2_98) dX8_write_91 rfl rfl ?_
  refine s_aload_n C 0 dX8_write_94 rfl rfl ?_
  refine s_gR C ci11 4 (by decide) (Or.inl wd_2_92) dX8_write_95 (fun y17 => ?_)
  refine s_aload_n C 0 dX8_write_98 rfl rfl ?_
  refine s_gI C ci11 9 (by decide) (Or.inl wd_2_97) dX8_write_99 (fun x18 => ?_)
  refine s_iconst (v := 0) C dX8_write_102 (by decide) ?_
  refine s_invV_i C ci6 cy_X3_sizeOf (Or.inl wd_3_171) rfl wd_3_172 wd_3_173 (con_X3_sizeOf l G y17 x18 0) rfl rfl (Nat.le_of_ble_eq_true rfl) (by rw [hF]; decide) (by rw [hO]; exact Nat.le_of_ble_eq_true rfl) dX8_write_103 (fun x19 => ?_)
  refine s_istore_n (lv' := [(3, .int x19), (0, .ref a0), (1, .int i1), (2, .int i2)]) C dX8_write_106 rfl (by decide) rfl ?_
  refine s_aload_n C 1 dX8_write_107 rfl rfl ?_
  refine s_gI C ci11 9 (by decide) (Or.inl wd_2_97) dX8_write_108 (fun x20 => ?_)
  refine s_iconst (v := (-1)) C dX8_write_111 (by decide) ?_
  refine s_icmp_eq (tgt := 134) C dX8_write_112 (by decide) ?_ ?_
  · refine s_sub [1] rfl ?_
    exact X8_write_b134_s C hF hO hr hm   a0
  refine s_iload_n C 0 dX8_write_115 rfl rfl ?_
  refine s_aload_n C 1 dX8_write_116 rfl rfl ?_
  refine s_gR C ci11 3 (by decide) (Or.inl wd_2_91) dX8_write_117 (fun y21 => ?_)
  refine s_invV_i C ci4 cy_X1_size (Or.inl wd_2_146) rfl wd_2_147 wd_2_148 (con_X1_size l G y21) rfl rfl (Nat.le_of_ble_eq_true rfl) (by rw [hF]; decide) (by rw [hO]; exact Nat.le_of_ble_eq_true rfl) dX8_write_120 (fun x22 => ?_)
  refine s_iadd C dX8_write_123 ?_
  refine s_aload_n C 1 dX8_write_124 rfl rfl ?_
  refine s_gR C ci11 4 (by decide) (Or.inl wd_2_92) dX8_write_125 (fun y23 => ?_)
  refine s_gI C ci6 5 (by decide) (Or.inr (Or.inr ⟨_, wd_1_95⟩)) dX8_write_128 (fun x24 => ?_)
  refine s_icmp_le (tgt := 147) C dX8_write_131 (by decide) ?_ ?_
  · refine s_sub [1, 0] rfl ?_
    exact X8_write_b147_s C hF hO hr hm   a0 x19
  refine s_sub [1] rfl ?_
  exact X8_write_b134_s C hF hO hr hm   a0

theorem dX8_isBad_0 : decode cX8_isBad 0 = .ok (.aload_n 0, 1) := by decide +kernel
theorem dX8_isBad_1 : decode cX8_isBad 1 = .ok (.getfield 159, 3) := by decide +kernel
theorem dX8_isBad_4 : decode cX8_isBad 4 = .ok (.aload_n 0, 1) := by decide +kernel
theorem dX8_isBad_5 : decode cX8_isBad 5 = .ok (.invokevirtual 334, 3) := by decide +kernel
theorem dX8_isBad_8 : decode cX8_isBad 8 = .ok (.iadd, 1) := by decide +kernel
theorem dX8_isBad_9 : decode cX8_isBad 9 = .ok (.istore_n 2, 1) := by decide +kernel
theorem dX8_isBad_10 : decode cX8_isBad 10 = .ok (.iload_n 2, 1) := by decide +kernel
theorem dX8_isBad_11 : decode cX8_isBad 11 = .ok (.aload_n 1, 1) := by decide +kernel
theorem dX8_isBad_12 : decode cX8_isBad 12 = .ok (.invokevirtual 70, 3) := by decide +kernel
theorem dX8_isBad_15 : decode cX8_isBad 15 = .ok (.if_icmp .gt 106, 3) := by decide +kernel
theorem dX8_isBad_18 : decode cX8_isBad 18 = .ok (.aload_n 1, 1) := by decide +kernel
theorem dX8_isBad_19 : decode cX8_isBad 19 = .ok (.aload_n 0, 1) := by decide +kernel
theorem dX8_isBad_20 : decode cX8_isBad 20 = .ok (.getfield 159, 3) := by decide +kernel
theorem dX8_isBad_23 : decode cX8_isBad 23 = .ok (.invokevirtual 337, 3) := by decide +kernel
theorem dX8_isBad_26 : decode cX8_isBad 26 = .ok (.aload_n 1, 1) := by decide +kernel
theorem dX8_isBad_27 : decode cX8_isBad 27 = .ok (.aload_n 0, 1) := by decide +kernel
theorem dX8_isBad_28 : decode cX8_isBad 28 = .ok (.getfield 159, 3) := by decide +kernel
theorem dX8_isBad_31 : decode cX8_isBad 31 = .ok (.iconst 4, 1) := by decide +kernel
theorem dX8_isBad_32 : decode cX8_isBad 32 = .ok (.iadd, 1) := by decide +kernel
theorem dX8_isBad_33 : decode cX8_isBad 33 = .ok (.iload_n 2, 1) := by decide +kernel
theorem dX8_isBad_34 : decode cX8_isBad 34 = .ok (.invokevirtual 318, 3) := by decide +kernel
theorem dX8_isBad_37 : decode cX8_isBad 37 = .ok (.if_icmp .ne 84, 3) := by decide +kernel
theorem dX8_isBad_40 : decode cX8_isBad 40 = .ok (.aload_n 1, 1) := by decide +kernel
theorem dX8_isBad_41 : decode cX8_isBad 41 = .ok (.aload_n 0, 1) := by decide +kernel
theorem dX8_isBad_42 : decode cX8_isBad 42 = .ok (.getfield 159, 3) := by decide +kernel
theorem dX8_isBad_45 : decode cX8_isBad 45 = .ok (.iconst 4, 1) := by decide +kernel
theorem dX8_isBad_46 : decode cX8_isBad 46 = .ok (.iadd, 1) := by decide +kernel
theorem dX8_isBad_47 : decode cX8_isBad 47 = .ok (.invokevirtual 337, 3) := by decide +kernel
theorem dX8_isBad_50 : decode cX8_isBad 50 = .ok (.aload_n 0, 1) := by decide +kernel
theorem dX8_isBad_51 : decode cX8_isBad 51 = .ok (.getfield 268, 3) := by decide +kernel
theorem dX8_isBad_54 : decode cX8_isBad 54 = .ok (.if_icmp .ne 67, 3) := by decide +kernel
theorem dX8_isBad_57 : decode cX8_isBad 57 = .ok (.aload_n 1, 1) := by decide +kernel
theorem dX8_isBad_58 : decode cX8_isBad 58 = .ok (.aload_n 0, 1) := by decide +kernel
theorem dX8_isBad_59 : decode cX8_isBad 59 = .ok (.getfield 159, 3) := by decide +kernel
theorem dX8_isBad_62 : decode cX8_isBad 62 = .ok (.bipush 8, 2) := by decide +kernel
theorem dX8_isBad_64 : decode cX8_isBad 64 = .ok (.iadd, 1) := by decide +kernel
theorem dX8_isBad_65 : decode cX8_isBad 65 = .ok (.invokevirtual 340, 3) := by decide +kernel
theorem dX8_isBad_68 : decode cX8_isBad 68 = .ok (.aload_n 0, 1) := by decide +kernel
theorem dX8_isBad_69 : decode cX8_isBad 69 = .ok (.getfield 162, 3) := by decide +kernel
theorem dX8_isBad_72 : decode cX8_isBad 72 = .ok (.invokevirtual 70, 3) := by decide +kernel
theorem dX8_isBad_75 : decode cX8_isBad 75 = .ok (.if_icmp .ne 46, 3) := by decide +kernel
theorem dX8_isBad_78 : decode cX8_isBad 78 = .ok (.aload_n 1, 1) := by decide +kernel
theorem dX8_isBad_79 : decode cX8_isBad 79 = .ok (.aload_n 0, 1) := by decide +kernel
theorem dX8_isBad_80 : decode cX8_isBad 80 = .ok (.getfield 159, 3) := by decide +kernel
theorem dX8_isBad_83 : decode cX8_isBad 83 = .ok (.bipush 10, 2) := by decide +kernel
theorem dX8_isBad_85 : decode cX8_isBad 85 = .ok (.iadd, 1) := by decide +kernel
theorem dX8_isBad_86 : decode cX8_isBad 86 = .ok (.invokevirtual 337, 3) := by decide +kernel
theorem dX8_isBad_89 : decode cX8_isBad 89 = .ok (.aload_n 0, 1) := by decide +kernel
theorem dX8_isBad_90 : decode cX8_isBad 90 = .ok (.getfield 165, 3) := by decide +kernel
theorem dX8_isBad_93 : decode cX8_isBad 93 = .ok (.if_icmp .ne 28, 3) := by decide +kernel
theorem dX8_isBad_96 : decode cX8_isBad 96 = .ok (.aload_n 0, 1) := by decide +kernel
theorem dX8_isBad_97 : decode cX8_isBad 97 = .ok (.getfield 162, 3) := by decide +kernel
theorem dX8_isBad_100 : decode cX8_isBad 100 = .ok (.aload_n 1, 1) := by decide +kernel
theorem dX8_isBad_101 : decode cX8_isBad 101 = .ok (.aload_n 0, 1) := by decide +kernel
theorem dX8_isBad_102 : decode cX8_isBad 102 = .ok (.getfield 159, 3) := by decide +kernel
theorem dX8_isBad_105 : decode cX8_isBad 105 = .ok (.bipush 14, 2) := by decide +kernel
theorem dX8_isBad_107 : decode cX8_isBad 107 = .ok (.iadd, 1) := by decide +kernel
theorem dX8_isBad_108 : decode cX8_isBad 108 = .ok (.aload_n 0, 1) := by decide +kernel
theorem dX8_isBad_109 : decode cX8_isBad 109 = .ok (.getfield 162, 3) := by decide +kernel
theorem dX8_isBad_112 : decode cX8_isBad 112 = .ok (.invokevirtual 70, 3) := by decide +kernel
theorem dX8_isBad_115 : decode cX8_isBad 115 = .ok (.invokevirtual 343, 3) := by decide +kernel
theorem dX8_isBad_118 : decode cX8_isBad 118 = .ok (.ifCond .eq 7, 3) := by decide +kernel
theorem dX8_isBad_121 : decode cX8_isBad 121 = .ok (.iconst 1, 1) := by decide +kernel
theorem dX8_isBad_122 : decode cX8_isBad 122 = .ok (.goto 4, 3) := by decide +kernel
theorem dX8_isBad_125 : decode cX8_isBad 125 = .ok (.iconst 0, 1) := by decide +kernel
theorem dX8_isBad_126 : decode cX8_isBad 126 = .ok (.ireturn, 1) := by decide +kernel
def X8_isBad_b121    : M Int32 := pu 1
def X8_isBad (a0 : Nat) (a1 : Nat) : M Int32 := bd (gI 10 2 a0) (fun x1 => bd (ck 10 a0) (fun _ => bd (X7_recordBytes a0) (fun x2 => bd (pu (x1 + x2)) (fun x3 => bd (ck 4 a1) (fun _ => bd (X1_size a1) (fun x4 => it (x4 < x3) (X8_isBad_b121   ) (bd (gI 10 2 a0) (fun x5 => bd (ck 4 a1) (fun _ => bd (X1_numberAt a1 x5) (fun x6 => bd (gI 10 2 a0) (fun x7 => bd (ck 4 a1) (fun _ => bd (X1_sum a1 (x7 + 4) x3) (fun x8 => it (¬ x6 = x8) (X8_isBad_b121   ) (bd (gI 10 2 a0) (fun x9 => bd (ck 4 a1) (fun _ => bd (X1_numberAt a1 (x9 + 4)) (fun x10 => bd (gI 10 4 a0) (fun x11 => it (¬ x10 = x11) (X8_isBad_b121   ) (bd (gI 10 2 a0) (fun x12 => bd (ck 4 a1) (fun _ => bd (X1_shortAt a1 (x12 + 8)) (fun x13 => bd (gR 10 0 a0) (fun y14 => bd (ck 4 y14) (fun _ => bd (X1_size y14) (fun x15 => it (¬ x13 = x15) (X8_isBad_b121   ) (bd (gI 10 2 a0) (fun x16 => bd (ck 4 a1) (fun _ => bd (X1_numberAt a1 (x16 + 10)) (fun x17 => bd (gI 10 3 a0) (fun x18 => it (¬ x17 = x18) (X8_isBad_b121   ) (bd (gR 10 0 a0) (fun y19 => bd (gI 10 2 a0) (fun x20 => bd (gR 10 0 a0) (fun y21 => bd (ck 4 y21) (fun _ => bd (X1_size y21) (fun x22 => bd (ck 4 y19) (fun _ => bd (X1_compare y19 a1 (x20 + 14) x22) (fun x23 => it (x23 = 0) (pu 0) (X8_isBad_b121   )))))))))))))))))))))))))))))))))))))))
section
variable {G : Gx} {p : Program} {l : Launch} {e : Env} {R : Room} {s : State} {m : MethodId} {args : Array Value} {below : List Frame} {meth : Method} {c : Code} {h0 : Hp} {r : Int32} {h' : Hp}
set_option maxRecDepth 20000 in
theorem X8_isBad_b121_s (C : Cx G p R s m args meth c cX8_isBad 3 yX8_isBad.cls h0 h') (hF : R.frames = 3) (hO : R.locals = 71) (hr : meth.sig.returnType = (some .boolean)) (hm : meth.name = yX8_isBad.name)    : Sm G (QM G rvI below args s h0 r h') p l e R s m args below meth c 3 h0 r h' 121 [] [] (X8_isBad_b121   ) := by
  refine s_iconst (v := 1) C dX8_isBad_121 (by decide) ?_
  refine s_goto (tgt := 126) C dX8_isBad_122 (by decide) ?_
  exact s_zret C hr rfl (Or.inr rfl) dX8_isBad_126
end
set_option maxRecDepth 20000 in
theorem con_X8_isBad (l : Launch) (G : Gx) (a0 : Nat) (a1 : Nat) : Con G rvI l yX8_isBad cX8_isBad 3 (some .boolean) 3 71 [.ref a0, .ref a1] (X8_isBad a0 a1) := by
  refine con_of (lv := [(0, .ref a0), (1, .ref a1)]) (by decide) (Nat.le_of_ble_eq_true rfl) rfl (fun p e R s m args below meth c h0 r h' C hF hO hr hm => ?_)
  refine s_aload_n C 0 dX8_isBad_0 rfl rfl ?_
  refine s_gI C ci10 2 (by decide) (Or.inr (Or.inr ⟨_, wd_5_61⟩)) dX8_isBad_1 (fun x1 => ?_)
  refine s_aload_n C 0 dX8_isBad_4 rfl rfl ?_
  refine s_invV_i C ci10 cy_X7_recordBytes (Or.inl wd_5_111) rfl wd_2_209 wd_2_210 (con_X7_recordBytes l G a0) rfl rfl (Nat.le_of_ble_eq_true rfl) (by rw [hF]; decide) (by rw [hO]; exact Nat.le_of_ble_eq_true rfl) dX8_isBad_5 (fun x2 => ?_)
  refine s_iadd C dX8_isBad_8 ?_
  refine s_let (fun x3 => ?_)
  refine s_istore_n (lv' := [(2, .int x3), (0, .ref a0), (1, .ref a1)]) C dX8_isBad_9 rfl (by decide) rfl ?_
  refine s_iload_n C 0 dX8_isBad_10 rfl rfl ?_
  refine s_aload_n C 2 dX8_isBad_11 rfl rfl ?_
  refine s_invV_i C ci4 cy_X1_size (Or.inl wd_2_146) rfl wd_2_147 wd_2_148 (con_X1_size l G a1) rfl rfl (Nat.le_of_ble_eq_true rfl) (by rw [hF]; decide) (by rw [hO]; exact Nat.le_of_ble_eq_true rfl) dX8_isBad_12 (fun x4 => ?_)
  refine s_icmp_gt (tgt := 121) C dX8_isBad_15 (by decide) ?_ ?_
  · refine s_sub [] rfl ?_
    exact X8_isBad_b121_s C hF hO hr hm   
  refine s_aload_n C 2 dX8_isBad_18 rfl rfl ?_
  refine s_aload_n C 1 dX8_isBad_19 rfl rfl ?_
  refine s_gI C ci10 2 (by decide) (Or.inr (Or.inr ⟨_, wd_5_61⟩)) dX8_isBad_20 (fun x5 => ?_)
  refine s_invV_i C ci4 cy_X1_numberAt (Or.inl wd_5_112) rfl wd_5_113 wd_5_114 (con_X1_numberAt l G a1 x5) rfl rfl (Nat.le_of_ble_eq_true rfl) (by rw [hF]; decide) (by rw [hO]; exact Nat.le_of_ble_eq_true rfl) dX8_isBad_23 (fun x6 => ?_)
  refine s_aload_n C 2 dX8_isBad_26 rfl rfl ?_
  refine s_aload_n C 1 dX8_isBad_27 rfl rfl ?_
  refine s_gI C ci10 2 (by decide) (Or.inr (Or.inr ⟨_, wd_5_61⟩)) dX8_isBad_28 (fun x7 => ?_)
  refine s_iconst (v := 4) C dX8_isBad_31 (by decide) ?_
  refine s_iadd C dX8_isBad_32 ?_
  refine s_iload_n C 0 dX8_isBad_33 rfl rfl ?_
  refine s_invV_i C ci4 cy_X1_sum (Or.inl wd_3_156) rfl wd_3_157 wd_3_158 (con_X1_sum l G a1 (x7 + 4) x3) rfl rfl (Nat.le_of_ble_eq_true rfl) (by rw [hF]; decide) (by rw [hO]; exact Nat.le_of_ble_eq_true rfl) dX8_isBad_34 (fun x8 => ?_)
  refine s_icmp_ne (tgt := 121) C dX8_isBad_37 (by decide) ?_ ?_
  · refine s_sub [] rfl ?_
    exact X8_isBad_b121_s C hF hO hr hm   
  refine s_aload_n C 2 dX8_isBad_40 rfl rfl ?_
  refine s_aload_n C 1 dX8_isBad_41 rfl rfl ?_
  refine s_gI C ci10 2 (by decide) (Or.inr (Or.inr ⟨_, wd_5_61⟩)) dX8_isBad_42 (fun x9 => ?_)
  refine s_iconst (v := 4) C dX8_isBad_45 (by decide) ?_
  refine s_iadd C dX8_isBad_46 ?_
  refine s_invV_i C ci4 cy_X1_numberAt (Or.inl wd_5_112) rfl wd_5_113 wd_5_114 (con_X1_numberAt l G a1 (x9 + 4)) rfl rfl (Nat.le_of_ble_eq_true rfl) (by rw [hF]; decide) (by rw [hO]; exact Nat.le_of_ble_eq_true rfl) dX8_isBad_47 (fun x10 => ?_)
  refine s_aload_n C 1 dX8_isBad_50 rfl rfl ?_
  refine s_gI C ci10 4 (by decide) (Or.inr (Or.inr ⟨_, wd_5_70⟩)) dX8_isBad_51 (fun x11 => ?_)
  refine s_icmp_ne (tgt := 121) C dX8_isBad_54 (by decide) ?_ ?_
  · refine s_sub [] rfl ?_
    exact X8_isBad_b121_s C hF hO hr hm   
  refine s_aload_n C 2 dX8_isBad_57 rfl rfl ?_
  refine s_aload_n C 1 dX8_isBad_58 rfl rfl ?_
  refine s_gI C ci10 2 (by decide) (Or.inr (Or.inr ⟨_, wd_5_61⟩)) dX8_isBad_59 (fun x12 => ?_)
  refine s_bipush (v := 8) C dX8_isBad_62 (by decide) ?_
  refine s_iadd C dX8_isBad_64 ?_
  refine s_invV_i C ci4 cy_X1_shortAt (Or.inl wd_5_120) rfl wd_5_117 wd_5_118 (con_X1_shortAt l G a1 (x12 + 8)) rfl rfl (Nat.le_of_ble_eq_true rfl) (by rw [hF]; decide) (by rw [hO]; exact Nat.le_of_ble_eq_true rfl) dX8_isBad_65 (fun x13 => ?_)
  refine s_aload_n C 1 dX8_isBad_68 rfl rfl ?_
  refine s_gR C ci10 0 (by decide) (Or.inr (Or.inr ⟨_, wd_5_55⟩)) dX8_isBad_69 (fun y14 => ?_)
  refine s_invV_i C ci4 cy_X1_size (Or.inl wd_2_146) rfl wd_2_147 wd_2_148 (con_X1_size l G y14) rfl rfl (Nat.le_of_ble_eq_true rfl) (by rw [hF]; decide) (by rw [hO]; exact Nat.le_of_ble_eq_true rfl) dX8_isBad_72 (fun x15 => ?_)
  refine s_icmp_ne (tgt := 121) C dX8_isBad_75 (by decide) ?_ ?_
  · refine s_sub [] rfl ?_
    exact X8_isBad_b121_s C hF hO hr hm   
  refine s_aload_n C 2 dX8_isBad_78 rfl rfl ?_
  refine s_aload_n C 1 dX8_isBad_79 rfl rfl ?_
  refine s_gI C ci10 2 (by decide) (Or.inr (Or.inr ⟨_, wd_5_61⟩)) dX8_isBad_80 (fun x16 => ?_)
  refine s_bipush (v := 10) C dX8_isBad_83 (by decide) ?_
  refine s_iadd C dX8_isBad_85 ?_
  refine s_invV_i C ci4 cy_X1_numberAt (Or.inl wd_5_112) rfl wd_5_113 wd_5_114 (con_X1_numberAt l G a1 (x16 + 10)) rfl rfl (Nat.le_of_ble_eq_true rfl) (by rw [hF]; decide) (by rw [hO]; exact Nat.le_of_ble_eq_true rfl) dX8_isBad_86 (fun x17 => ?_)
  refine s_aload_n C 1 dX8_isBad_89 rfl rfl ?_
  refine s_gI C ci10 3 (by decide) (Or.inr (Or.inr ⟨_, wd_5_64⟩)) dX8_isBad_90 (fun x18 => ?_)
  refine s_icmp_ne (tgt := 121) C dX8_isBad_93 (by decide) ?_ ?_
  · refine s_sub [] rfl ?_
    exact X8_isBad_b121_s C hF hO hr hm   
  refine s_aload_n C 1 dX8_isBad_96 rfl rfl ?_
  refine s_gR C ci10 0 (by decide) (Or.inr (Or.inr ⟨_, wd_5_55⟩)) dX8_isBad_97 (fun y19 => ?_)
  refine s_aload_n C 2 dX8_isBad_100 rfl rfl ?_
  refine s_aload_n C 1 dX8_isBad_101 rfl rfl ?_
  refine s_gI C ci10 2 (by decide) (Or.inr (Or.inr ⟨_, wd_5_61⟩)) dX8_isBad_102 (fun x20 => ?_)
  refine s_bipush (v := 14) C dX8_isBad_105 (by decide) ?_
  refine s_iadd C dX8_isBad_107 ?_
  refine s_aload_n C 1 dX8_isBad_108 rfl rfl ?_
  refine s_gR C ci10 0 (by decide) (Or.inr (Or.inr ⟨_, wd_5_55⟩)) dX8_isBad_109 (fun y21 => ?_)
  refine s_invV_i C ci4 cy_X1_size (Or.inl wd_2_146) rfl wd_2_147 wd_2_148 (con_X1_size l G y21) rfl rfl (Nat.le_of_ble_eq_true rfl) (by rw [hF]; decide) (by rw [hO]; exact Nat.le_of_ble_eq_true rfl) dX8_isBad_112 (fun x22 => ?_)
  refine s_invV_i C ci4 cy_X1_compare (Or.inl wd_5_121) rfl wd_5_40 wd_5_41 (con_X1_compare l G y19 a1 (x20 + 14) x22) rfl rfl (Nat.le_of_ble_eq_true rfl) (by rw [hF]; decide) (by rw [hO]; exact Nat.le_of_ble_eq_true rfl) dX8_isBad_115 (fun x23 => ?_)
  refine s_if_eq (tgt := 125) C dX8_isBad_118 (by decide) ?_ ?_
  · refine s_iconst (v := 0) C dX8_isBad_125 (by decide) ?_
    exact s_zret C hr rfl (Or.inl rfl) dX8_isBad_126
  refine s_sub [] rfl ?_
  exact X8_isBad_b121_s C hF hO hr hm   
