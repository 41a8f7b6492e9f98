theorem dX2_init_0 : decode cX2_init 0 = .ok (.aload_n 0, 1) := by decide +kernel
theorem dX2_init_1 : decode cX2_init 1 = .ok (.invokespecial 3, 3) := by decide +kernel
theorem dX2_init_4 : decode cX2_init 4 = .ok (.aload_n 0, 1) := by decide +kernel
theorem dX2_init_5 : decode cX2_init 5 = .ok (.new 9, 3) := by decide +kernel
theorem dX2_init_8 : decode cX2_init 8 = .ok (.dup, 1) := by decide +kernel
theorem dX2_init_9 : decode cX2_init 9 = .ok (.invokespecial 11, 3) := by decide +kernel
theorem dX2_init_12 : decode cX2_init 12 = .ok (.putfield 12, 3) := by decide +kernel
theorem dX2_init_15 : decode cX2_init 15 = .ok (.aload_n 0, 1) := by decide +kernel
theorem dX2_init_16 : decode cX2_init 16 = .ok (.new 9, 3) := by decide +kernel
theorem dX2_init_19 : decode cX2_init 19 = .ok (.dup, 1) := by decide +kernel
theorem dX2_init_20 : decode cX2_init 20 = .ok (.invokespecial 11, 3) := by decide +kernel
theorem dX2_init_23 : decode cX2_init 23 = .ok (.putfield 18, 3) := by decide +kernel
theorem dX2_init_26 : decode cX2_init 26 = .ok (.return_, 1) := by decide +kernel
def X2_init (a0 : Nat) : M Unit := bd (nw 2 3) (fun y1 => bd (Jx4a65c_init_da8c8 y1) (fun _ => bd (pV 5 0 a0 (.ref y1)) (fun _ => bd (nw 2 3) (fun y2 => bd (Jx4a65c_init_da8c8 y2) (fun _ => bd (pV 5 1 a0 (.ref y2)) (fun _ => pu ()))))))
section
variable {G : Gx} {p : Program} {l : Launch} {e : Env} {R : Room} {s : State} {m : MethodId} {args : Array Value} {below : List Frame} {meth : Method} {c : Code} {h0 : Hp} {r : Unit} {h' : Hp}
end
set_option maxRecDepth 20000 in
theorem con_X2_init (l : Launch) (G : Gx) (a0 : Nat) : Con G rvU l yX2_init cX2_init 1 none 4 90 [.ref a0] (X2_init a0) := by
  refine con_of (lv := [(0, .ref a0)]) (by decide) (Nat.le_of_ble_eq_true rfl) rfl (fun p e R s m args below meth c h0 r h' C hF hO hr hm => ?_)
  refine s_aload_n C 0 dX2_init_0 rfl rfl ?_
  refine s_obj C wd_1_119 wd_1_39 wd_1_40 (by rw [hF]; decide) (by rw [hO]; exact Nat.le_of_ble_eq_true rfl) dX2_init_1 ?_
  refine s_aload_n C 0 dX2_init_4 rfl rfl ?_
  refine s_nw C ci2 wd_1_120 wd_1_62 wd_1_6 dX2_init_5 (fun y1 => ?_)
  refine s_dup C dX2_init_8 rfl ?_
  refine s_invI_u C cy_Jx4a65c_init_da8c8 (Or.inl wd_1_121) rfl wd_1_64 (con_Jx4a65c_init_da8c8 l G y1) rfl rfl (Nat.le_of_ble_eq_true rfl) (by rw [hF]; decide) (by rw [hO]; exact Nat.le_of_ble_eq_true rfl) dX2_init_9 ?_
  refine s_pF C ci5 0 (by decide) rfl rfl hm wd_1_122 dX2_init_12 rfl rfl ?_
  refine s_aload_n C 0 dX2_init_15 rfl rfl ?_
  refine s_nw C ci2 wd_1_120 wd_1_62 wd_1_6 dX2_init_16 (fun y2 => ?_)
  refine s_dup C dX2_init_19 rfl ?_
  refine s_invI_u C cy_Jx4a65c_init_da8c8 (Or.inl wd_1_121) rfl wd_1_64 (con_Jx4a65c_init_da8c8 l G y2) rfl rfl (Nat.le_of_ble_eq_true rfl) (by rw [hF]; decide) (by rw [hO]; exact Nat.le_of_ble_eq_true rfl) dX2_init_20 ?_
  refine s_pF C ci5 1 (by decide) rfl rfl hm wd_1_123 dX2_init_23 rfl rfl ?_
  exact s_vret C hr rfl dX2_init_26

theorem dX2_count_0 : decode cX2_count 0 = .ok (.aload_n 0, 1) := by decide +kernel
theorem dX2_count_1 : decode cX2_count 1 = .ok (.getfield 12, 3) := by decide +kernel
theorem dX2_count_4 : decode cX2_count 4 = .ok (.invokevirtual 21, 3) := by decide +kernel
theorem dX2_count_7 : decode cX2_count 7 = .ok (.ireturn, 1) := by decide +kernel
def X2_count (a0 : Nat) : M Int32 := bd (gR 5 0 a0) (fun y1 => bd (ck 2 y1) (fun _ => bd (Jx4a65c_size_8abf5 y1) (fun x2 => pu x2)))
section
variable {G : Gx} {p : Program} {l : Launch} {e : Env} {R : Room} {s : State} {m : MethodId} {args : Array Value} {below : List Frame} {meth : Method} {c : Code} {h0 : Hp} {r : Int32} {h' : Hp}
end
set_option maxRecDepth 20000 in
theorem con_X2_count (l : Launch) (G : Gx) (a0 : Nat) : Con G rvI l yX2_count cX2_count 1 (some .int) 1 20 [.ref a0] (X2_count a0) := by
  refine con_of (lv := [(0, .ref a0)]) (by decide) (Nat.le_of_ble_eq_true rfl) rfl (fun p e R s m args below meth c h0 r h' C hF hO hr hm => ?_)
  refine s_aload_n C 0 dX2_count_0 rfl rfl ?_
  refine s_gR C ci5 0 (by decide) (Or.inl wd_1_122) dX2_count_1 (fun y1 => ?_)
  refine s_invV_i C ci2 cy_Jx4a65c_size_8abf5 (Or.inl wd_2_76) rfl wd_1_213 wd_1_214 (con_Jx4a65c_size_8abf5 l G y1) rfl rfl (Nat.le_of_ble_eq_true rfl) (by rw [hF]; decide) (by rw [hO]; exact Nat.le_of_ble_eq_true rfl) dX2_count_4 (fun x2 => ?_)
  exact s_iret C hr rfl dX2_count_7

theorem dX2_row_0 : decode cX2_row 0 = .ok (.iload_n 1, 1) := by decide +kernel
theorem dX2_row_1 : decode cX2_row 1 = .ok (.ifCond .lt 28, 3) := by decide +kernel
theorem dX2_row_4 : decode cX2_row 4 = .ok (.iload_n 1, 1) := by decide +kernel
theorem dX2_row_5 : decode cX2_row 5 = .ok (.aload_n 0, 1) := by decide +kernel
theorem dX2_row_6 : decode cX2_row 6 = .ok (.getfield 12, 3) := by decide +kernel
theorem dX2_row_9 : decode cX2_row 9 = .ok (.invokevirtual 21, 3) := by decide +kernel
theorem dX2_row_12 : decode cX2_row 12 = .ok (.if_icmp .ge 17, 3) := by decide +kernel
theorem dX2_row_15 : decode cX2_row 15 = .ok (.aload_n 0, 1) := by decide +kernel
theorem dX2_row_16 : decode cX2_row 16 = .ok (.getfield 12, 3) := by decide +kernel
theorem dX2_row_19 : decode cX2_row 19 = .ok (.iload_n 1, 1) := by decide +kernel
theorem dX2_row_20 : decode cX2_row 20 = .ok (.invokevirtual 25, 3) := by decide +kernel
theorem dX2_row_23 : decode cX2_row 23 = .ok (.checkcast 29, 3) := by decide +kernel
theorem dX2_row_26 : decode cX2_row 26 = .ok (.goto 4, 3) := by decide +kernel
theorem dX2_row_29 : decode cX2_row 29 = .ok (.aconst_null, 1) := by decide +kernel
theorem dX2_row_30 : decode cX2_row 30 = .ok (.areturn, 1) := by decide +kernel
def X2_row (a0 : Nat) (i1 : Int32) : M (Option Nat) := it (i1 < 0) (pu none) (bd (gR 5 0 a0) (fun y1 => bd (ck 2 y1) (fun _ => bd (Jx4a65c_size_8abf5 y1) (fun x2 => it (x2 ≤ i1) (pu none) (bd (gR 5 0 a0) (fun y3 => bd (ck 2 y3) (fun _ => bd (Jx4a65c_get_915e3 y3 i1) (fun y4 => bd (ck 10 y4) (fun _ => pu (some y4))))))))))
section
variable {G : Gx} {p : Program} {l : Launch} {e : Env} {R : Room} {s : State} {m : MethodId} {args : Array Value} {below : List Frame} {meth : Method} {c : Code} {h0 : Hp} {r : Option Nat} {h' : Hp}
end
set_option maxRecDepth 20000 in
theorem con_X2_row (l : Launch) (G : Gx) (a0 : Nat) (i1 : Int32) : Con G rvO l yX2_row cX2_row 2 (some (.object "AppendKeep$Row")) 3 64 [.ref a0, .int i1] (X2_row a0 i1) := by
  refine con_of (lv := [(0, .ref a0), (1, .int i1)]) (by decide) (Nat.le_of_ble_eq_true rfl) rfl (fun p e R s m args below meth c h0 r h' C hF hO hr hm => ?_)
  refine s_iload_n C 1 dX2_row_0 rfl rfl ?_
  refine s_if_lt (tgt := 29) C dX2_row_1 (by decide) ?_ ?_
  · refine s_nullO C dX2_row_29 ?_
    exact s_aret (v := none) C hr (by first | exact Or.inl ⟨_, rfl⟩ | exact Or.inr ⟨_, rfl⟩) rfl dX2_row_30
  refine s_iload_n C 1 dX2_row_4 rfl rfl ?_
  refine s_aload_n C 0 dX2_row_5 rfl rfl ?_
  refine s_gR C ci5 0 (by decide) (Or.inl wd_1_122) dX2_row_6 (fun y1 => ?_)
  refine s_invV_i C ci2 cy_Jx4a65c_size_8abf5 (Or.inl wd_2_76) rfl wd_1_213 wd_1_214 (con_Jx4a65c_size_8abf5 l G y1) rfl rfl (Nat.le_of_ble_eq_true rfl) (by rw [hF]; decide) (by rw [hO]; exact Nat.le_of_ble_eq_true rfl) dX2_row_9 (fun x2 => ?_)
  refine s_icmp_ge (tgt := 29) C dX2_row_12 (by decide) ?_ ?_
  · refine s_nullO C dX2_row_29 ?_
    exact s_aret (v := none) C hr (by first | exact Or.inl ⟨_, rfl⟩ | exact Or.inr ⟨_, rfl⟩) rfl dX2_row_30
  refine s_aload_n C 0 dX2_row_15 rfl rfl ?_
  refine s_gR C ci5 0 (by decide) (Or.inl wd_1_122) dX2_row_16 (fun y3 => ?_)
  refine s_iload_n C 1 dX2_row_19 rfl rfl ?_
  refine s_invV_r C ci2 cy_Jx4a65c_get_915e3 (Or.inl wd_2_162) rfl wd_2_139 wd_2_140 (con_Jx4a65c_get_915e3 l G y3 i1) rfl rfl (Nat.le_of_ble_eq_true rfl) (by rw [hF]; decide) (by rw [hO]; exact Nat.le_of_ble_eq_true rfl) dX2_row_20 (fun y4 => ?_)
  refine s_ck C ci10 wd_2_82 dX2_row_23 ?_
  refine s_goto (tgt := 30) C dX2_row_26 (by decide) ?_
  exact s_aret (v := (some y4)) C hr (by first | exact Or.inl ⟨_, rfl⟩ | exact Or.inr ⟨_, rfl⟩) rfl dX2_row_30

theorem dX2_indexOf_0 : decode cX2_indexOf 0 = .ok (.iconst 0, 1) := by decide +kernel
theorem dX2_indexOf_1 : decode cX2_indexOf 1 = .ok (.istore 4, 2) := by decide +kernel
theorem dX2_indexOf_3 : decode cX2_indexOf 3 = .ok (.aload_n 0, 1) := by decide +kernel
theorem dX2_indexOf_4 : decode cX2_indexOf 4 = .ok (.getfield 12, 3) := by decide +kernel
theorem dX2_indexOf_7 : decode cX2_indexOf 7 = .ok (.invokevirtual 21, 3) := by decide +kernel
theorem dX2_indexOf_10 : decode cX2_indexOf 10 = .ok (.istore 5, 2) := by decide +kernel
theorem dX2_indexOf_12 : decode cX2_indexOf 12 = .ok (.aload_n 0, 1) := by decide +kernel
theorem dX2_indexOf_13 : decode cX2_indexOf 13 = .ok (.getfield 12, 3) := by decide +kernel
theorem dX2_indexOf_16 : decode cX2_indexOf 16 = .ok (.invokevirtual 21, 3) := by decide +kernel
theorem dX2_indexOf_19 : decode cX2_indexOf 19 = .ok (.istore 6, 2) := by decide +kernel
theorem dX2_indexOf_21 : decode cX2_indexOf 21 = .ok (.iload 6, 2) := by decide +kernel
theorem dX2_indexOf_23 : decode cX2_indexOf 23 = .ok (.ifCond .le 74, 3) := by decide +kernel
theorem dX2_indexOf_26 : decode cX2_indexOf 26 = .ok (.iload 4, 2) := by decide +kernel
theorem dX2_indexOf_28 : decode cX2_indexOf 28 = .ok (.iload 5, 2) := by decide +kernel
theorem dX2_indexOf_30 : decode cX2_indexOf 30 = .ok (.if_icmp .ge 67, 3) := by decide +kernel
theorem dX2_indexOf_33 : decode cX2_indexOf 33 = .ok (.iload 4, 2) := by decide +kernel
theorem dX2_indexOf_35 : decode cX2_indexOf 35 = .ok (.iload 5, 2) := by decide +kernel
theorem dX2_indexOf_37 : decode cX2_indexOf 37 = .ok (.iadd, 1) := by decide +kernel
theorem dX2_indexOf_38 : decode cX2_indexOf 38 = .ok (.iconst 1, 1) := by decide +kernel
theorem dX2_indexOf_39 : decode cX2_indexOf 39 = .ok (.iushr, 1) := by decide +kernel
theorem dX2_indexOf_40 : decode cX2_indexOf 40 = .ok (.istore 7, 2) := by decide +kernel
theorem dX2_indexOf_42 : decode cX2_indexOf 42 = .ok (.aload_n 0, 1) := by decide +kernel
theorem dX2_indexOf_43 : decode cX2_indexOf 43 = .ok (.getfield 12, 3) := by decide +kernel
theorem dX2_indexOf_46 : decode cX2_indexOf 46 = .ok (.iload 7, 2) := by decide +kernel
theorem dX2_indexOf_48 : decode cX2_indexOf 48 = .ok (.invokevirtual 25, 3) := by decide +kernel
theorem dX2_indexOf_51 : decode cX2_indexOf 51 = .ok (.checkcast 29, 3) := by decide +kernel
theorem dX2_indexOf_54 : decode cX2_indexOf 54 = .ok (.getfield 31, 3) := by decide +kernel
theorem dX2_indexOf_57 : decode cX2_indexOf 57 = .ok (.aload_n 1, 1) := by decide +kernel
theorem dX2_indexOf_58 : decode cX2_indexOf 58 = .ok (.iload_n 2, 1) := by decide +kernel
theorem dX2_indexOf_59 : decode cX2_indexOf 59 = .ok (.iload_n 3, 1) := by decide +kernel
theorem dX2_indexOf_60 : decode cX2_indexOf 60 = .ok (.invokevirtual 35, 3) := by decide +kernel
theorem dX2_indexOf_63 : decode cX2_indexOf 63 = .ok (.istore 8, 2) := by decide +kernel
theorem dX2_indexOf_65 : decode cX2_indexOf 65 = .ok (.iload 8, 2) := by decide +kernel
theorem dX2_indexOf_67 : decode cX2_indexOf 67 = .ok (.ifCond .ne 6, 3) := by decide +kernel
theorem dX2_indexOf_70 : decode cX2_indexOf 70 = .ok (.iload 7, 2) := by decide +kernel
theorem dX2_indexOf_72 : decode cX2_indexOf 72 = .ok (.ireturn, 1) := by decide +kernel
theorem dX2_indexOf_73 : decode cX2_indexOf 73 = .ok (.iload 8, 2) := by decide +kernel
theorem dX2_indexOf_75 : decode cX2_indexOf 75 = .ok (.ifCond .ge 12, 3) := by decide +kernel
theorem dX2_indexOf_78 : decode cX2_indexOf 78 = .ok (.iload 7, 2) := by decide +kernel
theorem dX2_indexOf_80 : decode cX2_indexOf 80 = .ok (.iconst 1, 1) := by decide +kernel
theorem dX2_indexOf_81 : decode cX2_indexOf 81 = .ok (.iadd, 1) := by decide +kernel
theorem dX2_indexOf_82 : decode cX2_indexOf 82 = .ok (.istore 4, 2) := by decide +kernel
theorem dX2_indexOf_84 : decode cX2_indexOf 84 = .ok (.goto 7, 3) := by decide +kernel
theorem dX2_indexOf_87 : decode cX2_indexOf 87 = .ok (.iload 7, 2) := by decide +kernel
theorem dX2_indexOf_89 : decode cX2_indexOf 89 = .ok (.istore 5, 2) := by decide +kernel
theorem dX2_indexOf_91 : decode cX2_indexOf 91 = .ok (.iinc 6 (-1), 3) := by decide +kernel
theorem dX2_indexOf_94 : decode cX2_indexOf 94 = .ok (.goto (-73), 3) := by decide +kernel
theorem dX2_indexOf_97 : decode cX2_indexOf 97 = .ok (.iconst (-1), 1) := by decide +kernel
theorem dX2_indexOf_98 : decode cX2_indexOf 98 = .ok (.iload 4, 2) := by decide +kernel
theorem dX2_indexOf_100 : decode cX2_indexOf 100 = .ok (.isub, 1) := by decide +kernel
theorem dX2_indexOf_101 : decode cX2_indexOf 101 = .ok (.ireturn, 1) := by decide +kernel
def X2_indexOf_b97   (i4 : Int32) : M Int32 := pu ((-1) - i4)
def X2_indexOf_b91 (k21 : Nat → Nat → Int32 → Int32 → Int32 → Int32 → Int32 → M Int32)  (a0 : Nat) (a1 : Nat) (i2 : Int32) (i3 : Int32) (i4 : Int32) (i5 : Int32) (i6 : Int32) : M Int32 := k21 a0 a1 i2 i3 i4 i5 (i6 + (-1))
def X2_indexOf_b21b  (k21 : Nat → Nat → Int32 → Int32 → Int32 → Int32 → Int32 → M Int32) (a0 : Nat) (a1 : Nat) (i2 : Int32) (i3 : Int32) (i4 : Int32) (i5 : Int32) (i6 : Int32) : M Int32 := it (i6 ≤ 0) (X2_indexOf_b97   i4) (it (i5 ≤ i4) (X2_indexOf_b97   i4) (bd (pu (ush (i4 + i5) 1)) (fun x1 => bd (gR 5 0 a0) (fun y2 => bd (ck 2 y2) (fun _ => bd (Jx4a65c_get_915e3 y2 x1) (fun y3 => bd (ck 10 y3) (fun _ => bd (gR 10 0 y3) (fun y4 => bd (ck 4 y4) (fun _ => bd (X1_compare y4 a1 i2 i3) (fun x5 => it (¬ x5 = 0) (it (0 ≤ x5) (X2_indexOf_b91 k21  a0 a1 i2 i3 i4 x1 i6) (bd (pu (x1 + 1)) (fun x6 => X2_indexOf_b91 k21  a0 a1 i2 i3 x6 i5 i6))) (pu x1)))))))))))
def X2_indexOf_b21  : Nat → Nat → Nat → Int32 → Int32 → Int32 → Int32 → Int32 → M Int32
  | 0 => fun _ _ _ _ _ _ _ => fl
  | n + 1 => fun a0 a1 i2 i3 i4 i5 i6 => X2_indexOf_b21b  (X2_indexOf_b21  n) a0 a1 i2 i3 i4 i5 i6
def X2_indexOf (a0 : Nat) (a1 : Nat) (i2 : Int32) (i3 : Int32) : M Int32 := bd (gR 5 0 a0) (fun y1 => bd (ck 2 y1) (fun _ => bd (Jx4a65c_size_8abf5 y1) (fun x2 => bd (gR 5 0 a0) (fun y3 => bd (ck 2 y3) (fun _ => bd (Jx4a65c_size_8abf5 y3) (fun x4 => X2_indexOf_b21  FU a0 a1 i2 i3 0 x2 x4))))))
section
variable {G : Gx} {p : Program} {l : Launch} {e : Env} {R : Room} {s : State} {m : MethodId} {args : Array Value} {below : List Frame} {meth : Method} {c : Code} {h0 : Hp} {r : Int32} {h' : Hp}
set_option maxRecDepth 20000 in
theorem X2_indexOf_b97_s (C : Cx G p R s m args meth c cX2_indexOf 9 yX2_indexOf.cls h0 h') (hF : R.frames = 3) (hO : R.locals = 64) (hr : meth.sig.returnType = (some .int)) (hm : meth.name = yX2_indexOf.name)   (i4 : Int32) : Sm G (QM G rvI below args s h0 r h') p l e R s m args below meth c 9 h0 r h' 97 [(4, .int i4)] [] (X2_indexOf_b97   i4) := by
  refine s_iconst (v := (-1)) C dX2_indexOf_97 (by decide) ?_
  refine s_iload C 0 dX2_indexOf_98 rfl ?_
  refine s_isub C dX2_indexOf_100 ?_
  exact s_iret C hr rfl dX2_indexOf_101
set_option maxRecDepth 20000 in
theorem X2_indexOf_b91_s (C : Cx G p R s m args meth c cX2_indexOf 9 yX2_indexOf.cls h0 h') (hF : R.frames = 3) (hO : R.locals = 64) (hr : meth.sig.returnType = (some .int)) (hm : meth.name = yX2_indexOf.name) {k21 : Nat → Nat → Int32 → Int32 → Int32 → Int32 → Int32 → M Int32} (hk21 : ∀ (a0 : Nat) (a1 : Nat) (i2 : Int32) (i3 : Int32) (i4 : Int32) (i5 : Int32) (i6 : Int32), Sm G (QM G rvI below args s h0 r h') p l e R s m args below meth c 9 h0 r h' 21 [(0, .ref a0), (1, .ref a1), (2, .int i2), (3, .int i3), (4, .int i4), (5, .int i5), (6, .int i6)] [] (k21 a0 a1 i2 i3 i4 i5 i6))  (a0 : Nat) (a1 : Nat) (i2 : Int32) (i3 : Int32) (i4 : Int32) (i5 : Int32) (i6 : Int32) : Sm G (QM G rvI below args s h0 r h') p l e R s m args below meth c 9 h0 r h' 91 [(0, .ref a0), (1, .ref a1), (2, .int i2), (3, .int i3), (4, .int i4), (5, .int i5), (6, .int i6)] [] (X2_indexOf_b91 k21  a0 a1 i2 i3 i4 i5 i6) := by
  refine s_iincK (lv' := [(6, .int (i6 + (-1))), (0, .ref a0), (1, .ref a1), (2, .int i2), (3, .int i3), (4, .int i4), (5, .int i5)]) (w := (-1)) C 6 dX2_indexOf_91 rfl (by decide) (by decide) rfl ?_
  refine s_goto (tgt := 21) C dX2_indexOf_94 (by decide) ?_
  refine s_sub [1, 2, 3, 4, 5, 6, 0] rfl ?_
  exact hk21 a0 a1 i2 i3 i4 i5 (i6 + (-1))
set_option maxRecDepth 20000 in
theorem X2_indexOf_b21b_s (C : Cx G p R s m args meth c cX2_indexOf 9 yX2_indexOf.cls h0 h') (hF : R.frames = 3) (hO : R.locals = 64) (hr : meth.sig.returnType = (some .int)) (hm : meth.name = yX2_indexOf.name)  {k21 : Nat → Nat → Int32 → Int32 → Int32 → Int32 → Int32 → M Int32} (hk21 : ∀ (a0 : Nat) (a1 : Nat) (i2 : Int32) (i3 : Int32) (i4 : Int32) (i5 : Int32) (i6 : Int32), Sm G (QM G rvI below args s h0 r h') p l e R s m args below meth c 9 h0 r h' 21 [(0, .ref a0), (1, .ref a1), (2, .int i2), (3, .int i3), (4, .int i4), (5, .int i5), (6, .int i6)] [] (k21 a0 a1 i2 i3 i4 i5 i6)) (a0 : Nat) (a1 : Nat) (i2 : Int32) (i3 : Int32) (i4 : Int32) (i5 : Int32) (i6 : Int32) : Sm G (QM G rvI below args s h0 r h') p l e R s m args below meth c 9 h0 r h' 21 [(0, .ref a0), (1, .ref a1), (2, .int i2), (3, .int i3), (4, .int i4), (5, .int i5), (6, .int i6)] [] (X2_indexOf_b21b  k21 a0 a1 i2 i3 i4 i5 i6) := by
  refine s_iload C 6 dX2_indexOf_21 rfl ?_
  refine s_if_le (tgt := 97) C dX2_indexOf_23 (by decide) ?_ ?_
  · refine s_sub [4] rfl ?_
    exact X2_indexOf_b97_s C hF hO hr hm   i4
  refine s_iload C 4 dX2_indexOf_26 rfl ?_
  refine s_iload C 5 dX2_indexOf_28 rfl ?_
  refine s_icmp_ge (tgt := 97) C dX2_indexOf_30 (by decide) ?_ ?_
  · refine s_sub [4] rfl ?_
    exact X2_indexOf_b97_s C hF hO hr hm   i4
  refine s_iload C 4 dX2_indexOf_33 rfl ?_
  refine s_iload C 5 dX2_indexOf_35 rfl ?_
  refine s_iadd C dX2_indexOf_37 ?_
  refine s_iconst (v := 1) C dX2_indexOf_38 (by decide) ?_
  refine s_iushr C dX2_indexOf_39 ?_
  refine s_let (fun x1 => ?_)
  refine s_istore (lv' := [(7, .int x1), (0, .ref a0), (1, .ref a1), (2, .int i2), (3, .int i3), (4, .int i4), (5, .int i5), (6, .int i6)]) C dX2_indexOf_40 (by decide) rfl ?_
  refine s_aload_n C 1 dX2_indexOf_42 rfl rfl ?_
  refine s_gR C ci5 0 (by decide) (Or.inl wd_1_122) dX2_indexOf_43 (fun y2 => ?_)
  refine s_iload C 0 dX2_indexOf_46 rfl ?_
  refine s_invV_r C ci2 cy_Jx4a65c_get_915e3 (Or.inl wd_2_162) rfl wd_2_139 wd_2_140 (con_Jx4a65c_get_915e3 l G y2 x1) rfl rfl (Nat.le_of_ble_eq_true rfl) (by rw [hF]; decide) (by rw [hO]; exact Nat.le_of_ble_eq_true rfl) dX2_indexOf_48 (fun y3 => ?_)
  refine s_ck C ci10 wd_2_82 dX2_indexOf_51 ?_
  refine s_gR C ci10 0 (by decide) (Or.inr (Or.inr ⟨_, wd_5_54⟩)) dX2_indexOf_54 (fun y4 => ?_)
  refine s_aload_n C 2 dX2_indexOf_57 rfl rfl ?_
  refine s_iload_n C 3 dX2_indexOf_58 rfl rfl ?_
  refine s_iload_n C 4 dX2_indexOf_59 rfl rfl ?_
  refine s_invV_i C ci4 cy_X1_compare (Or.inl wd_5_39) rfl wd_5_40 wd_5_41 (con_X1_compare l G y4 a1 i2 i3) rfl rfl (Nat.le_of_ble_eq_true rfl) (by rw [hF]; decide) (by rw [hO]; exact Nat.le_of_ble_eq_true rfl) dX2_indexOf_60 (fun x5 => ?_)
  refine s_istore (lv' := [(8, .int x5), (7, .int x1), (0, .ref a0), (1, .ref a1), (2, .int i2), (3, .int i3), (4, .int i4), (5, .int i5), (6, .int i6)]) C dX2_indexOf_63 (by decide) rfl ?_
  refine s_iload C 0 dX2_indexOf_65 rfl ?_
  refine s_if_ne (tgt := 73) C dX2_indexOf_67 (by decide) ?_ ?_
  · refine s_iload C 0 dX2_indexOf_73 rfl ?_
    refine s_if_ge (tgt := 87) C dX2_indexOf_75 (by decide) ?_ ?_
    · refine s_iload C 1 dX2_indexOf_87 rfl ?_
      refine s_istore (lv' := [(5, .int x1), (8, .int x5), (7, .int x1), (0, .ref a0), (1, .ref a1), (2, .int i2), (3, .int i3), (4, .int i4), (6, .int i6)]) C dX2_indexOf_89 (by decide) rfl ?_
      refine s_sub [3, 4, 5, 6, 7, 0, 8] rfl ?_
      exact X2_indexOf_b91_s C hF hO hr hm hk21  a0 a1 i2 i3 i4 x1 i6
    refine s_iload C 1 dX2_indexOf_78 rfl ?_
    refine s_iconst (v := 1) C dX2_indexOf_80 (by decide) ?_
    refine s_iadd C dX2_indexOf_81 ?_
    refine s_let (fun x6 => ?_)
    refine s_istore (lv' := [(4, .int x6), (8, .int x5), (7, .int x1), (0, .ref a0), (1, .ref a1), (2, .int i2), (3, .int i3), (5, .int i5), (6, .int i6)]) C dX2_indexOf_82 (by decide) rfl ?_
    refine s_goto (tgt := 91) C dX2_indexOf_84 (by decide) ?_
    refine s_sub [3, 4, 5, 6, 0, 7, 8] rfl ?_
    exact X2_indexOf_b91_s C hF hO hr hm hk21  a0 a1 i2 i3 x6 i5 i6
  refine s_iload C 1 dX2_indexOf_70 rfl ?_
  exact s_iret C hr rfl dX2_indexOf_72
set_option maxRecDepth 20000 in
theorem X2_indexOf_b21_s (C : Cx G p R s m args meth c cX2_indexOf 9 yX2_indexOf.cls h0 h') (hF : R.frames = 3) (hO : R.locals = 64) (hr : meth.sig.returnType = (some .int)) (hm : meth.name = yX2_indexOf.name)  (n : Nat) : ∀ (a0 : Nat) (a1 : Nat) (i2 : Int32) (i3 : Int32) (i4 : Int32) (i5 : Int32) (i6 : Int32), Sm G (QM G rvI below args s h0 r h') p l e R s m args below meth c 9 h0 r h' 21 [(0, .ref a0), (1, .ref a1), (2, .int i2), (3, .int i3), (4, .int i4), (5, .int i5), (6, .int i6)] [] (X2_indexOf_b21  n a0 a1 i2 i3 i4 i5 i6) := by
  induction n with
  | zero => intro a0 a1 i2 i3 i4 i5 i6; exact s_fl
  | succ n ih => intro a0 a1 i2 i3 i4 i5 i6; exact X2_indexOf_b21b_s C hF hO hr hm  ih a0 a1 i2 i3 i4 i5 i6
end
set_option maxRecDepth 20000 in
theorem con_X2_indexOf (l : Launch) (G : Gx) (a0 : Nat) (a1 : Nat) (i2 : Int32) (i3 : Int32) : Con G rvI l yX2_indexOf cX2_indexOf 9 (some .int) 3 64 [.ref a0, .ref a1, .int i2, .int i3] (X2_indexOf a0 a1 i2 i3) := by
  refine con_of (lv := [(0, .ref a0), (1, .ref a1), (2, .int i2), (3, .int i3)]) (by decide) (Nat.le_of_ble_eq_true rfl) rfl (fun p e R s m args below meth c h0 r h' C hF hO hr hm => ?_)
  refine s_iconst (v := 0) C dX2_indexOf_0 (by decide) ?_
  refine s_istore (lv' := [(4, .int 0), (0, .ref a0), (1, .ref a1), (2, .int i2), (3, .int i3)]) C dX2_indexOf_1 (by decide) rfl ?_
  refine s_aload_n C 1 dX2_indexOf_3 rfl rfl ?_
  refine s_gR C ci5 0 (by decide) (Or.inl wd_1_122) dX2_indexOf_4 (fun y1 => ?_)
  refine s_invV_i C ci2 cy_Jx4a65c_size_8abf5 (Or.inl wd_2_76) rfl wd_1_213 wd_1_214 (con_Jx4a65c_size_8abf5 l G y1) rfl rfl (Nat.le_of_ble_eq_true rfl) (by rw [hF]; decide) (by rw [hO]; exact Nat.le_of_ble_eq_true rfl) dX2_indexOf_7 (fun x2 => ?_)
  refine s_istore (lv' := [(5, .int x2), (4, .int 0), (0, .ref a0), (1, .ref a1), (2, .int i2), (3, .int i3)]) C dX2_indexOf_10 (by decide) rfl ?_
  refine s_aload_n C 2 dX2_indexOf_12 rfl rfl ?_
  refine s_gR C ci5 0 (by decide) (Or.inl wd_1_122) dX2_indexOf_13 (fun y3 => ?_)
  refine s_invV_i C ci2 cy_Jx4a65c_size_8abf5 (Or.inl wd_2_76) rfl wd_1_213 wd_1_214 (con_Jx4a65c_size_8abf5 l G y3) rfl rfl (Nat.le_of_ble_eq_true rfl) (by rw [hF]; decide) (by rw [hO]; exact Nat.le_of_ble_eq_true rfl) dX2_indexOf_16 (fun x4 => ?_)
  refine s_istore (lv' := [(6, .int x4), (5, .int x2), (4, .int 0), (0, .ref a0), (1, .ref a1), (2, .int i2), (3, .int i3)]) C dX2_indexOf_19 (by decide) rfl ?_
  refine s_sub [3, 4, 5, 6, 2, 1, 0] rfl ?_
  exact X2_indexOf_b21_s C hF hO hr hm  FU a0 a1 i2 i3 0 x2 x4

theorem dX7_init_0 : decode cX7_init 0 = .ok (.aload_n 0, 1) := by decide +kernel
theorem dX7_init_1 : decode cX7_init 1 = .ok (.invokespecial 1, 3) := by decide +kernel
theorem dX7_init_4 : decode cX7_init 4 = .ok (.aload_n 0, 1) := by decide +kernel
theorem dX7_init_5 : decode cX7_init 5 = .ok (.new 7, 3) := by decide +kernel
theorem dX7_init_8 : decode cX7_init 8 = .ok (.dup, 1) := by decide +kernel
theorem dX7_init_9 : decode cX7_init 9 = .ok (.invokespecial 9, 3) := by decide +kernel
theorem dX7_init_12 : decode cX7_init 12 = .ok (.putfield 10, 3) := by decide +kernel
theorem dX7_init_15 : decode cX7_init 15 = .ok (.return_, 1) := by decide +kernel
def X7_init (a0 : Nat) : M Unit := bd (nw 4 2) (fun y1 => bd (X1_init y1) (fun _ => bd (pV 10 0 a0 (.ref y1)) (fun _ => pu ())))
section
variable {G : Gx} {p : Program} {l : Launch} {e : Env} {R : Room} {s : State} {m : MethodId} {args : Array Value} {below : List Frame} {meth : Method} {c : Code} {h0 : Hp} {r : Unit} {h' : Hp}
end
set_option maxRecDepth 20000 in
theorem con_X7_init (l : Launch) (G : Gx) (a0 : Nat) : Con G rvU l yX7_init cX7_init 1 none 2 50 [.ref a0] (X7_init a0) := by
  refine con_of (lv := [(0, .ref a0)]) (by decide) (Nat.le_of_ble_eq_true rfl) rfl (fun p e R s m args below meth c h0 r h' C hF hO hr hm => ?_)
  refine s_aload_n C 0 dX7_init_0 rfl rfl ?_
  refine s_obj C wd_5_49 wd_1_39 wd_1_40 (by rw [hF]; decide) (by rw [hO]; exact Nat.le_of_ble_eq_true rfl) dX7_init_1 ?_
  refine s_aload_n C 0 dX7_init_4 rfl rfl ?_
  refine s_nw C ci4 wd_5_50 wd_1_42 wd_1_2 dX7_init_5 (fun y1 => ?_)
  refine s_dup C dX7_init_8 rfl ?_
  refine s_invI_u C cy_X1_init (Or.inr ⟨_, wd_5_51⟩) rfl wd_1_44 (con_X1_init l G y1) rfl rfl (Nat.le_of_ble_eq_true rfl) (by rw [hF]; decide) (by rw [hO]; exact Nat.le_of_ble_eq_true rfl) dX7_init_9 ?_
  refine s_pF C ci10 0 (by decide) rfl rfl hm wd_5_52 dX7_init_12 rfl rfl ?_
  exact s_vret C hr rfl dX7_init_15

theorem dX7_tell_0 : decode cX7_tell 0 = .ok (.aload_n 0, 1) := by decide +kernel
theorem dX7_tell_1 : decode cX7_tell 1 = .ok (.iload_n 1, 1) := by decide +kernel
theorem dX7_tell_2 : decode cX7_tell 2 = .ok (.putfield 16, 3) := by decide +kernel
theorem dX7_tell_5 : decode cX7_tell 5 = .ok (.aload_n 0, 1) := by decide +kernel
theorem dX7_tell_6 : decode cX7_tell 6 = .ok (.iload_n 2, 1) := by decide +kernel
theorem dX7_tell_7 : decode cX7_tell 7 = .ok (.putfield 20, 3) := by decide +kernel
theorem dX7_tell_10 : decode cX7_tell 10 = .ok (.aload_n 0, 1) := by decide +kernel
theorem dX7_tell_11 : decode cX7_tell 11 = .ok (.iload_n 3, 1) := by decide +kernel
theorem dX7_tell_12 : decode cX7_tell 12 = .ok (.putfield 23, 3) := by decide +kernel
theorem dX7_tell_15 : decode cX7_tell 15 = .ok (.aload_n 0, 1) := by decide +kernel
theorem dX7_tell_16 : decode cX7_tell 16 = .ok (.iload 4, 2) := by decide +kernel
theorem dX7_tell_18 : decode cX7_tell 18 = .ok (.putfield 26, 3) := by decide +kernel
theorem dX7_tell_21 : decode cX7_tell 21 = .ok (.return_, 1) := by decide +kernel
def X7_tell (a0 : Nat) (i1 : Int32) (i2 : Int32) (i3 : Int32) (i4 : Int32) : M Unit := bd (pV 10 1 a0 (.int i1)) (fun _ => bd (pV 10 2 a0 (.int i2)) (fun _ => bd (pV 10 3 a0 (.int i3)) (fun _ => bd (pV 10 4 a0 (.int i4)) (fun _ => pu ()))))
section
variable {G : Gx} {p : Program} {l : Launch} {e : Env} {R : Room} {s : State} {m : MethodId} {args : Array Value} {below : List Frame} {meth : Method} {c : Code} {h0 : Hp} {r : Unit} {h' : Hp}
end
set_option maxRecDepth 20000 in
theorem con_X7_tell (l : Launch) (G : Gx) (a0 : Nat) (i1 : Int32) (i2 : Int32) (i3 : Int32) (i4 : Int32) : Con G rvU l yX7_tell cX7_tell 5 none 0 0 [.ref a0, .int i1, .int i2, .int i3, .int i4] (X7_tell a0 i1 i2 i3 i4) := by
  refine con_of (lv := [(0, .ref a0), (1, .int i1), (2, .int i2), (3, .int i3), (4, .int i4)]) (by decide) (Nat.le_of_ble_eq_true rfl) rfl (fun p e R s m args below meth c h0 r h' C hF hO hr hm => ?_)
  refine s_aload_n C 0 dX7_tell_0 rfl rfl ?_
  refine s_iload_n C 1 dX7_tell_1 rfl rfl ?_
  refine s_pV C ci10 1 (by decide) rfl (Or.inl wd_5_56) dX7_tell_2 rfl rfl ?_
  refine s_aload_n C 0 dX7_tell_5 rfl rfl ?_
  refine s_iload_n C 2 dX7_tell_6 rfl rfl ?_
  refine s_pV C ci10 2 (by decide) rfl (Or.inl wd_5_60) dX7_tell_7 rfl rfl ?_
  refine s_aload_n C 0 dX7_tell_10 rfl rfl ?_
  refine s_iload_n C 3 dX7_tell_11 rfl rfl ?_
  refine s_pV C ci10 3 (by decide) rfl (Or.inl wd_5_63) dX7_tell_12 rfl rfl ?_
  refine s_aload_n C 0 dX7_tell_15 rfl rfl ?_
  refine s_iload C 4 dX7_tell_16 rfl ?_
  refine s_pV C ci10 4 (by decide) rfl (Or.inl wd_5_67) dX7_tell_18 rfl rfl ?_
  exact s_vret C hr rfl dX7_tell_21

theorem dX2_rowFor_0 : decode cX2_rowFor 0 = .ok (.aload_n 0, 1) := by decide +kernel
theorem dX2_rowFor_1 : decode cX2_rowFor 1 = .ok (.aload_n 1, 1) := by decide +kernel
theorem dX2_rowFor_2 : decode cX2_rowFor 2 = .ok (.iload_n 2, 1) := by decide +kernel
theorem dX2_rowFor_3 : decode cX2_rowFor 3 = .ok (.iload_n 3, 1) := by decide +kernel
theorem dX2_rowFor_4 : decode cX2_rowFor 4 = .ok (.invokevirtual 41, 3) := by decide +kernel
theorem dX2_rowFor_7 : decode cX2_rowFor 7 = .ok (.istore 4, 2) := by decide +kernel
theorem dX2_rowFor_9 : decode cX2_rowFor 9 = .ok (.iload 4, 2) := by decide +kernel
theorem dX2_rowFor_11 : decode cX2_rowFor 11 = .ok (.ifCond .lt 16, 3) := by decide +kernel
theorem dX2_rowFor_14 : decode cX2_rowFor 14 = .ok (.aload_n 0, 1) := by decide +kernel
theorem dX2_rowFor_15 : decode cX2_rowFor 15 = .ok (.getfield 12, 3) := by decide +kernel
theorem dX2_rowFor_18 : decode cX2_rowFor 18 = .ok (.iload 4, 2) := by decide +kernel
theorem dX2_rowFor_20 : decode cX2_rowFor 20 = .ok (.invokevirtual 25, 3) := by decide +kernel
theorem dX2_rowFor_23 : decode cX2_rowFor 23 = .ok (.checkcast 29, 3) := by decide +kernel
theorem dX2_rowFor_26 : decode cX2_rowFor 26 = .ok (.areturn, 1) := by decide +kernel
theorem dX2_rowFor_27 : decode cX2_rowFor 27 = .ok (.aload_n 0, 1) := by decide +kernel
theorem dX2_rowFor_28 : decode cX2_rowFor 28 = .ok (.getfield 18, 3) := by decide +kernel
theorem dX2_rowFor_31 : decode cX2_rowFor 31 = .ok (.invokevirtual 44, 3) := by decide +kernel
theorem dX2_rowFor_34 : decode cX2_rowFor 34 = .ok (.ifCond .eq 13, 3) := by decide +kernel
theorem dX2_rowFor_37 : decode cX2_rowFor 37 = .ok (.new 29, 3) := by decide +kernel
theorem dX2_rowFor_40 : decode cX2_rowFor 40 = .ok (.dup, 1) := by decide +kernel
theorem dX2_rowFor_41 : decode cX2_rowFor 41 = .ok (.invokespecial 48, 3) := by decide +kernel
theorem dX2_rowFor_44 : decode cX2_rowFor 44 = .ok (.goto 22, 3) := by decide +kernel
theorem dX2_rowFor_47 : decode cX2_rowFor 47 = .ok (.aload_n 0, 1) := by decide +kernel
theorem dX2_rowFor_48 : decode cX2_rowFor 48 = .ok (.getfield 18, 3) := by decide +kernel
theorem dX2_rowFor_51 : decode cX2_rowFor 51 = .ok (.aload_n 0, 1) := by decide +kernel
theorem dX2_rowFor_52 : decode cX2_rowFor 52 = .ok (.getfield 18, 3) := by decide +kernel
theorem dX2_rowFor_55 : decode cX2_rowFor 55 = .ok (.invokevirtual 21, 3) := by decide +kernel
theorem dX2_rowFor_58 : decode cX2_rowFor 58 = .ok (.iconst 1, 1) := by decide +kernel
theorem dX2_rowFor_59 : decode cX2_rowFor 59 = .ok (.isub, 1) := by decide +kernel
theorem dX2_rowFor_60 : decode cX2_rowFor 60 = .ok (.invokevirtual 49, 3) := by decide +kernel
theorem dX2_rowFor_63 : decode cX2_rowFor 63 = .ok (.checkcast 29, 3) := by decide +kernel
theorem dX2_rowFor_66 : decode cX2_rowFor 66 = .ok (.astore 5, 2) := by decide +kernel
theorem dX2_rowFor_68 : decode cX2_rowFor 68 = .ok (.aload 5, 2) := by decide +kernel
theorem dX2_rowFor_70 : decode cX2_rowFor 70 = .ok (.getfield 31, 3) := by decide +kernel
theorem dX2_rowFor_73 : decode cX2_rowFor 73 = .ok (.invokevirtual 52, 3) := by decide +kernel
theorem dX2_rowFor_76 : decode cX2_rowFor 76 = .ok (.aload 5, 2) := by decide +kernel
theorem dX2_rowFor_78 : decode cX2_rowFor 78 = .ok (.getfield 31, 3) := by decide +kernel
theorem dX2_rowFor_81 : decode cX2_rowFor 81 = .ok (.aload_n 1, 1) := by decide +kernel
theorem dX2_rowFor_82 : decode cX2_rowFor 82 = .ok (.iload_n 2, 1) := by decide +kernel
theorem dX2_rowFor_83 : decode cX2_rowFor 83 = .ok (.iload_n 3, 1) := by decide +kernel
theorem dX2_rowFor_84 : decode cX2_rowFor 84 = .ok (.invokevirtual 55, 3) := by decide +kernel
theorem dX2_rowFor_87 : decode cX2_rowFor 87 = .ok (.aload 5, 2) := by decide +kernel
theorem dX2_rowFor_89 : decode cX2_rowFor 89 = .ok (.iconst 0, 1) := by decide +kernel
theorem dX2_rowFor_90 : decode cX2_rowFor 90 = .ok (.iconst 0, 1) := by decide +kernel
theorem dX2_rowFor_91 : decode cX2_rowFor 91 = .ok (.iconst 0, 1) := by decide +kernel
theorem dX2_rowFor_92 : decode cX2_rowFor 92 = .ok (.iconst 0, 1) := by decide +kernel
theorem dX2_rowFor_93 : decode cX2_rowFor 93 = .ok (.invokevirtual 59, 3) := by decide +kernel
theorem dX2_rowFor_96 : decode cX2_rowFor 96 = .ok (.aload_n 0, 1) := by decide +kernel
theorem dX2_rowFor_97 : decode cX2_rowFor 97 = .ok (.getfield 12, 3) := by decide +kernel
theorem dX2_rowFor_100 : decode cX2_rowFor 100 = .ok (.iconst (-1), 1) := by decide +kernel
theorem dX2_rowFor_101 : decode cX2_rowFor 101 = .ok (.iload 4, 2) := by decide +kernel
theorem dX2_rowFor_103 : decode cX2_rowFor 103 = .ok (.isub, 1) := by decide +kernel
theorem dX2_rowFor_104 : decode cX2_rowFor 104 = .ok (.aload 5, 2) := by decide +kernel
theorem dX2_rowFor_106 : decode cX2_rowFor 106 = .ok (.invokevirtual 63, 3) := by decide +kernel
theorem dX2_rowFor_109 : decode cX2_rowFor 109 = .ok (.aload 5, 2) := by decide +kernel
theorem dX2_rowFor_111 : decode cX2_rowFor 111 = .ok (.areturn, 1) := by decide +kernel
def X2_rowFor_b66   (a0 : Nat) (a1 : Nat) (i2 : Int32) (i3 : Int32) (i4 : Int32) (s0 : Nat) : M Nat := bd (gR 10 0 s0) (fun y1 => bd (ck 4 y1) (fun _ => bd (X1_clear y1) (fun _ => bd (gR 10 0 s0) (fun y2 => bd (ck 4 y2) (fun _ => bd (X1_addPart y2 a1 i2 i3) (fun _ => bd (ck 10 s0) (fun _ => bd (X7_tell s0 0 0 0 0) (fun _ => bd (gR 5 0 a0) (fun y3 => bd (ck 2 y3) (fun _ => bd (Jx4a65c_add_7a177 y3 ((-1) - i4) s0) (fun _ => pu s0)))))))))))
def X2_rowFor (a0 : Nat) (a1 : Nat) (i2 : Int32) (i3 : Int32) : M Nat := bd (ck 5 a0) (fun _ => bd (X2_indexOf a0 a1 i2 i3) (fun x1 => it (x1 < 0) (bd (gR 5 1 a0) (fun y2 => bd (ck 2 y2) (fun _ => bd (Jx4a65c_isEmpty_aae02 y2) (fun x3 => it (x3 = 0) (bd (gR 5 1 a0) (fun y4 => bd (gR 5 1 a0) (fun y5 => bd (ck 2 y5) (fun _ => bd (Jx4a65c_size_8abf5 y5) (fun x6 => bd (ck 2 y4) (fun _ => bd (Jx4a65c_remove_915e3 y4 (x6 - 1)) (fun y7 => bd (ck 10 y7) (fun _ => X2_rowFor_b66   a0 a1 i2 i3 x1 y7)))))))) (bd (nw 10 5) (fun y8 => bd (X7_init y8) (fun _ => X2_rowFor_b66   a0 a1 i2 i3 x1 y8))))))) (bd (gR 5 0 a0) (fun y9 => bd (ck 2 y9) (fun _ => bd (Jx4a65c_get_915e3 y9 x1) (fun y10 => bd (ck 10 y10) (fun _ => pu y10)))))))
section
variable {G : Gx} {p : Program} {l : Launch} {e : Env} {R : Room} {s : State} {m : MethodId} {args : Array Value} {below : List Frame} {meth : Method} {c : Code} {h0 : Hp} {r : Nat} {h' : Hp}
set_option maxRecDepth 20000 in
theorem X2_rowFor_b66_s (C : Cx G p R s m args meth c cX2_rowFor 6 yX2_rowFor.cls h0 h') (hF : R.frames = 6) (hO : R.locals = 211) (hr : meth.sig.returnType = (some (.object "AppendKeep$Row"))) (hm : meth.name = yX2_rowFor.name)   (a0 : Nat) (a1 : Nat) (i2 : Int32) (i3 : Int32) (i4 : Int32) (s0 : Nat) : Sm G (QM G rvR below args s h0 r h') p l e R s m args below meth c 6 h0 r h' 66 [(0, .ref a0), (1, .ref a1), (2, .int i2), (3, .int i3), (4, .int i4)] [.ref s0] (X2_rowFor_b66   a0 a1 i2 i3 i4 s0) := by
  refine s_astore (lv' := [(5, .ref s0), (0, .ref a0), (1, .ref a1), (2, .int i2), (3, .int i3), (4, .int i4)]) C dX2_rowFor_66 (by decide) rfl ?_
  refine s_aload C 0 dX2_rowFor_68 rfl ?_
  refine s_gR C ci10 0 (by decide) (Or.inr (Or.inr ⟨_, wd_5_54⟩)) dX2_rowFor_70 (fun y1 => ?_)
  refine s_invV_u C ci4 cy_X1_clear (Or.inl wd_5_82) rfl wd_2_65 wd_2_66 (con_X1_clear l G y1) rfl rfl (Nat.le_of_ble_eq_true rfl) (by rw [hF]; decide) (by rw [hO]; exact Nat.le_of_ble_eq_true rfl) dX2_rowFor_73 ?_
  refine s_aload C 0 dX2_rowFor_76 rfl ?_
  refine s_gR C ci10 0 (by decide) (Or.inr (Or.inr ⟨_, wd_5_54⟩)) dX2_rowFor_78 (fun y2 => ?_)
  refine s_aload_n C 2 dX2_rowFor_81 rfl rfl ?_
  refine s_iload_n C 3 dX2_rowFor_82 rfl rfl ?_
  refine s_iload_n C 4 dX2_rowFor_83 rfl rfl ?_
  refine s_invV_u C ci4 cy_X1_addPart (Or.inl wd_5_83) rfl wd_3_115 wd_3_116 (con_X1_addPart l G y2 a1 i2 i3) rfl rfl (Nat.le_of_ble_eq_true rfl) (by rw [hF]; decide) (by rw [hO]; exact Nat.le_of_ble_eq_true rfl) dX2_rowFor_84 ?_
  refine s_aload C 0 dX2_rowFor_87 rfl ?_
  refine s_iconst (v := 0) C dX2_rowFor_89 (by decide) ?_
  refine s_iconst (v := 0) C dX2_rowFor_90 (by decide) ?_
  refine s_iconst (v := 0) C dX2_rowFor_91 (by decide) ?_
  refine s_iconst (v := 0) C dX2_rowFor_92 (by decide) ?_
  refine s_invV_u C ci10 cy_X7_tell (Or.inl wd_5_84) rfl wd_5_85 wd_5_86 (con_X7_tell l G s0 0 0 0 0) rfl rfl (Nat.le_of_ble_eq_true rfl) (by rw [hF]; decide) (by rw [hO]; exact Nat.le_of_ble_eq_true rfl) dX2_rowFor_93 ?_
  refine s_aload_n C 1 dX2_rowFor_96 rfl rfl ?_
  refine s_gR C ci5 0 (by decide) (Or.inl wd_1_122) dX2_rowFor_97 (fun y3 => ?_)
  refine s_iconst (v := (-1)) C dX2_rowFor_100 (by decide) ?_
  refine s_iload C 5 dX2_rowFor_101 rfl ?_
  refine s_isub C dX2_rowFor_103 ?_
  refine s_aload C 0 dX2_rowFor_104 rfl ?_
  refine s_invV_u C ci2 cy_Jx4a65c_add_7a177 (Or.inl wd_5_88) rfl wd_4_0 wd_4_1 (con_Jx4a65c_add_7a177 l G y3 ((-1) - i4) s0) rfl rfl (Nat.le_of_ble_eq_true rfl) (by rw [hF]; decide) (by rw [hO]; exact Nat.le_of_ble_eq_true rfl) dX2_rowFor_106 ?_
  refine s_aload C 0 dX2_rowFor_109 rfl ?_
  exact s_aret (v := some s0) C hr (by first | exact Or.inl ⟨_, rfl⟩ | exact Or.inr ⟨_, rfl⟩) rfl dX2_rowFor_111
end
set_option maxRecDepth 20000 in
theorem con_X2_rowFor (l : Launch) (G : Gx) (a0 : Nat) (a1 : Nat) (i2 : Int32) (i3 : Int32) : Con G rvR l yX2_rowFor cX2_rowFor 6 (some (.object "AppendKeep$Row")) 6 211 [.ref a0, .ref a1, .int i2, .int i3] (X2_rowFor a0 a1 i2 i3) := by
  refine con_of (lv := [(0, .ref a0), (1, .ref a1), (2, .int i2), (3, .int i3)]) (by decide) (Nat.le_of_ble_eq_true rfl) rfl (fun p e R s m args below meth c h0 r h' C hF hO hr hm => ?_)
  refine s_aload_n C 0 dX2_rowFor_0 rfl rfl ?_
  refine s_aload_n C 1 dX2_rowFor_1 rfl rfl ?_
  refine s_iload_n C 2 dX2_rowFor_2 rfl rfl ?_
  refine s_iload_n C 3 dX2_rowFor_3 rfl rfl ?_
  refine s_invV_i C ci5 cy_X2_indexOf (Or.inl wd_5_35) rfl wd_5_36 wd_5_37 (con_X2_indexOf l G a0 a1 i2 i3) rfl rfl (Nat.le_of_ble_eq_true rfl) (by rw [hF]; decide) (by rw [hO]; exact Nat.le_of_ble_eq_true rfl) dX2_rowFor_4 (fun x1 => ?_)
  refine s_istore (lv' := [(4, .int x1), (0, .ref a0), (1, .ref a1), (2, .int i2), (3, .int i3)]) C dX2_rowFor_7 (by decide) rfl ?_
  refine s_iload C 0 dX2_rowFor_9 rfl ?_
  refine s_if_lt (tgt := 27) C dX2_rowFor_11 (by decide) ?_ ?_
  · refine s_aload_n C 1 dX2_rowFor_27 rfl rfl ?_
    refine s_gR C ci5 1 (by decide) (Or.inl wd_1_123) dX2_rowFor_28 (fun y2 => ?_)
    refine s_invV_i C ci2 cy_Jx4a65c_isEmpty_aae02 (Or.inl wd_5_44) rfl wd_3_201 wd_3_202 (con_Jx4a65c_isEmpty_aae02 l G y2) rfl rfl (Nat.le_of_ble_eq_true rfl) (by rw [hF]; decide) (by rw [hO]; exact Nat.le_of_ble_eq_true rfl) dX2_rowFor_31 (fun x3 => ?_)
    refine s_if_eq (tgt := 47) C dX2_rowFor_34 (by decide) ?_ ?_
    · refine s_aload_n C 1 dX2_rowFor_47 rfl rfl ?_
      refine s_gR C ci5 1 (by decide) (Or.inl wd_1_123) dX2_rowFor_48 (fun y4 => ?_)
      refine s_aload_n C 1 dX2_rowFor_51 rfl rfl ?_
      refine s_gR C ci5 1 (by decide) (Or.inl wd_1_123) dX2_rowFor_52 (fun y5 => ?_)
      refine s_invV_i C ci2 cy_Jx4a65c_size_8abf5 (Or.inl wd_2_76) rfl wd_1_213 wd_1_214 (con_Jx4a65c_size_8abf5 l G y5) rfl rfl (Nat.le_of_ble_eq_true rfl) (by rw [hF]; decide) (by rw [hO]; exact Nat.le_of_ble_eq_true rfl) dX2_rowFor_55 (fun x6 => ?_)
      refine s_iconst (v := 1) C dX2_rowFor_58 (by decide) ?_
      refine s_isub C dX2_rowFor_59 ?_
      refine s_invV_r C ci2 cy_Jx4a65c_remove_915e3 (Or.inl wd_2_81) rfl wd_1_221 wd_1_222 (con_Jx4a65c_remove_915e3 l G y4 (x6 - 1)) rfl rfl (Nat.le_of_ble_eq_true rfl) (by rw [hF]; decide) (by rw [hO]; exact Nat.le_of_ble_eq_true rfl) dX2_rowFor_60 (fun y7 => ?_)
      refine s_ck C ci10 wd_2_82 dX2_rowFor_63 ?_
      refine s_sub [1, 2, 3, 4, 0] rfl ?_
      exact X2_rowFor_b66_s C hF hO hr hm   a0 a1 i2 i3 x1 y7
    refine s_nw C ci10 wd_2_82 wd_5_45 wd_1_32 dX2_rowFor_37 (fun y8 => ?_)
    refine s_dup C dX2_rowFor_40 rfl ?_
    refine s_invI_u C cy_X7_init (Or.inr ⟨_, wd_5_46⟩) rfl wd_5_47 (con_X7_init l G y8) rfl rfl (Nat.le_of_ble_eq_true rfl) (by rw [hF]; decide) (by rw [hO]; exact Nat.le_of_ble_eq_true rfl) dX2_rowFor_41 ?_
    refine s_goto (tgt := 66) C dX2_rowFor_44 (by decide) ?_
    refine s_sub [1, 2, 3, 4, 0] rfl ?_
    exact X2_rowFor_b66_s C hF hO hr hm   a0 a1 i2 i3 x1 y8
  refine s_aload_n C 1 dX2_rowFor_14 rfl rfl ?_
  refine s_gR C ci5 0 (by decide) (Or.inl wd_1_122) dX2_rowFor_15 (fun y9 => ?_)
  refine s_iload C 0 dX2_rowFor_18 rfl ?_
  refine s_invV_r C ci2 cy_Jx4a65c_get_915e3 (Or.inl wd_2_162) rfl wd_2_139 wd_2_140 (con_Jx4a65c_get_915e3 l G y9 x1) rfl rfl (Nat.le_of_ble_eq_true rfl) (by rw [hF]; decide) (by rw [hO]; exact Nat.le_of_ble_eq_true rfl) dX2_rowFor_20 (fun y10 => ?_)
  refine s_ck C ci10 wd_2_82 dX2_rowFor_23 ?_
  exact s_aret (v := some y10) C hr (by first | exact Or.inl ⟨_, rfl⟩ | exact Or.inr ⟨_, rfl⟩) rfl dX2_rowFor_26

theorem dX2_drop_0 : decode cX2_drop 0 = .ok (.iload_n 1, 1) := by decide +kernel
theorem dX2_drop_1 : decode cX2_drop 1 = .ok (.ifCond .lt 33, 3) := by decide +kernel
theorem dX2_drop_4 : decode cX2_drop 4 = .ok (.iload_n 1, 1) := by decide +kernel
theorem dX2_drop_5 : decode cX2_drop 5 = .ok (.aload_n 0, 1) := by decide +kernel
theorem dX2_drop_6 : decode cX2_drop 6 = .ok (.getfield 12, 3) := by decide +kernel
theorem dX2_drop_9 : decode cX2_drop 9 = .ok (.invokevirtual 21, 3) := by decide +kernel
theorem dX2_drop_12 : decode cX2_drop 12 = .ok (.if_icmp .ge 22, 3) := by decide +kernel
theorem dX2_drop_15 : decode cX2_drop 15 = .ok (.aload_n 0, 1) := by decide +kernel
theorem dX2_drop_16 : decode cX2_drop 16 = .ok (.getfield 18, 3) := by decide +kernel
theorem dX2_drop_19 : decode cX2_drop 19 = .ok (.aload_n 0, 1) := by decide +kernel
theorem dX2_drop_20 : decode cX2_drop 20 = .ok (.getfield 12, 3) := by decide +kernel
theorem dX2_drop_23 : decode cX2_drop 23 = .ok (.iload_n 1, 1) := by decide +kernel
theorem dX2_drop_24 : decode cX2_drop 24 = .ok (.invokevirtual 49, 3) := by decide +kernel
theorem dX2_drop_27 : decode cX2_drop 27 = .ok (.checkcast 29, 3) := by decide +kernel
theorem dX2_drop_30 : decode cX2_drop 30 = .ok (.invokevirtual 67, 3) := by decide +kernel
theorem dX2_drop_33 : decode cX2_drop 33 = .ok (.pop, 1) := by decide +kernel
theorem dX2_drop_34 : decode cX2_drop 34 = .ok (.return_, 1) := by decide +kernel
def X2_drop (a0 : Nat) (i1 : Int32) : M Unit := it (i1 < 0) (pu ()) (bd (gR 5 0 a0) (fun y1 => bd (ck 2 y1) (fun _ => bd (Jx4a65c_size_8abf5 y1) (fun x2 => it (x2 ≤ i1) (pu ()) (bd (gR 5 1 a0) (fun y3 => bd (gR 5 0 a0) (fun y4 => bd (ck 2 y4) (fun _ => bd (Jx4a65c_remove_915e3 y4 i1) (fun y5 => bd (ck 10 y5) (fun _ => bd (ck 2 y3) (fun _ => bd (Jx4a65c_add_9ea2d y3 y5) (fun x6 => pu ()))))))))))))
section
variable {G : Gx} {p : Program} {l : Launch} {e : Env} {R : Room} {s : State} {m : MethodId} {args : Array Value} {below : List Frame} {meth : Method} {c : Code} {h0 : Hp} {r : Unit} {h' : Hp}
end
set_option maxRecDepth 20000 in
theorem con_X2_drop (l : Launch) (G : Gx) (a0 : Nat) (i1 : Int32) : Con G rvU l yX2_drop cX2_drop 2 none 7 231 [.ref a0, .int i1] (X2_drop a0 i1) := by
  refine con_of (lv := [(0, .ref a0), (1, .int i1)]) (by decide) (Nat.le_of_ble_eq_true rfl) rfl (fun p e R s m args below meth c h0 r h' C hF hO hr hm => ?_)
  refine s_iload_n C 1 dX2_drop_0 rfl rfl ?_
  refine s_if_lt (tgt := 34) C dX2_drop_1 (by decide) ?_ ?_
  · exact s_vret C hr rfl dX2_drop_34
  refine s_iload_n C 1 dX2_drop_4 rfl rfl ?_
  refine s_aload_n C 0 dX2_drop_5 rfl rfl ?_
  refine s_gR C ci5 0 (by decide) (Or.inl wd_1_122) dX2_drop_6 (fun y1 => ?_)
  refine s_invV_i C ci2 cy_Jx4a65c_size_8abf5 (Or.inl wd_2_76) rfl wd_1_213 wd_1_214 (con_Jx4a65c_size_8abf5 l G y1) rfl rfl (Nat.le_of_ble_eq_true rfl) (by rw [hF]; decide) (by rw [hO]; exact Nat.le_of_ble_eq_true rfl) dX2_drop_9 (fun x2 => ?_)
  refine s_icmp_ge (tgt := 34) C dX2_drop_12 (by decide) ?_ ?_
  · exact s_vret C hr rfl dX2_drop_34
  refine s_aload_n C 0 dX2_drop_15 rfl rfl ?_
  refine s_gR C ci5 1 (by decide) (Or.inl wd_1_123) dX2_drop_16 (fun y3 => ?_)
  refine s_aload_n C 0 dX2_drop_19 rfl rfl ?_
  refine s_gR C ci5 0 (by decide) (Or.inl wd_1_122) dX2_drop_20 (fun y4 => ?_)
  refine s_iload_n C 1 dX2_drop_23 rfl rfl ?_
  refine s_invV_r C ci2 cy_Jx4a65c_remove_915e3 (Or.inl wd_2_81) rfl wd_1_221 wd_1_222 (con_Jx4a65c_remove_915e3 l G y4 i1) rfl rfl (Nat.le_of_ble_eq_true rfl) (by rw [hF]; decide) (by rw [hO]; exact Nat.le_of_ble_eq_true rfl) dX2_drop_24 (fun y5 => ?_)
  refine s_ck C ci10 wd_2_82 dX2_drop_27 ?_
  refine s_invV_i C ci2 cy_Jx4a65c_add_9ea2d (Or.inl wd_2_83) rfl wd_1_239 wd_2_0 (con_Jx4a65c_add_9ea2d l G y3 y5) rfl rfl (Nat.le_of_ble_eq_true rfl) (by rw [hF]; decide) (by rw [hO]; exact Nat.le_of_ble_eq_true rfl) dX2_drop_30 (fun x6 => ?_)
  refine s_pop C dX2_drop_33 rfl ?_
  exact s_vret C hr rfl dX2_drop_34

theorem dX2_clear_0 : decode cX2_clear 0 = .ok (.aload_n 0, 1) := by decide +kernel
theorem dX2_clear_1 : decode cX2_clear 1 = .ok (.getfield 12, 3) := by decide +kernel
theorem dX2_clear_4 : decode cX2_clear 4 = .ok (.invokevirtual 21, 3) := by decide +kernel
theorem dX2_clear_7 : decode cX2_clear 7 = .ok (.iconst 1, 1) := by decide +kernel
theorem dX2_clear_8 : decode cX2_clear 8 = .ok (.isub, 1) := by decide +kernel
theorem dX2_clear_9 : decode cX2_clear 9 = .ok (.istore_n 1, 1) := by decide +kernel
theorem dX2_clear_10 : decode cX2_clear 10 = .ok (.iload_n 1, 1) := by decide +kernel
theorem dX2_clear_11 : decode cX2_clear 11 = .ok (.ifCond .lt 14, 3) := by decide +kernel
theorem dX2_clear_14 : decode cX2_clear 14 = .ok (.aload_n 0, 1) := by decide +kernel
theorem dX2_clear_15 : decode cX2_clear 15 = .ok (.iload_n 1, 1) := by decide +kernel
theorem dX2_clear_16 : decode cX2_clear 16 = .ok (.invokevirtual 70, 3) := by decide +kernel
theorem dX2_clear_19 : decode cX2_clear 19 = .ok (.iinc 1 (-1), 3) := by decide +kernel
theorem dX2_clear_22 : decode cX2_clear 22 = .ok (.goto (-12), 3) := by decide +kernel
theorem dX2_clear_25 : decode cX2_clear 25 = .ok (.return_, 1) := by decide +kernel
def X2_clear_b10b  (k10 : Nat → Int32 → M Unit) (a0 : Nat) (i1 : Int32) : M Unit := it (i1 < 0) (pu ()) (bd (ck 5 a0) (fun _ => bd (X2_drop a0 i1) (fun _ => k10 a0 (i1 + (-1)))))
def X2_clear_b10  : Nat → Nat → Int32 → M Unit
  | 0 => fun _ _ => fl
  | n + 1 => fun a0 i1 => X2_clear_b10b  (X2_clear_b10  n) a0 i1
def X2_clear (a0 : Nat) : M Unit := bd (gR 5 0 a0) (fun y1 => bd (ck 2 y1) (fun _ => bd (Jx4a65c_size_8abf5 y1) (fun x2 => bd (pu (x2 - 1)) (fun x3 => X2_clear_b10  FU a0 x3))))
section
variable {G : Gx} {p : Program} {l : Launch} {e : Env} {R : Room} {s : State} {m : MethodId} {args : Array Value} {below : List Frame} {meth : Method} {c : Code} {h0 : Hp} {r : Unit} {h' : Hp}
set_option maxRecDepth 20000 in
theorem X2_clear_b10b_s (C : Cx G p R s m args meth c cX2_clear 2 yX2_clear.cls h0 h') (hF : R.frames = 8) (hO : R.locals = 252) (hr : meth.sig.returnType = none) (hm : meth.name = yX2_clear.name)  {k10 : Nat → Int32 → M Unit} (hk10 : ∀ (a0 : Nat) (i1 : Int32), Sm G (QM G rvU below args s h0 r h') p l e R s m args below meth c 2 h0 r h' 10 [(0, .ref a0), (1, .int i1)] [] (k10 a0 i1)) (a0 : Nat) (i1 : Int32) : Sm G (QM G rvU below args s h0 r h') p l e R s m args below meth c 2 h0 r h' 10 [(0, .ref a0), (1, .int i1)] [] (X2_clear_b10b  k10 a0 i1) := by
  refine s_iload_n C 1 dX2_clear_10 rfl rfl ?_
  refine s_if_lt (tgt := 25) C dX2_clear_11 (by decide) ?_ ?_
  · exact s_vret C hr rfl dX2_clear_25
  refine s_aload_n C 0 dX2_clear_14 rfl rfl ?_
  refine s_iload_n C 1 dX2_clear_15 rfl rfl ?_
  refine s_invV_u C ci5 cy_X2_drop (Or.inl wd_2_77) rfl wd_2_78 wd_2_79 (con_X2_drop l G a0 i1) rfl rfl (Nat.le_of_ble_eq_true rfl) (by rw [hF]; decide) (by rw [hO]; exact Nat.le_of_ble_eq_true rfl) dX2_clear_16 ?_
  refine s_iincK (lv' := [(1, .int (i1 + (-1))), (0, .ref a0)]) (w := (-1)) C 1 dX2_clear_19 rfl (by decide) (by decide) rfl ?_
  refine s_goto (tgt := 10) C dX2_clear_22 (by decide) ?_
  refine s_sub [1, 0] rfl ?_
  exact hk10 a0 (i1 + (-1))
set_option maxRecDepth 20000 in
theorem X2_clear_b10_s (C : Cx G p R s m args meth c cX2_clear 2 yX2_clear.cls h0 h') (hF : R.frames = 8) (hO : R.locals = 252) (hr : meth.sig.returnType = none) (hm : meth.name = yX2_clear.name)  (n : Nat) : ∀ (a0 : Nat) (i1 : Int32), Sm G (QM G rvU below args s h0 r h') p l e R s m args below meth c 2 h0 r h' 10 [(0, .ref a0), (1, .int i1)] [] (X2_clear_b10  n a0 i1) := by
  induction n with
  | zero => intro a0 i1; exact s_fl
  | succ n ih => intro a0 i1; exact X2_clear_b10b_s C hF hO hr hm  ih a0 i1
end
set_option maxRecDepth 20000 in
theorem con_X2_clear (l : Launch) (G : Gx) (a0 : Nat) : Con G rvU l yX2_clear cX2_clear 2 none 8 252 [.ref a0] (X2_clear a0) := by
  refine con_of (lv := [(0, .ref a0)]) (by decide) (Nat.le_of_ble_eq_true rfl) rfl (fun p e R s m args below meth c h0 r h' C hF hO hr hm => ?_)
  refine s_aload_n C 0 dX2_clear_0 rfl rfl ?_
  refine s_gR C ci5 0 (by decide) (Or.inl wd_1_122) dX2_clear_1 (fun y1 => ?_)
  refine s_invV_i C ci2 cy_Jx4a65c_size_8abf5 (Or.inl wd_2_76) rfl wd_1_213 wd_1_214 (con_Jx4a65c_size_8abf5 l G y1) rfl rfl (Nat.le_of_ble_eq_true rfl) (by rw [hF]; decide) (by rw [hO]; exact Nat.le_of_ble_eq_true rfl) dX2_clear_4 (fun x2 => ?_)
  refine s_iconst (v := 1) C dX2_clear_7 (by decide) ?_
  refine s_isub C dX2_clear_8 ?_
  refine s_let (fun x3 => ?_)
  refine s_istore_n (lv' := [(1, .int x3), (0, .ref a0)]) C dX2_clear_9 rfl (by decide) rfl ?_
  refine s_sub [1, 0] rfl ?_
  exact X2_clear_b10_s C hF hO hr hm  FU a0 x3

theorem dX2_dropRemovals_0 : decode cX2_dropRemovals 0 = .ok (.aload_n 0, 1) := by decide +kernel
theorem dX2_dropRemovals_1 : decode cX2_dropRemovals 1 = .ok (.getfield 12, 3) := by decide +kernel
theorem dX2_dropRemovals_4 : decode cX2_dropRemovals 4 = .ok (.invokevirtual 21, 3) := by decide +kernel
theorem dX2_dropRemovals_7 : decode cX2_dropRemovals 7 = .ok (.iconst 1, 1) := by decide +kernel
theorem dX2_dropRemovals_8 : decode cX2_dropRemovals 8 = .ok (.isub, 1) := by decide +kernel
theorem dX2_dropRemovals_9 : decode cX2_dropRemovals 9 = .ok (.istore_n 1, 1) := by decide +kernel
theorem dX2_dropRemovals_10 : decode cX2_dropRemovals 10 = .ok (.iload_n 1, 1) := by decide +kernel
theorem dX2_dropRemovals_11 : decode cX2_dropRemovals 11 = .ok (.ifCond .lt 32, 3) := by decide +kernel
theorem dX2_dropRemovals_14 : decode cX2_dropRemovals 14 = .ok (.aload_n 0, 1) := by decide +kernel
theorem dX2_dropRemovals_15 : decode cX2_dropRemovals 15 = .ok (.getfield 12, 3) := by decide +kernel
theorem dX2_dropRemovals_18 : decode cX2_dropRemovals 18 = .ok (.iload_n 1, 1) := by decide +kernel
theorem dX2_dropRemovals_19 : decode cX2_dropRemovals 19 = .ok (.invokevirtual 25, 3) := by decide +kernel
theorem dX2_dropRemovals_22 : decode cX2_dropRemovals 22 = .ok (.checkcast 29, 3) := by decide +kernel
theorem dX2_dropRemovals_25 : decode cX2_dropRemovals 25 = .ok (.getfield 74, 3) := by decide +kernel
theorem dX2_dropRemovals_28 : decode cX2_dropRemovals 28 = .ok (.iconst (-1), 1) := by decide +kernel
theorem dX2_dropRemovals_29 : decode cX2_dropRemovals 29 = .ok (.if_icmp .ne 8, 3) := by decide +kernel
theorem dX2_dropRemovals_32 : decode cX2_dropRemovals 32 = .ok (.aload_n 0, 1) := by decide +kernel
theorem dX2_dropRemovals_33 : decode cX2_dropRemovals 33 = .ok (.iload_n 1, 1) := by decide +kernel
theorem dX2_dropRemovals_34 : decode cX2_dropRemovals 34 = .ok (.invokevirtual 70, 3) := by decide +kernel
theorem dX2_dropRemovals_37 : decode cX2_dropRemovals 37 = .ok (.iinc 1 (-1), 3) := by decide +kernel
theorem dX2_dropRemovals_40 : decode cX2_dropRemovals 40 = .ok (.goto (-30), 3) := by decide +kernel
theorem dX2_dropRemovals_43 : decode cX2_dropRemovals 43 = .ok (.return_, 1) := by decide +kernel
def X2_dropRemovals_b37 (k10 : Nat → Int32 → M Unit)  (a0 : Nat) (i1 : Int32) : M Unit := k10 a0 (i1 + (-1))
def X2_dropRemovals_b10b  (k10 : Nat → Int32 → M Unit) (a0 : Nat) (i1 : Int32) : M Unit := it (i1 < 0) (pu ()) (bd (gR 5 0 a0) (fun y1 => bd (ck 2 y1) (fun _ => bd (Jx4a65c_get_915e3 y1 i1) (fun y2 => bd (ck 10 y2) (fun _ => bd (gI 10 3 y2) (fun x3 => it (¬ x3 = (-1)) (X2_dropRemovals_b37 k10  a0 i1) (bd (ck 5 a0) (fun _ => bd (X2_drop a0 i1) (fun _ => X2_dropRemovals_b37 k10  a0 i1)))))))))
def X2_dropRemovals_b10  : Nat → Nat → Int32 → M Unit
  | 0 => fun _ _ => fl
  | n + 1 => fun a0 i1 => X2_dropRemovals_b10b  (X2_dropRemovals_b10  n) a0 i1
def X2_dropRemovals (a0 : Nat) : M Unit := bd (gR 5 0 a0) (fun y1 => bd (ck 2 y1) (fun _ => bd (Jx4a65c_size_8abf5 y1) (fun x2 => bd (pu (x2 - 1)) (fun x3 => X2_dropRemovals_b10  FU a0 x3))))
section
variable {G : Gx} {p : Program} {l : Launch} {e : Env} {R : Room} {s : State} {m : MethodId} {args : Array Value} {below : List Frame} {meth : Method} {c : Code} {h0 : Hp} {r : Unit} {h' : Hp}
set_option maxRecDepth 20000 in
theorem X2_dropRemovals_b37_s (C : Cx G p R s m args meth c cX2_dropRemovals 2 yX2_dropRemovals.cls h0 h') (hF : R.frames = 8) (hO : R.locals = 252) (hr : meth.sig.returnType = none) (hm : meth.name = yX2_dropRemovals.name) {k10 : Nat → Int32 → M Unit} (hk10 : ∀ (a0 : Nat) (i1 : Int32), Sm G (QM G rvU below args s h0 r h') p l e R s m args below meth c 2 h0 r h' 10 [(0, .ref a0), (1, .int i1)] [] (k10 a0 i1))  (a0 : Nat) (i1 : Int32) : Sm G (QM G rvU below args s h0 r h') p l e R s m args below meth c 2 h0 r h' 37 [(0, .ref a0), (1, .int i1)] [] (X2_dropRemovals_b37 k10  a0 i1) := by
  refine s_iincK (lv' := [(1, .int (i1 + (-1))), (0, .ref a0)]) (w := (-1)) C 1 dX2_dropRemovals_37 rfl (by decide) (by decide) rfl ?_
  refine s_goto (tgt := 10) C dX2_dropRemovals_40 (by decide) ?_
  refine s_sub [1, 0] rfl ?_
  exact hk10 a0 (i1 + (-1))
set_option maxRecDepth 20000 in
theorem X2_dropRemovals_b10b_s (C : Cx G p R s m args meth c cX2_dropRemovals 2 yX2_dropRemovals.cls h0 h') (hF : R.frames = 8) (hO : R.locals = 252) (hr : meth.sig.returnType = none) (hm : meth.name = yX2_dropRemovals.name)  {k10 : Nat → Int32 → M Unit} (hk10 : ∀ (a0 : Nat) (i1 : Int32), Sm G (QM G rvU below args s h0 r h') p l e R s m args below meth c 2 h0 r h' 10 [(0, .ref a0), (1, .int i1)] [] (k10 a0 i1)) (a0 : Nat) (i1 : Int32) : Sm G (QM G rvU below args s h0 r h') p l e R s m args below meth c 2 h0 r h' 10 [(0, .ref a0), (1, .int i1)] [] (X2_dropRemovals_b10b  k10 a0 i1) := by
  refine s_iload_n C 1 dX2_dropRemovals_10 rfl rfl ?_
  refine s_if_lt (tgt := 43) C dX2_dropRemovals_11 (by decide) ?_ ?_
  · exact s_vret C hr rfl dX2_dropRemovals_43
  refine s_aload_n C 0 dX2_dropRemovals_14 rfl rfl ?_
  refine s_gR C ci5 0 (by decide) (Or.inl wd_1_122) dX2_dropRemovals_15 (fun y1 => ?_)
  refine s_iload_n C 1 dX2_dropRemovals_18 rfl rfl ?_
  refine s_invV_r C ci2 cy_Jx4a65c_get_915e3 (Or.inl wd_2_162) rfl wd_2_139 wd_2_140 (con_Jx4a65c_get_915e3 l G y1 i1) rfl rfl (Nat.le_of_ble_eq_true rfl) (by rw [hF]; decide) (by rw [hO]; exact Nat.le_of_ble_eq_true rfl) dX2_dropRemovals_19 (fun y2 => ?_)
  refine s_ck C ci10 wd_2_82 dX2_dropRemovals_22 ?_
  refine s_gI C ci10 3 (by decide) (Or.inr (Or.inr ⟨_, wd_5_66⟩)) dX2_dropRemovals_25 (fun x3 => ?_)
  refine s_iconst (v := (-1)) C dX2_dropRemovals_28 (by decide) ?_
  refine s_icmp_ne (tgt := 37) C dX2_dropRemovals_29 (by decide) ?_ ?_
  · exact X2_dropRemovals_b37_s C hF hO hr hm hk10  a0 i1
  refine s_aload_n C 0 dX2_dropRemovals_32 rfl rfl ?_
  refine s_iload_n C 1 dX2_dropRemovals_33 rfl rfl ?_
  refine s_invV_u C ci5 cy_X2_drop (Or.inl wd_2_77) rfl wd_2_78 wd_2_79 (con_X2_drop l G a0 i1) rfl rfl (Nat.le_of_ble_eq_true rfl) (by rw [hF]; decide) (by rw [hO]; exact Nat.le_of_ble_eq_true rfl) dX2_dropRemovals_34 ?_
  exact X2_dropRemovals_b37_s C hF hO hr hm hk10  a0 i1
set_option maxRecDepth 20000 in
theorem X2_dropRemovals_b10_s (C : Cx G p R s m args meth c cX2_dropRemovals 2 yX2_dropRemovals.cls h0 h') (hF : R.frames = 8) (hO : R.locals = 252) (hr : meth.sig.returnType = none) (hm : meth.name = yX2_dropRemovals.name)  (n : Nat) : ∀ (a0 : Nat) (i1 : Int32), Sm G (QM G rvU below args s h0 r h') p l e R s m args below meth c 2 h0 r h' 10 [(0, .ref a0), (1, .int i1)] [] (X2_dropRemovals_b10  n a0 i1) := by
  induction n with
  | zero => intro a0 i1; exact s_fl
  | succ n ih => intro a0 i1; exact X2_dropRemovals_b10b_s C hF hO hr hm  ih a0 i1
end
set_option maxRecDepth 20000 in
theorem con_X2_dropRemovals (l : Launch) (G : Gx) (a0 : Nat) : Con G rvU l yX2_dropRemovals cX2_dropRemovals 2 none 8 252 [.ref a0] (X2_dropRemovals a0) := by
  refine con_of (lv := [(0, .ref a0)]) (by decide) (Nat.le_of_ble_eq_true rfl) rfl (fun p e R s m args below meth c h0 r h' C hF hO hr hm => ?_)
  refine s_aload_n C 0 dX2_dropRemovals_0 rfl rfl ?_
  refine s_gR C ci5 0 (by decide) (Or.inl wd_1_122) dX2_dropRemovals_1 (fun y1 => ?_)
  refine s_invV_i C ci2 cy_Jx4a65c_size_8abf5 (Or.inl wd_2_76) rfl wd_1_213 wd_1_214 (con_Jx4a65c_size_8abf5 l G y1) rfl rfl (Nat.le_of_ble_eq_true rfl) (by rw [hF]; decide) (by rw [hO]; exact Nat.le_of_ble_eq_true rfl) dX2_dropRemovals_4 (fun x2 => ?_)
  refine s_iconst (v := 1) C dX2_dropRemovals_7 (by decide) ?_
  refine s_isub C dX2_dropRemovals_8 ?_
  refine s_let (fun x3 => ?_)
  refine s_istore_n (lv' := [(1, .int x3), (0, .ref a0)]) C dX2_dropRemovals_9 rfl (by decide) rfl ?_
  refine s_sub [1, 0] rfl ?_
  exact X2_dropRemovals_b10_s C hF hO hr hm  FU a0 x3

theorem dX8_recordSize_0 : decode cX8_recordSize 0 = .ok (.bipush 14, 2) := by decide +kernel
theorem dX8_recordSize_2 : decode cX8_recordSize 2 = .ok (.iload_n 0, 1) := by decide +kernel
theorem dX8_recordSize_3 : decode cX8_recordSize 3 = .ok (.iadd, 1) := by decide +kernel
theorem dX8_recordSize_4 : decode cX8_recordSize 4 = .ok (.iload_n 1, 1) := by decide +kernel
theorem dX8_recordSize_5 : decode cX8_recordSize 5 = .ok (.iconst 0, 1) := by decide +kernel
theorem dX8_recordSize_6 : decode cX8_recordSize 6 = .ok (.invokestatic 346, 3) := by decide +kernel
theorem dX8_recordSize_9 : decode cX8_recordSize 9 = .ok (.iadd, 1) := by decide +kernel
theorem dX8_recordSize_10 : decode cX8_recordSize 10 = .ok (.ireturn, 1) := by decide +kernel
def X8_recordSize (i0 : Int32) (i1 : Int32) : M Int32 := pu ((14 + i0) + (imx i1 0))
section
variable {G : Gx} {p : Program} {l : Launch} {e : Env} {R : Room} {s : State} {m : MethodId} {args : Array Value} {below : List Frame} {meth : Method} {c : Code} {h0 : Hp} {r : Int32} {h' : Hp}
end
set_option maxRecDepth 20000 in
theorem con_X8_recordSize (l : Launch) (G : Gx) (i0 : Int32) (i1 : Int32) : Con G rvI l yX8_recordSize cX8_recordSize 2 (some .int) 1 30 [.int i0, .int i1] (X8_recordSize i0 i1) := by
  refine con_of (lv := [(0, .int i0), (1, .int i1)]) (by decide) (Nat.le_of_ble_eq_true rfl) rfl (fun p e R s m args below meth c h0 r h' C hF hO hr hm => ?_)
  refine s_bipush (v := 14) C dX8_recordSize_0 (by decide) ?_
  refine s_iload_n C 0 dX8_recordSize_2 rfl rfl ?_
  refine s_iadd C dX8_recordSize_3 ?_
  refine s_iload_n C 1 dX8_recordSize_4 rfl rfl ?_
  refine s_iconst (v := 0) C dX8_recordSize_5 (by decide) ?_
  refine s_mmax C wd_2_216 wd_2_18 wd_1_14 wd_2_19 (by rw [hF]; decide) (by rw [hO]; exact Nat.le_of_ble_eq_true rfl) dX8_recordSize_6 ?_
  refine s_iadd C dX8_recordSize_9 ?_
  exact s_iret C hr rfl dX8_recordSize_10

theorem dX7_recordBytes_0 : decode cX7_recordBytes 0 = .ok (.aload_n 0, 1) := by decide +kernel
theorem dX7_recordBytes_1 : decode cX7_recordBytes 1 = .ok (.getfield 10, 3) := by decide +kernel
theorem dX7_recordBytes_4 : decode cX7_recordBytes 4 = .ok (.invokevirtual 29, 3) := by decide +kernel
theorem dX7_recordBytes_7 : decode cX7_recordBytes 7 = .ok (.aload_n 0, 1) := by decide +kernel
theorem dX7_recordBytes_8 : decode cX7_recordBytes 8 = .ok (.getfield 23, 3) := by decide +kernel
theorem dX7_recordBytes_11 : decode cX7_recordBytes 11 = .ok (.invokestatic 33, 3) := by decide +kernel
theorem dX7_recordBytes_14 : decode cX7_recordBytes 14 = .ok (.ireturn, 1) := by decide +kernel
def X7_recordBytes (a0 : Nat) : M Int32 := bd (gR 10 0 a0) (fun y1 => bd (ck 4 y1) (fun _ => bd (X1_size y1) (fun x2 => bd (gI 10 3 a0) (fun x3 => bd (X8_recordSize x2 x3) (fun x4 => pu x4)))))
section
variable {G : Gx} {p : Program} {l : Launch} {e : Env} {R : Room} {s : State} {m : MethodId} {args : Array Value} {below : List Frame} {meth : Method} {c : Code} {h0 : Hp} {r : Int32} {h' : Hp}
end
set_option maxRecDepth 20000 in
theorem con_X7_recordBytes (l : Launch) (G : Gx) (a0 : Nat) : Con G rvI l yX7_recordBytes cX7_recordBytes 1 (some .int) 2 51 [.ref a0] (X7_recordBytes a0) := by
  refine con_of (lv := [(0, .ref a0)]) (by decide) (Nat.le_of_ble_eq_true rfl) rfl (fun p e R s m args below meth c h0 r h' C hF hO hr hm => ?_)
  refine s_aload_n C 0 dX7_recordBytes_0 rfl rfl ?_
  refine s_gR C ci10 0 (by decide) (Or.inl wd_5_52) dX7_recordBytes_1 (fun y1 => ?_)
  refine s_invV_i C ci4 cy_X1_size (Or.inl wd_2_212) rfl wd_2_147 wd_2_148 (con_X1_size l G y1) rfl rfl (Nat.le_of_ble_eq_true rfl) (by rw [hF]; decide) (by rw [hO]; exact Nat.le_of_ble_eq_true rfl) dX7_recordBytes_4 (fun x2 => ?_)
  refine s_aload_n C 0 dX7_recordBytes_7 rfl rfl ?_
  refine s_gI C ci10 3 (by decide) (Or.inl wd_5_63) dX7_recordBytes_8 (fun x3 => ?_)
  refine s_invS_i C cy_X8_recordSize (Or.inr ⟨_, wd_2_213⟩) wd_2_214 (con_X8_recordSize l G x2 x3) rfl rfl (Nat.le_of_ble_eq_true rfl) (by rw [hF]; decide) (by rw [hO]; exact Nat.le_of_ble_eq_true rfl) dX7_recordBytes_11 (fun x4 => ?_)
  exact s_iret C hr rfl dX7_recordBytes_14

theorem dX2_liveBytes_0 : decode cX2_liveBytes 0 = .ok (.iconst 0, 1) := by decide +kernel
theorem dX2_liveBytes_1 : decode cX2_liveBytes 1 = .ok (.istore_n 1, 1) := by decide +kernel
theorem dX2_liveBytes_2 : decode cX2_liveBytes 2 = .ok (.iconst 0, 1) := by decide +kernel
theorem dX2_liveBytes_3 : decode cX2_liveBytes 3 = .ok (.istore_n 2, 1) := by decide +kernel
theorem dX2_liveBytes_4 : decode cX2_liveBytes 4 = .ok (.iload_n 2, 1) := by decide +kernel
theorem dX2_liveBytes_5 : decode cX2_liveBytes 5 = .ok (.aload_n 0, 1) := by decide +kernel
theorem dX2_liveBytes_6 : decode cX2_liveBytes 6 = .ok (.getfield 12, 3) := by decide +kernel
theorem dX2_liveBytes_9 : decode cX2_liveBytes 9 = .ok (.invokevirtual 21, 3) := by decide +kernel
theorem dX2_liveBytes_12 : decode cX2_liveBytes 12 = .ok (.if_icmp .ge 26, 3) := by decide +kernel
theorem dX2_liveBytes_15 : decode cX2_liveBytes 15 = .ok (.iload_n 1, 1) := by decide +kernel
theorem dX2_liveBytes_16 : decode cX2_liveBytes 16 = .ok (.aload_n 0, 1) := by decide +kernel
theorem dX2_liveBytes_17 : decode cX2_liveBytes 17 = .ok (.getfield 12, 3) := by decide +kernel
theorem dX2_liveBytes_20 : decode cX2_liveBytes 20 = .ok (.iload_n 2, 1) := by decide +kernel
theorem dX2_liveBytes_21 : decode cX2_liveBytes 21 = .ok (.invokevirtual 25, 3) := by decide +kernel
theorem dX2_liveBytes_24 : decode cX2_liveBytes 24 = .ok (.checkcast 29, 3) := by decide +kernel
theorem dX2_liveBytes_27 : decode cX2_liveBytes 27 = .ok (.invokevirtual 78, 3) := by decide +kernel
theorem dX2_liveBytes_30 : decode cX2_liveBytes 30 = .ok (.iadd, 1) := by decide +kernel
theorem dX2_liveBytes_31 : decode cX2_liveBytes 31 = .ok (.istore_n 1, 1) := by decide +kernel
theorem dX2_liveBytes_32 : decode cX2_liveBytes 32 = .ok (.iinc 2 1, 3) := by decide +kernel
theorem dX2_liveBytes_35 : decode cX2_liveBytes 35 = .ok (.goto (-31), 3) := by decide +kernel
theorem dX2_liveBytes_38 : decode cX2_liveBytes 38 = .ok (.iload_n 1, 1) := by decide +kernel
theorem dX2_liveBytes_39 : decode cX2_liveBytes 39 = .ok (.ireturn, 1) := by decide +kernel
def X2_liveBytes_b4b  (k4 : Nat → Int32 → Int32 → M Int32) (a0 : Nat) (i1 : Int32) (i2 : Int32) : M Int32 := bd (gR 5 0 a0) (fun y1 => bd (ck 2 y1) (fun _ => bd (Jx4a65c_size_8abf5 y1) (fun x2 => it (x2 ≤ i2) (pu i1) (bd (gR 5 0 a0) (fun y3 => bd (ck 2 y3) (fun _ => bd (Jx4a65c_get_915e3 y3 i2) (fun y4 => bd (ck 10 y4) (fun _ => bd (ck 10 y4) (fun _ => bd (X7_recordBytes y4) (fun x5 => bd (pu (i1 + x5)) (fun x6 => k4 a0 x6 (i2 + 1))))))))))))
def X2_liveBytes_b4  : Nat → Nat → Int32 → Int32 → M Int32
  | 0 => fun _ _ _ => fl
  | n + 1 => fun a0 i1 i2 => X2_liveBytes_b4b  (X2_liveBytes_b4  n) a0 i1 i2
def X2_liveBytes (a0 : Nat) : M Int32 := X2_liveBytes_b4  FU a0 0 0
section
variable {G : Gx} {p : Program} {l : Launch} {e : Env} {R : Room} {s : State} {m : MethodId} {args : Array Value} {below : List Frame} {meth : Method} {c : Code} {h0 : Hp} {r : Int32} {h' : Hp}
set_option maxRecDepth 20000 in
theorem X2_liveBytes_b4b_s (C : Cx G p R s m args meth c cX2_liveBytes 3 yX2_liveBytes.cls h0 h') (hF : R.frames = 3) (hO : R.locals = 71) (hr : meth.sig.returnType = (some .int)) (hm : meth.name = yX2_liveBytes.name)  {k4 : Nat → Int32 → Int32 → M Int32} (hk4 : ∀ (a0 : Nat) (i1 : Int32) (i2 : Int32), Sm G (QM G rvI below args s h0 r h') p l e R s m args below meth c 3 h0 r h' 4 [(0, .ref a0), (1, .int i1), (2, .int i2)] [] (k4 a0 i1 i2)) (a0 : Nat) (i1 : Int32) (i2 : Int32) : Sm G (QM G rvI below args s h0 r h') p l e R s m args below meth c 3 h0 r h' 4 [(0, .ref a0), (1, .int i1), (2, .int i2)] [] (X2_liveBytes_b4b  k4 a0 i1 i2) := by
  refine s_iload_n C 2 dX2_liveBytes_4 rfl rfl ?_
  refine s_aload_n C 0 dX2_liveBytes_5 rfl rfl ?_
  refine s_gR C ci5 0 (by decide) (Or.inl wd_1_122) dX2_liveBytes_6 (fun y1 => ?_)
  refine s_invV_i C ci2 cy_Jx4a65c_size_8abf5 (Or.inl wd_2_76) rfl wd_1_213 wd_1_214 (con_Jx4a65c_size_8abf5 l G y1) rfl rfl (Nat.le_of_ble_eq_true rfl) (by rw [hF]; decide) (by rw [hO]; exact Nat.le_of_ble_eq_true rfl) dX2_liveBytes_9 (fun x2 => ?_)
  refine s_icmp_ge (tgt := 38) C dX2_liveBytes_12 (by decide) ?_ ?_
  · refine s_iload_n C 1 dX2_liveBytes_38 rfl rfl ?_
    exact s_iret C hr rfl dX2_liveBytes_39
  refine s_iload_n C 1 dX2_liveBytes_15 rfl rfl ?_
  refine s_aload_n C 0 dX2_liveBytes_16 rfl rfl ?_
  refine s_gR C ci5 0 (by decide) (Or.inl wd_1_122) dX2_liveBytes_17 (fun y3 => ?_)
  refine s_iload_n C 2 dX2_liveBytes_20 rfl rfl ?_
  refine s_invV_r C ci2 cy_Jx4a65c_get_915e3 (Or.inl wd_2_162) rfl wd_2_139 wd_2_140 (con_Jx4a65c_get_915e3 l G y3 i2) rfl rfl (Nat.le_of_ble_eq_true rfl) (by rw [hF]; decide) (by rw [hO]; exact Nat.le_of_ble_eq_true rfl) dX2_liveBytes_21 (fun y4 => ?_)
  refine s_ck C ci10 wd_2_82 dX2_liveBytes_24 ?_
  refine s_invV_i C ci10 cy_X7_recordBytes (Or.inl wd_2_208) rfl wd_2_209 wd_2_210 (con_X7_recordBytes l G y4) rfl rfl (Nat.le_of_ble_eq_true rfl) (by rw [hF]; decide) (by rw [hO]; exact Nat.le_of_ble_eq_true rfl) dX2_liveBytes_27 (fun x5 => ?_)
  refine s_iadd C dX2_liveBytes_30 ?_
  refine s_let (fun x6 => ?_)
  refine s_istore_n (lv' := [(1, .int x6), (0, .ref a0), (2, .int i2)]) C dX2_liveBytes_31 rfl (by decide) rfl ?_
  refine s_iincK (lv' := [(2, .int (i2 + 1)), (1, .int x6), (0, .ref a0)]) (w := 1) C 2 dX2_liveBytes_32 rfl (by decide) (by decide) rfl ?_
  refine s_goto (tgt := 4) C dX2_liveBytes_35 (by decide) ?_
  refine s_sub [2, 1, 0] rfl ?_
  exact hk4 a0 x6 (i2 + 1)
set_option maxRecDepth 20000 in
theorem X2_liveBytes_b4_s (C : Cx G p R s m args meth c cX2_liveBytes 3 yX2_liveBytes.cls h0 h') (hF : R.frames = 3) (hO : R.locals = 71) (hr : meth.sig.returnType = (some .int)) (hm : meth.name = yX2_liveBytes.name)  (n : Nat) : ∀ (a0 : Nat) (i1 : Int32) (i2 : Int32), Sm G (QM G rvI below args s h0 r h') p l e R s m args below meth c 3 h0 r h' 4 [(0, .ref a0), (1, .int i1), (2, .int i2)] [] (X2_liveBytes_b4  n a0 i1 i2) := by
  induction n with
  | zero => intro a0 i1 i2; exact s_fl
  | succ n ih => intro a0 i1 i2; exact X2_liveBytes_b4b_s C hF hO hr hm  ih a0 i1 i2
end
set_option maxRecDepth 20000 in
theorem con_X2_liveBytes (l : Launch) (G : Gx) (a0 : Nat) : Con G rvI l yX2_liveBytes cX2_liveBytes 3 (some .int) 3 71 [.ref a0] (X2_liveBytes a0) := by
  refine con_of (lv := [(0, .ref a0)]) (by decide) (Nat.le_of_ble_eq_true rfl) rfl (fun p e R s m args below meth c h0 r h' C hF hO hr hm => ?_)
  refine s_iconst (v := 0) C dX2_liveBytes_0 (by decide) ?_
  refine s_istore_n (lv' := [(1, .int 0), (0, .ref a0)]) C dX2_liveBytes_1 rfl (by decide) rfl ?_
  refine s_iconst (v := 0) C dX2_liveBytes_2 (by decide) ?_
  refine s_istore_n (lv' := [(2, .int 0), (1, .int 0), (0, .ref a0)]) C dX2_liveBytes_3 rfl (by decide) rfl ?_
  refine s_sub [2, 1, 0] rfl ?_
  exact X2_liveBytes_b4_s C hF hO hr hm  FU a0 0 0

theorem dX2_countBelow_0 : decode cX2_countBelow 0 = .ok (.iconst 0, 1) := by decide +kernel
theorem dX2_countBelow_1 : decode cX2_countBelow 1 = .ok (.istore_n 2, 1) := by decide +kernel
theorem dX2_countBelow_2 : decode cX2_countBelow 2 = .ok (.iconst 0, 1) := by decide +kernel
theorem dX2_countBelow_3 : decode cX2_countBelow 3 = .ok (.istore_n 3, 1) := by decide +kernel
theorem dX2_countBelow_4 : decode cX2_countBelow 4 = .ok (.iload_n 3, 1) := by decide +kernel
theorem dX2_countBelow_5 : decode cX2_countBelow 5 = .ok (.aload_n 0, 1) := by decide +kernel
theorem dX2_countBelow_6 : decode cX2_countBelow 6 = .ok (.getfield 12, 3) := by decide +kernel
theorem dX2_countBelow_9 : decode cX2_countBelow 9 = .ok (.invokevirtual 21, 3) := by decide +kernel
theorem dX2_countBelow_12 : decode cX2_countBelow 12 = .ok (.if_icmp .ge 35, 3) := by decide +kernel
theorem dX2_countBelow_15 : decode cX2_countBelow 15 = .ok (.iload_n 2, 1) := by decide +kernel
theorem dX2_countBelow_16 : decode cX2_countBelow 16 = .ok (.aload_n 0, 1) := by decide +kernel
theorem dX2_countBelow_17 : decode cX2_countBelow 17 = .ok (.getfield 12, 3) := by decide +kernel
theorem dX2_countBelow_20 : decode cX2_countBelow 20 = .ok (.iload_n 3, 1) := by decide +kernel
theorem dX2_countBelow_21 : decode cX2_countBelow 21 = .ok (.invokevirtual 25, 3) := by decide +kernel
theorem dX2_countBelow_24 : decode cX2_countBelow 24 = .ok (.checkcast 29, 3) := by decide +kernel
theorem dX2_countBelow_27 : decode cX2_countBelow 27 = .ok (.getfield 81, 3) := by decide +kernel
theorem dX2_countBelow_30 : decode cX2_countBelow 30 = .ok (.iload_n 1, 1) := by decide +kernel
theorem dX2_countBelow_31 : decode cX2_countBelow 31 = .ok (.if_icmp .ge 7, 3) := by decide +kernel
theorem dX2_countBelow_34 : decode cX2_countBelow 34 = .ok (.iconst 1, 1) := by decide +kernel
theorem dX2_countBelow_35 : decode cX2_countBelow 35 = .ok (.goto 4, 3) := by decide +kernel
theorem dX2_countBelow_38 : decode cX2_countBelow 38 = .ok (.iconst 0, 1) := by decide +kernel
theorem dX2_countBelow_39 : decode cX2_countBelow 39 = .ok (.iadd, 1) := by decide +kernel
theorem dX2_countBelow_40 : decode cX2_countBelow 40 = .ok (.istore_n 2, 1) := by decide +kernel
theorem dX2_countBelow_41 : decode cX2_countBelow 41 = .ok (.iinc 3 1, 3) := by decide +kernel
theorem dX2_countBelow_44 : decode cX2_countBelow 44 = .ok (.goto (-40), 3) := by decide +kernel
theorem dX2_countBelow_47 : decode cX2_countBelow 47 = .ok (.iload_n 2, 1) := by decide +kernel
theorem dX2_countBelow_48 : decode cX2_countBelow 48 = .ok (.ireturn, 1) := by decide +kernel
def X2_countBelow_b39 (k4 : Nat → Int32 → Int32 → Int32 → M Int32)  (a0 : Nat) (i1 : Int32) (i3 : Int32) (s0 : Int32) (s1 : Int32) : M Int32 := bd (pu (s1 + s0)) (fun x1 => k4 a0 i1 x1 (i3 + 1))
def X2_countBelow_b4b  (k4 : Nat → Int32 → Int32 → Int32 → M Int32) (a0 : Nat) (i1 : Int32) (i2 : Int32) (i3 : Int32) : M Int32 := bd (gR 5 0 a0) (fun y1 => bd (ck 2 y1) (fun _ => bd (Jx4a65c_size_8abf5 y1) (fun x2 => it (x2 ≤ i3) (pu i2) (bd (gR 5 0 a0) (fun y3 => bd (ck 2 y3) (fun _ => bd (Jx4a65c_get_915e3 y3 i3) (fun y4 => bd (ck 10 y4) (fun _ => bd (gI 10 1 y4) (fun x5 => it (i1 ≤ x5) (X2_countBelow_b39 k4  a0 i1 i3 0 i2) (X2_countBelow_b39 k4  a0 i1 i3 1 i2))))))))))
def X2_countBelow_b4  : Nat → Nat → Int32 → Int32 → Int32 → M Int32
  | 0 => fun _ _ _ _ => fl
  | n + 1 => fun a0 i1 i2 i3 => X2_countBelow_b4b  (X2_countBelow_b4  n) a0 i1 i2 i3
def X2_countBelow (a0 : Nat) (i1 : Int32) : M Int32 := X2_countBelow_b4  FU a0 i1 0 0
section
variable {G : Gx} {p : Program} {l : Launch} {e : Env} {R : Room} {s : State} {m : MethodId} {args : Array Value} {below : List Frame} {meth : Method} {c : Code} {h0 : Hp} {r : Int32} {h' : Hp}
set_option maxRecDepth 20000 in
theorem X2_countBelow_b39_s (C : Cx G p R s m args meth c cX2_countBelow 4 yX2_countBelow.cls h0 h') (hF : R.frames = 3) (hO : R.locals = 64) (hr : meth.sig.returnType = (some .int)) (hm : meth.name = yX2_countBelow.name) {k4 : Nat → Int32 → Int32 → Int32 → M Int32} (hk4 : ∀ (a0 : Nat) (i1 : Int32) (i2 : Int32) (i3 : Int32), Sm G (QM G rvI below args s h0 r h') p l e R s m args below meth c 4 h0 r h' 4 [(0, .ref a0), (1, .int i1), (2, .int i2), (3, .int i3)] [] (k4 a0 i1 i2 i3))  (a0 : Nat) (i1 : Int32) (i3 : Int32) (s0 : Int32) (s1 : Int32) : Sm G (QM G rvI below args s h0 r h') p l e R s m args below meth c 4 h0 r h' 39 [(0, .ref a0), (1, .int i1), (3, .int i3)] [.int s0, .int s1] (X2_countBelow_b39 k4  a0 i1 i3 s0 s1) := by
  refine s_iadd C dX2_countBelow_39 ?_
  refine s_let (fun x1 => ?_)
  refine s_istore_n (lv' := [(2, .int x1), (0, .ref a0), (1, .int i1), (3, .int i3)]) C dX2_countBelow_40 rfl (by decide) rfl ?_
  refine s_iincK (lv' := [(3, .int (i3 + 1)), (2, .int x1), (0, .ref a0), (1, .int i1)]) (w := 1) C 3 dX2_countBelow_41 rfl (by decide) (by decide) rfl ?_
  refine s_goto (tgt := 4) C dX2_countBelow_44 (by decide) ?_
  refine s_sub [2, 3, 1, 0] rfl ?_
  exact hk4 a0 i1 x1 (i3 + 1)
set_option maxRecDepth 20000 in
theorem X2_countBelow_b4b_s (C : Cx G p R s m args meth c cX2_countBelow 4 yX2_countBelow.cls h0 h') (hF : R.frames = 3) (hO : R.locals = 64) (hr : meth.sig.returnType = (some .int)) (hm : meth.name = yX2_countBelow.name)  {k4 : Nat → Int32 → Int32 → Int32 → M Int32} (hk4 : ∀ (a0 : Nat) (i1 : Int32) (i2 : Int32) (i3 : Int32), Sm G (QM G rvI below args s h0 r h') p l e R s m args below meth c 4 h0 r h' 4 [(0, .ref a0), (1, .int i1), (2, .int i2), (3, .int i3)] [] (k4 a0 i1 i2 i3)) (a0 : Nat) (i1 : Int32) (i2 : Int32) (i3 : Int32) : Sm G (QM G rvI below args s h0 r h') p l e R s m args below meth c 4 h0 r h' 4 [(0, .ref a0), (1, .int i1), (2, .int i2), (3, .int i3)] [] (X2_countBelow_b4b  k4 a0 i1 i2 i3) := by
  refine s_iload_n C 3 dX2_countBelow_4 rfl rfl ?_
  refine s_aload_n C 0 dX2_countBelow_5 rfl rfl ?_
  refine s_gR C ci5 0 (by decide) (Or.inl wd_1_122) dX2_countBelow_6 (fun y1 => ?_)
  refine s_invV_i C ci2 cy_Jx4a65c_size_8abf5 (Or.inl wd_2_76) rfl wd_1_213 wd_1_214 (con_Jx4a65c_size_8abf5 l G y1) rfl rfl (Nat.le_of_ble_eq_true rfl) (by rw [hF]; decide) (by rw [hO]; exact Nat.le_of_ble_eq_true rfl) dX2_countBelow_9 (fun x2 => ?_)
  refine s_icmp_ge (tgt := 47) C dX2_countBelow_12 (by decide) ?_ ?_
  · refine s_iload_n C 2 dX2_countBelow_47 rfl rfl ?_
    exact s_iret C hr rfl dX2_countBelow_48
  refine s_iload_n C 2 dX2_countBelow_15 rfl rfl ?_
  refine s_aload_n C 0 dX2_countBelow_16 rfl rfl ?_
  refine s_gR C ci5 0 (by decide) (Or.inl wd_1_122) dX2_countBelow_17 (fun y3 => ?_)
  refine s_iload_n C 3 dX2_countBelow_20 rfl rfl ?_
  refine s_invV_r C ci2 cy_Jx4a65c_get_915e3 (Or.inl wd_2_162) rfl wd_2_139 wd_2_140 (con_Jx4a65c_get_915e3 l G y3 i3) rfl rfl (Nat.le_of_ble_eq_true rfl) (by rw [hF]; decide) (by rw [hO]; exact Nat.le_of_ble_eq_true rfl) dX2_countBelow_21 (fun y4 => ?_)
  refine s_ck C ci10 wd_2_82 dX2_countBelow_24 ?_
  refine s_gI C ci10 1 (by decide) (Or.inr (Or.inr ⟨_, wd_5_59⟩)) dX2_countBelow_27 (fun x5 => ?_)
  refine s_iload_n C 1 dX2_countBelow_30 rfl rfl ?_
  refine s_icmp_ge (tgt := 38) C dX2_countBelow_31 (by decide) ?_ ?_
  · refine s_iconst (v := 0) C dX2_countBelow_38 (by decide) ?_
    refine s_sub [0, 1, 3] rfl ?_
    exact X2_countBelow_b39_s C hF hO hr hm hk4  a0 i1 i3 0 i2
  refine s_iconst (v := 1) C dX2_countBelow_34 (by decide) ?_
  refine s_goto (tgt := 39) C dX2_countBelow_35 (by decide) ?_
  refine s_sub [0, 1, 3] rfl ?_
  exact X2_countBelow_b39_s C hF hO hr hm hk4  a0 i1 i3 1 i2
set_option maxRecDepth 20000 in
theorem X2_countBelow_b4_s (C : Cx G p R s m args meth c cX2_countBelow 4 yX2_countBelow.cls h0 h') (hF : R.frames = 3) (hO : R.locals = 64) (hr : meth.sig.returnType = (some .int)) (hm : meth.name = yX2_countBelow.name)  (n : Nat) : ∀ (a0 : Nat) (i1 : Int32) (i2 : Int32) (i3 : Int32), Sm G (QM G rvI below args s h0 r h') p l e R s m args below meth c 4 h0 r h' 4 [(0, .ref a0), (1, .int i1), (2, .int i2), (3, .int i3)] [] (X2_countBelow_b4  n a0 i1 i2 i3) := by
  induction n with
  | zero => intro a0 i1 i2 i3; exact s_fl
  | succ n ih => intro a0 i1 i2 i3; exact X2_countBelow_b4b_s C hF hO hr hm  ih a0 i1 i2 i3
end
set_option maxRecDepth 20000 in
theorem con_X2_countBelow (l : Launch) (G : Gx) (a0 : Nat) (i1 : Int32) : Con G rvI l yX2_countBelow cX2_countBelow 4 (some .int) 3 64 [.ref a0, .int i1] (X2_countBelow a0 i1) := by
  refine con_of (lv := [(0, .ref a0), (1, .int i1)]) (by decide) (Nat.le_of_ble_eq_true rfl) rfl (fun p e R s m args below meth c h0 r h' C hF hO hr hm => ?_)
  refine s_iconst (v := 0) C dX2_countBelow_0 (by decide) ?_
  refine s_istore_n (lv' := [(2, .int 0), (0, .ref a0), (1, .int i1)]) C dX2_countBelow_1 rfl (by decide) rfl ?_
  refine s_iconst (v := 0) C dX2_countBelow_2 (by decide) ?_
  refine s_istore_n (lv' := [(3, .int 0), (2, .int 0), (0, .ref a0), (1, .int i1)]) C dX2_countBelow_3 rfl (by decide) rfl ?_
  refine s_sub [2, 3, 1, 0] rfl ?_
  exact X2_countBelow_b4_s C hF hO hr hm  FU a0 i1 0 0

theorem dX7_liesAhead_0 : decode cX7_liesAhead 0 = .ok (.aload_n 0, 1) := by decide +kernel
theorem dX7_liesAhead_1 : decode cX7_liesAhead 1 = .ok (.getfield 16, 3) := by decide +kernel
theorem dX7_liesAhead_4 : decode cX7_liesAhead 4 = .ok (.aload_n 1, 1) := by decide +kernel
theorem dX7_liesAhead_5 : decode cX7_liesAhead 5 = .ok (.getfield 16, 3) := by decide +kernel
theorem dX7_liesAhead_8 : decode cX7_liesAhead 8 = .ok (.if_icmp .lt 25, 3) := by decide +kernel
theorem dX7_liesAhead_11 : decode cX7_liesAhead 11 = .ok (.aload_n 0, 1) := by decide +kernel
theorem dX7_liesAhead_12 : decode cX7_liesAhead 12 = .ok (.getfield 16, 3) := by decide +kernel
theorem dX7_liesAhead_15 : decode cX7_liesAhead 15 = .ok (.aload_n 1, 1) := by decide +kernel
theorem dX7_liesAhead_16 : decode cX7_liesAhead 16 = .ok (.getfield 16, 3) := by decide +kernel
theorem dX7_liesAhead_19 : decode cX7_liesAhead 19 = .ok (.if_icmp .ne 18, 3) := by decide +kernel
theorem dX7_liesAhead_22 : decode cX7_liesAhead 22 = .ok (.aload_n 0, 1) := by decide +kernel
theorem dX7_liesAhead_23 : decode cX7_liesAhead 23 = .ok (.getfield 20, 3) := by decide +kernel
theorem dX7_liesAhead_26 : decode cX7_liesAhead 26 = .ok (.aload_n 1, 1) := by decide +kernel
theorem dX7_liesAhead_27 : decode cX7_liesAhead 27 = .ok (.getfield 20, 3) := by decide +kernel
theorem dX7_liesAhead_30 : decode cX7_liesAhead 30 = .ok (.if_icmp .ge 7, 3) := by decide +kernel
theorem dX7_liesAhead_33 : decode cX7_liesAhead 33 = .ok (.iconst 1, 1) := by decide +kernel
theorem dX7_liesAhead_34 : decode cX7_liesAhead 34 = .ok (.goto 4, 3) := by decide +kernel
theorem dX7_liesAhead_37 : decode cX7_liesAhead 37 = .ok (.iconst 0, 1) := by decide +kernel
theorem dX7_liesAhead_38 : decode cX7_liesAhead 38 = .ok (.ireturn, 1) := by decide +kernel
def X7_liesAhead_b33    : M Int32 := pu 1
def X7_liesAhead (a0 : Nat) (a1 : Nat) : M Int32 := bd (gI 10 1 a0) (fun x1 => bd (gI 10 1 a1) (fun x2 => it (x1 < x2) (X7_liesAhead_b33   ) (bd (gI 10 1 a0) (fun x3 => bd (gI 10 1 a1) (fun x4 => it (¬ x3 = x4) (pu 0) (bd (gI 10 2 a0) (fun x5 => bd (gI 10 2 a1) (fun x6 => it (x6 ≤ x5) (pu 0) (X7_liesAhead_b33   )))))))))
section
variable {G : Gx} {p : Program} {l : Launch} {e : Env} {R : Room} {s : State} {m : MethodId} {args : Array Value} {below : List Frame} {meth : Method} {c : Code} {h0 : Hp} {r : Int32} {h' : Hp}
set_option maxRecDepth 20000 in
theorem X7_liesAhead_b33_s (C : Cx G p R s m args meth c cX7_liesAhead 2 yX7_liesAhead.cls h0 h') (hF : R.frames = 0) (hO : R.locals = 0) (hr : meth.sig.returnType = (some .boolean)) (hm : meth.name = yX7_liesAhead.name)    : Sm G (QM G rvI below args s h0 r h') p l e R s m args below meth c 2 h0 r h' 33 [] [] (X7_liesAhead_b33   ) := by
  refine s_iconst (v := 1) C dX7_liesAhead_33 (by decide) ?_
  refine s_goto (tgt := 38) C dX7_liesAhead_34 (by decide) ?_
  exact s_zret C hr rfl (Or.inr rfl) dX7_liesAhead_38
end
set_option maxRecDepth 20000 in
theorem con_X7_liesAhead (l : Launch) (G : Gx) (a0 : Nat) (a1 : Nat) : Con G rvI l yX7_liesAhead cX7_liesAhead 2 (some .boolean) 0 0 [.ref a0, .ref a1] (X7_liesAhead a0 a1) := by
  refine con_of (lv := [(0, .ref a0), (1, .ref a1)]) (by decide) (Nat.le_of_ble_eq_true rfl) rfl (fun p e R s m args below meth c h0 r h' C hF hO hr hm => ?_)
  refine s_aload_n C 0 dX7_liesAhead_0 rfl rfl ?_
  refine s_gI C ci10 1 (by decide) (Or.inl wd_5_56) dX7_liesAhead_1 (fun x1 => ?_)
  refine s_aload_n C 1 dX7_liesAhead_4 rfl rfl ?_
  refine s_gI C ci10 1 (by decide) (Or.inl wd_5_56) dX7_liesAhead_5 (fun x2 => ?_)
  refine s_icmp_lt (tgt := 33) C dX7_liesAhead_8 (by decide) ?_ ?_
  · refine s_sub [] rfl ?_
    exact X7_liesAhead_b33_s C hF hO hr hm   
  refine s_aload_n C 0 dX7_liesAhead_11 rfl rfl ?_
  refine s_gI C ci10 1 (by decide) (Or.inl wd_5_56) dX7_liesAhead_12 (fun x3 => ?_)
  refine s_aload_n C 1 dX7_liesAhead_15 rfl rfl ?_
  refine s_gI C ci10 1 (by decide) (Or.inl wd_5_56) dX7_liesAhead_16 (fun x4 => ?_)
  refine s_icmp_ne (tgt := 37) C dX7_liesAhead_19 (by decide) ?_ ?_
  · refine s_iconst (v := 0) C dX7_liesAhead_37 (by decide) ?_
    exact s_zret C hr rfl (Or.inl rfl) dX7_liesAhead_38
  refine s_aload_n C 0 dX7_liesAhead_22 rfl rfl ?_
  refine s_gI C ci10 2 (by decide) (Or.inl wd_5_60) dX7_liesAhead_23 (fun x5 => ?_)
  refine s_aload_n C 1 dX7_liesAhead_26 rfl rfl ?_
  refine s_gI C ci10 2 (by decide) (Or.inl wd_5_60) dX7_liesAhead_27 (fun x6 => ?_)
  refine s_icmp_ge (tgt := 37) C dX7_liesAhead_30 (by decide) ?_ ?_
  · refine s_iconst (v := 0) C dX7_liesAhead_37 (by decide) ?_
    exact s_zret C hr rfl (Or.inl rfl) dX7_liesAhead_38
  refine s_sub [] rfl ?_
  exact X7_liesAhead_b33_s C hF hO hr hm   

theorem dX2_isAhead_0 : decode cX2_isAhead 0 = .ok (.aload_n 0, 1) := by decide +kernel
theorem dX2_isAhead_1 : decode cX2_isAhead 1 = .ok (.iload_n 1, 1) := by decide +kernel
theorem dX2_isAhead_2 : decode cX2_isAhead 2 = .ok (.invokevirtual 88, 3) := by decide +kernel
theorem dX2_isAhead_5 : decode cX2_isAhead 5 = .ok (.astore_n 3, 1) := by decide +kernel
theorem dX2_isAhead_6 : decode cX2_isAhead 6 = .ok (.aload_n 0, 1) := by decide +kernel
theorem dX2_isAhead_7 : decode cX2_isAhead 7 = .ok (.iload_n 2, 1) := by decide +kernel
theorem dX2_isAhead_8 : decode cX2_isAhead 8 = .ok (.invokevirtual 88, 3) := by decide +kernel
theorem dX2_isAhead_11 : decode cX2_isAhead 11 = .ok (.astore 4, 2) := by decide +kernel
theorem dX2_isAhead_13 : decode cX2_isAhead 13 = .ok (.aload_n 3, 1) := by decide +kernel
theorem dX2_isAhead_14 : decode cX2_isAhead 14 = .ok (.ifnull 8, 3) := by decide +kernel
theorem dX2_isAhead_17 : decode cX2_isAhead 17 = .ok (.aload 4, 2) := by decide +kernel
theorem dX2_isAhead_19 : decode cX2_isAhead 19 = .ok (.ifnonnull 5, 3) := by decide +kernel
theorem dX2_isAhead_22 : decode cX2_isAhead 22 = .ok (.iconst 0, 1) := by decide +kernel
theorem dX2_isAhead_23 : decode cX2_isAhead 23 = .ok (.ireturn, 1) := by decide +kernel
theorem dX2_isAhead_24 : decode cX2_isAhead 24 = .ok (.aload_n 3, 1) := by decide +kernel
theorem dX2_isAhead_25 : decode cX2_isAhead 25 = .ok (.aload 4, 2) := by decide +kernel
theorem dX2_isAhead_27 : decode cX2_isAhead 27 = .ok (.invokevirtual 92, 3) := by decide +kernel
theorem dX2_isAhead_30 : decode cX2_isAhead 30 = .ok (.ifCond .ne 17, 3) := by decide +kernel
theorem dX2_isAhead_33 : decode cX2_isAhead 33 = .ok (.iload_n 1, 1) := by decide +kernel
theorem dX2_isAhead_34 : decode cX2_isAhead 34 = .ok (.iload_n 2, 1) := by decide +kernel
theorem dX2_isAhead_35 : decode cX2_isAhead 35 = .ok (.if_icmp .ge 16, 3) := by decide +kernel
theorem dX2_isAhead_38 : decode cX2_isAhead 38 = .ok (.aload 4, 2) := by decide +kernel
theorem dX2_isAhead_40 : decode cX2_isAhead 40 = .ok (.aload_n 3, 1) := by decide +kernel
theorem dX2_isAhead_41 : decode cX2_isAhead 41 = .ok (.invokevirtual 92, 3) := by decide +kernel
theorem dX2_isAhead_44 : decode cX2_isAhead 44 = .ok (.ifCond .ne 7, 3) := by decide +kernel
theorem dX2_isAhead_47 : decode cX2_isAhead 47 = .ok (.iconst 1, 1) := by decide +kernel
theorem dX2_isAhead_48 : decode cX2_isAhead 48 = .ok (.goto 4, 3) := by decide +kernel
theorem dX2_isAhead_51 : decode cX2_isAhead 51 = .ok (.iconst 0, 1) := by decide +kernel
theorem dX2_isAhead_52 : decode cX2_isAhead 52 = .ok (.ireturn, 1) := by decide +kernel
def X2_isAhead_b47    : M Int32 := pu 1
def X2_isAhead (a0 : Nat) (i1 : Int32) (i2 : Int32) : M Int32 := bd (ck 5 a0) (fun _ => bd (X2_row a0 i1) (fun z1 => bd (ck 5 a0) (fun _ => bd (X2_row a0 i2) (fun z2 => co z1 (pu 0) (fun y3 => co z2 (pu 0) (fun y4 => bd (ck 10 y3) (fun _ => bd (X7_liesAhead y3 y4) (fun x5 => it (¬ x5 = 0) (X2_isAhead_b47   ) (it (i2 ≤ i1) (pu 0) (bd (ck 10 y4) (fun _ => bd (X7_liesAhead y4 y3) (fun x6 => it (¬ x6 = 0) (pu 0) (X2_isAhead_b47   )))))))))))))
section
variable {G : Gx} {p : Program} {l : Launch} {e : Env} {R : Room} {s : State} {m : MethodId} {args : Array Value} {below : List Frame} {meth : Method} {c : Code} {h0 : Hp} {r : Int32} {h' : Hp}
set_option maxRecDepth 20000 in
theorem X2_isAhead_b47_s (C : Cx G p R s m args meth c cX2_isAhead 5 yX2_isAhead.cls h0 h') (hF : R.frames = 4) (hO : R.locals = 85) (hr : meth.sig.returnType = (some .boolean)) (hm : meth.name = yX2_isAhead.name)    : Sm G (QM G rvI below args s h0 r h') p l e R s m args below meth c 5 h0 r h' 47 [] [] (X2_isAhead_b47   ) := by
  refine s_iconst (v := 1) C dX2_isAhead_47 (by decide) ?_
  refine s_goto (tgt := 52) C dX2_isAhead_48 (by decide) ?_
  exact s_zret C hr rfl (Or.inr rfl) dX2_isAhead_52
end
set_option maxRecDepth 20000 in
theorem con_X2_isAhead (l : Launch) (G : Gx) (a0 : Nat) (i1 : Int32) (i2 : Int32) : Con G rvI l yX2_isAhead cX2_isAhead 5 (some .boolean) 4 85 [.ref a0, .int i1, .int i2] (X2_isAhead a0 i1 i2) := by
  refine con_of (lv := [(0, .ref a0), (1, .int i1), (2, .int i2)]) (by decide) (Nat.le_of_ble_eq_true rfl) rfl (fun p e R s m args below meth c h0 r h' C hF hO hr hm => ?_)
  refine s_aload_n C 0 dX2_isAhead_0 rfl rfl ?_
  refine s_iload_n C 1 dX2_isAhead_1 rfl rfl ?_
  refine s_invV_o C ci5 cy_X2_row (Or.inl wd_6_22) rfl wd_2_159 wd_2_160 (con_X2_row l G a0 i1) rfl rfl (Nat.le_of_ble_eq_true rfl) (by rw [hF]; decide) (by rw [hO]; exact Nat.le_of_ble_eq_true rfl) dX2_isAhead_2 (fun z1 => ?_)
  refine s_ostore_n (lv' := [(3, va_rf z1), (0, .ref a0), (1, .int i1), (2, .int i2)]) C dX2_isAhead_5 rfl (by decide) rfl ?_
  refine s_aload_n C 1 dX2_isAhead_6 rfl rfl ?_
  refine s_iload_n C 3 dX2_isAhead_7 rfl rfl ?_
  refine s_invV_o C ci5 cy_X2_row (Or.inl wd_6_22) rfl wd_2_159 wd_2_160 (con_X2_row l G a0 i2) rfl rfl (Nat.le_of_ble_eq_true rfl) (by rw [hF]; decide) (by rw [hO]; exact Nat.le_of_ble_eq_true rfl) dX2_isAhead_8 (fun z2 => ?_)
  refine s_ostore (lv' := [(4, va_rf z2), (3, va_rf z1), (0, .ref a0), (1, .int i1), (2, .int i2)]) C dX2_isAhead_11 (by decide) (by cases z1 <;> rfl) ?_
  refine s_oload_n C 1 dX2_isAhead_13 rfl rfl ?_
  refine s_ifnull (tgt := 22) C dX2_isAhead_14 (by decide) (fun hq => ?_) (fun y3 hq => ?_)
  · subst hq
    refine s_iconst (v := 0) C dX2_isAhead_22 (by decide) ?_
    exact s_zret C hr rfl (Or.inl rfl) dX2_isAhead_23
  subst hq
  refine s_oload C 0 dX2_isAhead_17 rfl ?_
  refine s_ifnonnull (tgt := 24) C dX2_isAhead_19 (by decide) (fun hq => ?_) (fun y4 hq => ?_)
  · subst hq
    refine s_iconst (v := 0) C dX2_isAhead_22 (by decide) ?_
    exact s_zret C hr rfl (Or.inl rfl) dX2_isAhead_23
  subst hq
  refine s_aload_n C 1 dX2_isAhead_24 rfl rfl ?_
  refine s_aload C 0 dX2_isAhead_25 rfl ?_
  refine s_invV_i C ci10 cy_X7_liesAhead (Or.inl wd_6_23) rfl wd_6_24 wd_6_25 (con_X7_liesAhead l G y3 y4) rfl rfl (Nat.le_of_ble_eq_true rfl) (by rw [hF]; decide) (by rw [hO]; exact Nat.le_of_ble_eq_true rfl) dX2_isAhead_27 (fun x5 => ?_)
  refine s_if_ne (tgt := 47) C dX2_isAhead_30 (by decide) ?_ ?_
  · refine s_sub [] rfl ?_
    exact X2_isAhead_b47_s C hF hO hr hm   
  refine s_iload_n C 3 dX2_isAhead_33 rfl rfl ?_
  refine s_iload_n C 4 dX2_isAhead_34 rfl rfl ?_
  refine s_icmp_ge (tgt := 51) C dX2_isAhead_35 (by decide) ?_ ?_
  · refine s_iconst (v := 0) C dX2_isAhead_51 (by decide) ?_
    exact s_zret C hr rfl (Or.inl rfl) dX2_isAhead_52
  refine s_aload C 0 dX2_isAhead_38 rfl ?_
  refine s_aload_n C 1 dX2_isAhead_40 rfl rfl ?_
  refine s_invV_i C ci10 cy_X7_liesAhead (Or.inl wd_6_23) rfl wd_6_24 wd_6_25 (con_X7_liesAhead l G y4 y3) rfl rfl (Nat.le_of_ble_eq_true rfl) (by rw [hF]; decide) (by rw [hO]; exact Nat.le_of_ble_eq_true rfl) dX2_isAhead_41 (fun x6 => ?_)
  refine s_if_ne (tgt := 51) C dX2_isAhead_44 (by decide) ?_ ?_
  · refine s_iconst (v := 0) C dX2_isAhead_51 (by decide) ?_
    exact s_zret C hr rfl (Or.inl rfl) dX2_isAhead_52
  refine s_sub [] rfl ?_
  exact X2_isAhead_b47_s C hF hO hr hm   

theorem dX2_nextBelow_0 : decode cX2_nextBelow 0 = .ok (.iconst (-1), 1) := by decide +kernel
theorem dX2_nextBelow_1 : decode cX2_nextBelow 1 = .ok (.istore_n 3, 1) := by decide +kernel
theorem dX2_nextBelow_2 : decode cX2_nextBelow 2 = .ok (.iconst 0, 1) := by decide +kernel
theorem dX2_nextBelow_3 : decode cX2_nextBelow 3 = .ok (.istore 4, 2) := by decide +kernel
theorem dX2_nextBelow_5 : decode cX2_nextBelow 5 = .ok (.iload 4, 2) := by decide +kernel
theorem dX2_nextBelow_7 : decode cX2_nextBelow 7 = .ok (.aload_n 0, 1) := by decide +kernel
theorem dX2_nextBelow_8 : decode cX2_nextBelow 8 = .ok (.getfield 12, 3) := by decide +kernel
theorem dX2_nextBelow_11 : decode cX2_nextBelow 11 = .ok (.invokevirtual 21, 3) := by decide +kernel
theorem dX2_nextBelow_14 : decode cX2_nextBelow 14 = .ok (.if_icmp .ge 71, 3) := by decide +kernel
theorem dX2_nextBelow_17 : decode cX2_nextBelow 17 = .ok (.iload_n 2, 1) := by decide +kernel
theorem dX2_nextBelow_18 : decode cX2_nextBelow 18 = .ok (.ifCond .lt 13, 3) := by decide +kernel
theorem dX2_nextBelow_21 : decode cX2_nextBelow 21 = .ok (.aload_n 0, 1) := by decide +kernel
theorem dX2_nextBelow_22 : decode cX2_nextBelow 22 = .ok (.iload_n 2, 1) := by decide +kernel
theorem dX2_nextBelow_23 : decode cX2_nextBelow 23 = .ok (.iload 4, 2) := by decide +kernel
theorem dX2_nextBelow_25 : decode cX2_nextBelow 25 = .ok (.invokevirtual 84, 3) := by decide +kernel
theorem dX2_nextBelow_28 : decode cX2_nextBelow 28 = .ok (.ifCond .eq 7, 3) := by decide +kernel
theorem dX2_nextBelow_31 : decode cX2_nextBelow 31 = .ok (.iconst 1, 1) := by decide +kernel
theorem dX2_nextBelow_32 : decode cX2_nextBelow 32 = .ok (.goto 4, 3) := by decide +kernel
theorem dX2_nextBelow_35 : decode cX2_nextBelow 35 = .ok (.iconst 0, 1) := by decide +kernel
theorem dX2_nextBelow_36 : decode cX2_nextBelow 36 = .ok (.istore 5, 2) := by decide +kernel
theorem dX2_nextBelow_38 : decode cX2_nextBelow 38 = .ok (.aload_n 0, 1) := by decide +kernel
theorem dX2_nextBelow_39 : decode cX2_nextBelow 39 = .ok (.getfield 12, 3) := by decide +kernel
theorem dX2_nextBelow_42 : decode cX2_nextBelow 42 = .ok (.iload 4, 2) := by decide +kernel
theorem dX2_nextBelow_44 : decode cX2_nextBelow 44 = .ok (.invokevirtual 25, 3) := by decide +kernel
theorem dX2_nextBelow_47 : decode cX2_nextBelow 47 = .ok (.checkcast 29, 3) := by decide +kernel
theorem dX2_nextBelow_50 : decode cX2_nextBelow 50 = .ok (.getfield 81, 3) := by decide +kernel
theorem dX2_nextBelow_53 : decode cX2_nextBelow 53 = .ok (.iload_n 1, 1) := by decide +kernel
theorem dX2_nextBelow_54 : decode cX2_nextBelow 54 = .ok (.if_icmp .ge 25, 3) := by decide +kernel
theorem dX2_nextBelow_57 : decode cX2_nextBelow 57 = .ok (.iload 5, 2) := by decide +kernel
theorem dX2_nextBelow_59 : decode cX2_nextBelow 59 = .ok (.ifCond .eq 20, 3) := by decide +kernel
theorem dX2_nextBelow_62 : decode cX2_nextBelow 62 = .ok (.iload_n 3, 1) := by decide +kernel
theorem dX2_nextBelow_63 : decode cX2_nextBelow 63 = .ok (.ifCond .lt 13, 3) := by decide +kernel
theorem dX2_nextBelow_66 : decode cX2_nextBelow 66 = .ok (.aload_n 0, 1) := by decide +kernel
theorem dX2_nextBelow_67 : decode cX2_nextBelow 67 = .ok (.iload 4, 2) := by decide +kernel
theorem dX2_nextBelow_69 : decode cX2_nextBelow 69 = .ok (.iload_n 3, 1) := by decide +kernel
theorem dX2_nextBelow_70 : decode cX2_nextBelow 70 = .ok (.invokevirtual 84, 3) := by decide +kernel
theorem dX2_nextBelow_73 : decode cX2_nextBelow 73 = .ok (.ifCond .eq 6, 3) := by decide +kernel
theorem dX2_nextBelow_76 : decode cX2_nextBelow 76 = .ok (.iload 4, 2) := by decide +kernel
theorem dX2_nextBelow_78 : decode cX2_nextBelow 78 = .ok (.istore_n 3, 1) := by decide +kernel
theorem dX2_nextBelow_79 : decode cX2_nextBelow 79 = .ok (.iinc 4 1, 3) := by decide +kernel
theorem dX2_nextBelow_82 : decode cX2_nextBelow 82 = .ok (.goto (-77), 3) := by decide +kernel
theorem dX2_nextBelow_85 : decode cX2_nextBelow 85 = .ok (.iload_n 3, 1) := by decide +kernel
theorem dX2_nextBelow_86 : decode cX2_nextBelow 86 = .ok (.ireturn, 1) := by decide +kernel
def X2_nextBelow_b79 (k5 : Nat → Int32 → Int32 → Int32 → Int32 → M Int32)  (a0 : Nat) (i1 : Int32) (i2 : Int32) (i3 : Int32) (i4 : Int32) : M Int32 := k5 a0 i1 i2 i3 (i4 + 1)
def X2_nextBelow_b76 (k5 : Nat → Int32 → Int32 → Int32 → Int32 → M Int32)  (a0 : Nat) (i1 : Int32) (i2 : Int32) (i4 : Int32) : M Int32 := X2_nextBelow_b79 k5  a0 i1 i2 i4 i4
def X2_nextBelow_b36 (k5 : Nat → Int32 → Int32 → Int32 → Int32 → M Int32)  (a0 : Nat) (i1 : Int32) (i2 : Int32) (i3 : Int32) (i4 : Int32) (s0 : Int32) : M Int32 := bd (gR 5 0 a0) (fun y1 => bd (ck 2 y1) (fun _ => bd (Jx4a65c_get_915e3 y1 i4) (fun y2 => bd (ck 10 y2) (fun _ => bd (gI 10 1 y2) (fun x3 => it (i1 ≤ x3) (X2_nextBelow_b79 k5  a0 i1 i2 i3 i4) (it (s0 = 0) (X2_nextBelow_b79 k5  a0 i1 i2 i3 i4) (it (i3 < 0) (X2_nextBelow_b76 k5  a0 i1 i2 i4) (bd (ck 5 a0) (fun _ => bd (X2_isAhead a0 i4 i3) (fun x4 => it (x4 = 0) (X2_nextBelow_b79 k5  a0 i1 i2 i3 i4) (X2_nextBelow_b76 k5  a0 i1 i2 i4)))))))))))
def X2_nextBelow_b31 (k5 : Nat → Int32 → Int32 → Int32 → Int32 → M Int32)  (a0 : Nat) (i1 : Int32) (i2 : Int32) (i3 : Int32) (i4 : Int32) : M Int32 := X2_nextBelow_b36 k5  a0 i1 i2 i3 i4 1
def X2_nextBelow_b5b  (k5 : Nat → Int32 → Int32 → Int32 → Int32 → M Int32) (a0 : Nat) (i1 : Int32) (i2 : Int32) (i3 : Int32) (i4 : Int32) : M Int32 := bd (gR 5 0 a0) (fun y1 => bd (ck 2 y1) (fun _ => bd (Jx4a65c_size_8abf5 y1) (fun x2 => it (x2 ≤ i4) (pu i3) (it (i2 < 0) (X2_nextBelow_b31 k5  a0 i1 i2 i3 i4) (bd (ck 5 a0) (fun _ => bd (X2_isAhead a0 i2 i4) (fun x3 => it (x3 = 0) (X2_nextBelow_b36 k5  a0 i1 i2 i3 i4 0) (X2_nextBelow_b31 k5  a0 i1 i2 i3 i4))))))))
def X2_nextBelow_b5  : Nat → Nat → Int32 → Int32 → Int32 → Int32 → M Int32
  | 0 => fun _ _ _ _ _ => fl
  | n + 1 => fun a0 i1 i2 i3 i4 => X2_nextBelow_b5b  (X2_nextBelow_b5  n) a0 i1 i2 i3 i4
def X2_nextBelow (a0 : Nat) (i1 : Int32) (i2 : Int32) : M Int32 := bd (pu (-1)) (fun x1 => X2_nextBelow_b5  FU a0 i1 i2 x1 0)
section
variable {G : Gx} {p : Program} {l : Launch} {e : Env} {R : Room} {s : State} {m : MethodId} {args : Array Value} {below : List Frame} {meth : Method} {c : Code} {h0 : Hp} {r : Int32} {h' : Hp}
set_option maxRecDepth 20000 in
theorem X2_nextBelow_b79_s (C : Cx G p R s m args meth c cX2_nextBelow 6 yX2_nextBelow.cls h0 h') (hF : R.frames = 5) (hO : R.locals = 109) (hr : meth.sig.returnType = (some .int)) (hm : meth.name = yX2_nextBelow.name) {k5 : Nat → Int32 → Int32 → Int32 → Int32 → M Int32} (hk5 : ∀ (a0 : Nat) (i1 : Int32) (i2 : Int32) (i3 : Int32) (i4 : Int32), Sm G (QM G rvI below args s h0 r h') p l e R s m args below meth c 6 h0 r h' 5 [(0, .ref a0), (1, .int i1), (2, .int i2), (3, .int i3), (4, .int i4)] [] (k5 a0 i1 i2 i3 i4))  (a0 : Nat) (i1 : Int32) (i2 : Int32) (i3 : Int32) (i4 : Int32) : Sm G (QM G rvI below args s h0 r h') p l e R s m args below meth c 6 h0 r h' 79 [(0, .ref a0), (1, .int i1), (2, .int i2), (3, .int i3), (4, .int i4)] [] (X2_nextBelow_b79 k5  a0 i1 i2 i3 i4) := by
  refine s_iincK (lv' := [(4, .int (i4 + 1)), (0, .ref a0), (1, .int i1), (2, .int i2), (3, .int i3)]) (w := 1) C 4 dX2_nextBelow_79 rfl (by decide) (by decide) rfl ?_
  refine s_goto (tgt := 5) C dX2_nextBelow_82 (by decide) ?_
  refine s_sub [1, 2, 3, 4, 0] rfl ?_
  exact hk5 a0 i1 i2 i3 (i4 + 1)
set_option maxRecDepth 20000 in
theorem X2_nextBelow_b76_s (C : Cx G p R s m args meth c cX2_nextBelow 6 yX2_nextBelow.cls h0 h') (hF : R.frames = 5) (hO : R.locals = 109) (hr : meth.sig.returnType = (some .int)) (hm : meth.name = yX2_nextBelow.name) {k5 : Nat → Int32 → Int32 → Int32 → Int32 → M Int32} (hk5 : ∀ (a0 : Nat) (i1 : Int32) (i2 : Int32) (i3 : Int32) (i4 : Int32), Sm G (QM G rvI below args s h0 r h') p l e R s m args below meth c 6 h0 r h' 5 [(0, .ref a0), (1, .int i1), (2, .int i2), (3, .int i3), (4, .int i4)] [] (k5 a0 i1 i2 i3 i4))  (a0 : Nat) (i1 : Int32) (i2 : Int32) (i4 : Int32) : Sm G (QM G rvI below args s h0 r h') p l e R s m args below meth c 6 h0 r h' 76 [(0, .ref a0), (1, .int i1), (2, .int i2), (4, .int i4)] [] (X2_nextBelow_b76 k5  a0 i1 i2 i4) := by
  refine s_iload C 3 dX2_nextBelow_76 rfl ?_
  refine s_istore_n (lv' := [(3, .int i4), (0, .ref a0), (1, .int i1), (2, .int i2), (4, .int i4)]) C dX2_nextBelow_78 rfl (by decide) rfl ?_
  refine s_sub [1, 2, 3, 0, 4] rfl ?_
  exact X2_nextBelow_b79_s C hF hO hr hm hk5  a0 i1 i2 i4 i4
set_option maxRecDepth 20000 in
theorem X2_nextBelow_b36_s (C : Cx G p R s m args meth c cX2_nextBelow 6 yX2_nextBelow.cls h0 h') (hF : R.frames = 5) (hO : R.locals = 109) (hr : meth.sig.returnType = (some .int)) (hm : meth.name = yX2_nextBelow.name) {k5 : Nat → Int32 → Int32 → Int32 → Int32 → M Int32} (hk5 : ∀ (a0 : Nat) (i1 : Int32) (i2 : Int32) (i3 : Int32) (i4 : Int32), Sm G (QM G rvI below args s h0 r h') p l e R s m args below meth c 6 h0 r h' 5 [(0, .ref a0), (1, .int i1), (2, .int i2), (3, .int i3), (4, .int i4)] [] (k5 a0 i1 i2 i3 i4))  (a0 : Nat) (i1 : Int32) (i2 : Int32) (i3 : Int32) (i4 : Int32) (s0 : Int32) : Sm G (QM G rvI below args s h0 r h') p l e R s m args below meth c 6 h0 r h' 36 [(0, .ref a0), (1, .int i1), (2, .int i2), (3, .int i3), (4, .int i4)] [.int s0] (X2_nextBelow_b36 k5  a0 i1 i2 i3 i4 s0) := by
  refine s_istore (lv' := [(5, .int s0), (0, .ref a0), (1, .int i1), (2, .int i2), (3, .int i3), (4, .int i4)]) C dX2_nextBelow_36 (by decide) rfl ?_
  refine s_aload_n C 1 dX2_nextBelow_38 rfl rfl ?_
  refine s_gR C ci5 0 (by decide) (Or.inl wd_1_122) dX2_nextBelow_39 (fun y1 => ?_)
  refine s_iload C 5 dX2_nextBelow_42 rfl ?_
  refine s_invV_r C ci2 cy_Jx4a65c_get_915e3 (Or.inl wd_2_162) rfl wd_2_139 wd_2_140 (con_Jx4a65c_get_915e3 l G y1 i4) rfl rfl (Nat.le_of_ble_eq_true rfl) (by rw [hF]; decide) (by rw [hO]; exact Nat.le_of_ble_eq_true rfl) dX2_nextBelow_44 (fun y2 => ?_)
  refine s_ck C ci10 wd_2_82 dX2_nextBelow_47 ?_
  refine s_gI C ci10 1 (by decide) (Or.inr (Or.inr ⟨_, wd_5_59⟩)) dX2_nextBelow_50 (fun x3 => ?_)
  refine s_iload_n C 2 dX2_nextBelow_53 rfl rfl ?_
  refine s_icmp_ge (tgt := 79) C dX2_nextBelow_54 (by decide) ?_ ?_
  · refine s_sub [1, 2, 3, 4, 5] rfl ?_
    exact X2_nextBelow_b79_s C hF hO hr hm hk5  a0 i1 i2 i3 i4
  refine s_iload C 0 dX2_nextBelow_57 rfl ?_
  refine s_if_eq (tgt := 79) C dX2_nextBelow_59 (by decide) ?_ ?_
  · refine s_sub [1, 2, 3, 4, 5] rfl ?_
    exact X2_nextBelow_b79_s C hF hO hr hm hk5  a0 i1 i2 i3 i4
  refine s_iload_n C 4 dX2_nextBelow_62 rfl rfl ?_
  refine s_if_lt (tgt := 76) C dX2_nextBelow_63 (by decide) ?_ ?_
  · refine s_sub [1, 2, 3, 5] rfl ?_
    exact X2_nextBelow_b76_s C hF hO hr hm hk5  a0 i1 i2 i4
  refine s_aload_n C 1 dX2_nextBelow_66 rfl rfl ?_
  refine s_iload C 5 dX2_nextBelow_67 rfl ?_
  refine s_iload_n C 4 dX2_nextBelow_69 rfl rfl ?_
  refine s_invV_i C ci5 cy_X2_isAhead (Or.inl wd_6_18) rfl wd_6_20 wp_24 (con_X2_isAhead l G a0 i4 i3) rfl rfl (Nat.le_of_ble_eq_true rfl) (by rw [hF]; decide) (by rw [hO]; exact Nat.le_of_ble_eq_true rfl) dX2_nextBelow_70 (fun x4 => ?_)
  refine s_if_eq (tgt := 79) C dX2_nextBelow_73 (by decide) ?_ ?_
  · refine s_sub [1, 2, 3, 4, 5] rfl ?_
    exact X2_nextBelow_b79_s C hF hO hr hm hk5  a0 i1 i2 i3 i4
  refine s_sub [1, 2, 3, 5] rfl ?_
  exact X2_nextBelow_b76_s C hF hO hr hm hk5  a0 i1 i2 i4
set_option maxRecDepth 20000 in
theorem X2_nextBelow_b31_s (C : Cx G p R s m args meth c cX2_nextBelow 6 yX2_nextBelow.cls h0 h') (hF : R.frames = 5) (hO : R.locals = 109) (hr : meth.sig.returnType = (some .int)) (hm : meth.name = yX2_nextBelow.name) {k5 : Nat → Int32 → Int32 → Int32 → Int32 → M Int32} (hk5 : ∀ (a0 : Nat) (i1 : Int32) (i2 : Int32) (i3 : Int32) (i4 : Int32), Sm G (QM G rvI below args s h0 r h') p l e R s m args below meth c 6 h0 r h' 5 [(0, .ref a0), (1, .int i1), (2, .int i2), (3, .int i3), (4, .int i4)] [] (k5 a0 i1 i2 i3 i4))  (a0 : Nat) (i1 : Int32) (i2 : Int32) (i3 : Int32) (i4 : Int32) : Sm G (QM G rvI below args s h0 r h') p l e R s m args below meth c 6 h0 r h' 31 [(0, .ref a0), (1, .int i1), (2, .int i2), (3, .int i3), (4, .int i4)] [] (X2_nextBelow_b31 k5  a0 i1 i2 i3 i4) := by
  refine s_iconst (v := 1) C dX2_nextBelow_31 (by decide) ?_
  refine s_goto (tgt := 36) C dX2_nextBelow_32 (by decide) ?_
  exact X2_nextBelow_b36_s C hF hO hr hm hk5  a0 i1 i2 i3 i4 1
set_option maxRecDepth 20000 in
theorem X2_nextBelow_b5b_s (C : Cx G p R s m args meth c cX2_nextBelow 6 yX2_nextBelow.cls h0 h') (hF : R.frames = 5) (hO : R.locals = 109) (hr : meth.sig.returnType = (some .int)) (hm : meth.name = yX2_nextBelow.name)  {k5 : Nat → Int32 → Int32 → Int32 → Int32 → M Int32} (hk5 : ∀ (a0 : Nat) (i1 : Int32) (i2 : Int32) (i3 : Int32) (i4 : Int32), Sm G (QM G rvI below args s h0 r h') p l e R s m args below meth c 6 h0 r h' 5 [(0, .ref a0), (1, .int i1), (2, .int i2), (3, .int i3), (4, .int i4)] [] (k5 a0 i1 i2 i3 i4)) (a0 : Nat) (i1 : Int32) (i2 : Int32) (i3 : Int32) (i4 : Int32) : Sm G (QM G rvI below args s h0 r h') p l e R s m args below meth c 6 h0 r h' 5 [(0, .ref a0), (1, .int i1), (2, .int i2), (3, .int i3), (4, .int i4)] [] (X2_nextBelow_b5b  k5 a0 i1 i2 i3 i4) := by
  refine s_iload C 4 dX2_nextBelow_5 rfl ?_
  refine s_aload_n C 0 dX2_nextBelow_7 rfl rfl ?_
  refine s_gR C ci5 0 (by decide) (Or.inl wd_1_122) dX2_nextBelow_8 (fun y1 => ?_)
  refine s_invV_i C ci2 cy_Jx4a65c_size_8abf5 (Or.inl wd_2_76) rfl wd_1_213 wd_1_214 (con_Jx4a65c_size_8abf5 l G y1) rfl rfl (Nat.le_of_ble_eq_true rfl) (by rw [hF]; decide) (by rw [hO]; exact Nat.le_of_ble_eq_true rfl) dX2_nextBelow_11 (fun x2 => ?_)
  refine s_icmp_ge (tgt := 85) C dX2_nextBelow_14 (by decide) ?_ ?_
  · refine s_iload_n C 3 dX2_nextBelow_85 rfl rfl ?_
    exact s_iret C hr rfl dX2_nextBelow_86
  refine s_iload_n C 2 dX2_nextBelow_17 rfl rfl ?_
  refine s_if_lt (tgt := 31) C dX2_nextBelow_18 (by decide) ?_ ?_
  · exact X2_nextBelow_b31_s C hF hO hr hm hk5  a0 i1 i2 i3 i4
  refine s_aload_n C 0 dX2_nextBelow_21 rfl rfl ?_
  refine s_iload_n C 2 dX2_nextBelow_22 rfl rfl ?_
  refine s_iload C 4 dX2_nextBelow_23 rfl ?_
  refine s_invV_i C ci5 cy_X2_isAhead (Or.inl wd_6_18) rfl wd_6_20 wp_24 (con_X2_isAhead l G a0 i2 i4) rfl rfl (Nat.le_of_ble_eq_true rfl) (by rw [hF]; decide) (by rw [hO]; exact Nat.le_of_ble_eq_true rfl) dX2_nextBelow_25 (fun x3 => ?_)
  refine s_if_eq (tgt := 35) C dX2_nextBelow_28 (by decide) ?_ ?_
  · refine s_iconst (v := 0) C dX2_nextBelow_35 (by decide) ?_
    exact X2_nextBelow_b36_s C hF hO hr hm hk5  a0 i1 i2 i3 i4 0
  exact X2_nextBelow_b31_s C hF hO hr hm hk5  a0 i1 i2 i3 i4
set_option maxRecDepth 20000 in
theorem X2_nextBelow_b5_s (C : Cx G p R s m args meth c cX2_nextBelow 6 yX2_nextBelow.cls h0 h') (hF : R.frames = 5) (hO : R.locals = 109) (hr : meth.sig.returnType = (some .int)) (hm : meth.name = yX2_nextBelow.name)  (n : Nat) : ∀ (a0 : Nat) (i1 : Int32) (i2 : Int32) (i3 : Int32) (i4 : Int32), Sm G (QM G rvI below args s h0 r h') p l e R s m args below meth c 6 h0 r h' 5 [(0, .ref a0), (1, .int i1), (2, .int i2), (3, .int i3), (4, .int i4)] [] (X2_nextBelow_b5  n a0 i1 i2 i3 i4) := by
  induction n with
  | zero => intro a0 i1 i2 i3 i4; exact s_fl
  | succ n ih => intro a0 i1 i2 i3 i4; exact X2_nextBelow_b5b_s C hF hO hr hm  ih a0 i1 i2 i3 i4
end
set_option maxRecDepth 20000 in
theorem con_X2_nextBelow (l : Launch) (G : Gx) (a0 : Nat) (i1 : Int32) (i2 : Int32) : Con G rvI l yX2_nextBelow cX2_nextBelow 6 (some .int) 5 109 [.ref a0, .int i1, .int i2] (X2_nextBelow a0 i1 i2) := by
  refine con_of (lv := [(0, .ref a0), (1, .int i1), (2, .int i2)]) (by decide) (Nat.le_of_ble_eq_true rfl) rfl (fun p e R s m args below meth c h0 r h' C hF hO hr hm => ?_)
  refine s_iconst (v := (-1)) C dX2_nextBelow_0 (by decide) ?_
  refine s_let (fun x1 => ?_)
  refine s_istore_n (lv' := [(3, .int x1), (0, .ref a0), (1, .int i1), (2, .int i2)]) C dX2_nextBelow_1 rfl (by decide) rfl ?_
  refine s_iconst (v := 0) C dX2_nextBelow_2 (by decide) ?_
  refine s_istore (lv' := [(4, .int 0), (3, .int x1), (0, .ref a0), (1, .int i1), (2, .int i2)]) C dX2_nextBelow_3 (by decide) rfl ?_
  refine s_sub [2, 3, 4, 1, 0] rfl ?_
  exact X2_nextBelow_b5_s C hF hO hr hm  FU a0 i1 i2 x1 0
