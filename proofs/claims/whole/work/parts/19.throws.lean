theorem dX8_format_0 : decode cX8_format 0 = .ok (.iload_n 1, 1) := by decide +kernel
theorem dX8_format_1 : decode cX8_format 1 = .ok (.sipush 128, 3) := by decide +kernel
theorem dX8_format_4 : decode cX8_format 4 = .ok (.if_icmp .lt 10, 3) := by decide +kernel
theorem dX8_format_7 : decode cX8_format 7 = .ok (.iload_n 1, 1) := by decide +kernel
theorem dX8_format_8 : decode cX8_format 8 = .ok (.sipush 16384, 3) := by decide +kernel
theorem dX8_format_11 : decode cX8_format 11 = .ok (.if_icmp .le 13, 3) := by decide +kernel
theorem dX8_format_14 : decode cX8_format 14 = .ok (.new 59, 3) := by decide +kernel
theorem dX8_format_17 : decode cX8_format 17 = .ok (.dup, 1) := by decide +kernel
theorem dX8_format_18 : decode cX8_format 18 = .ok (.ldc 61, 2) := by decide +kernel
theorem dX8_format_20 : decode cX8_format 20 = .ok (.invokespecial 63, 3) := by decide +kernel
theorem dX8_format_23 : decode cX8_format 23 = .ok (.athrow, 1) := by decide +kernel
theorem dX8_format_24 : decode cX8_format 24 = .ok (.iload_n 2, 1) := by decide +kernel
theorem dX8_format_25 : decode cX8_format 25 = .ok (.sipush 128, 3) := by decide +kernel
theorem dX8_format_28 : decode cX8_format 28 = .ok (.if_icmp .lt 10, 3) := by decide +kernel
theorem dX8_format_31 : decode cX8_format 31 = .ok (.iload_n 2, 1) := by decide +kernel
theorem dX8_format_32 : decode cX8_format 32 = .ok (.sipush 4096, 3) := by decide +kernel
theorem dX8_format_35 : decode cX8_format 35 = .ok (.if_icmp .le 13, 3) := by decide +kernel
theorem dX8_format_38 : decode cX8_format 38 = .ok (.new 59, 3) := by decide +kernel
theorem dX8_format_41 : decode cX8_format 41 = .ok (.dup, 1) := by decide +kernel
theorem dX8_format_42 : decode cX8_format 42 = .ok (.ldc 66, 2) := by decide +kernel
theorem dX8_format_44 : decode cX8_format 44 = .ok (.invokespecial 63, 3) := by decide +kernel
theorem dX8_format_47 : decode cX8_format 47 = .ok (.athrow, 1) := by decide +kernel
theorem dX8_format_48 : decode cX8_format 48 = .ok (.aload_n 0, 1) := by decide +kernel
theorem dX8_format_49 : decode cX8_format 49 = .ok (.iload_n 1, 1) := by decide +kernel
theorem dX8_format_50 : decode cX8_format 50 = .ok (.iload_n 2, 1) := by decide +kernel
theorem dX8_format_51 : decode cX8_format 51 = .ok (.invokevirtual 55, 3) := by decide +kernel
theorem dX8_format_54 : decode cX8_format 54 = .ok (.return_, 1) := by decide +kernel
def X8_format_b14    : M (Nat ⊕ Unit) := th 0
def X8_format_b38    : M (Nat ⊕ Unit) := th 0
def X8_format (a0 : Nat) (i1 : Int32) (i2 : Int32) : M (Nat ⊕ Unit) := it (i1 < 128) (X8_format_b14   ) (it (i1 ≤ 16384) (it (i2 < 128) (X8_format_b38   ) (it (i2 ≤ 4096) (bd (ck 11 a0) (fun _ => bd (X8_begin a0 i1 i2) (fun _ => pu (.inr ())))) (X8_format_b38   ))) (X8_format_b14   ))
section
variable {G : Gx} {p : Program} {l : Launch} {e : Env} {R : Room} {s : State} {m : MethodId} {args : Array Value} {below : List Frame} {meth : Method} {c : Code} {h0 : Hp} {r : Nat ⊕ Unit} {h' : Hp}
set_option maxRecDepth 20000 in
theorem X8_format_b14_s (C : Cx G p R s m args meth c cX8_format 3 yX8_format.cls h0 h') (hF : R.frames = 11) (hO : R.locals = 315) (hr : meth.sig.returnType = none) (hm : meth.name = yX8_format.name) (X : CxT G l s c h0 [])    : Sm G (QT G rvU below args s h0 r h') p l e R s m args below meth c 3 h0 r h' 14 [] [] (X8_format_b14   ) := by
  exact t_throw (k := 0) C X rfl wd_2_229 wd_1_20 (by decide +kernel) str_61 hat_63 dX8_format_14 dX8_format_17 dX8_format_18 dX8_format_20 dX8_format_23 (by rw [hF]; decide) (by rw [hO]; exact Nat.le_of_ble_eq_true rfl)
set_option maxRecDepth 20000 in
theorem X8_format_b38_s (C : Cx G p R s m args meth c cX8_format 3 yX8_format.cls h0 h') (hF : R.frames = 11) (hO : R.locals = 315) (hr : meth.sig.returnType = none) (hm : meth.name = yX8_format.name) (X : CxT G l s c h0 [])    : Sm G (QT G rvU below args s h0 r h') p l e R s m args below meth c 3 h0 r h' 38 [] [] (X8_format_b38   ) := by
  exact t_throw (k := 0) C X rfl wd_2_229 wd_1_20 (by decide +kernel) str_66 hat_63 dX8_format_38 dX8_format_41 dX8_format_42 dX8_format_44 dX8_format_47 (by rw [hF]; decide) (by rw [hO]; exact Nat.le_of_ble_eq_true rfl)
end
set_option maxRecDepth 20000 in
theorem con_X8_format (l : Launch) (G : Gx) (hl0 : l.stackTraces = false) (a0 : Nat) (i1 : Int32) (i2 : Int32) : ConT G rvU l yX8_format cX8_format 3 none 11 315 [.ref a0, .int i1, .int i2] (X8_format a0 i1 i2) := by
  refine con_ofT (lv := [(0, .ref a0), (1, .int i1), (2, .int i2)]) hl0 (by decide) (Nat.le_of_ble_eq_true rfl) rfl (fun p e R s m args below meth c h0 r h' C hF hO hr hm X => ?_)
  refine s_iload_n C 1 dX8_format_0 rfl rfl ?_
  refine s_sipush (v := 128) C dX8_format_1 (by decide) ?_
  refine s_icmp_lt (tgt := 14) C dX8_format_4 (by decide) ?_ ?_
  · refine s_sub [] rfl ?_
    exact X8_format_b14_s C hF hO hr hm X   
  refine s_iload_n C 1 dX8_format_7 rfl rfl ?_
  refine s_sipush (v := 16384) C dX8_format_8 (by decide) ?_
  refine s_icmp_le (tgt := 24) C dX8_format_11 (by decide) ?_ ?_
  · refine s_iload_n C 2 dX8_format_24 rfl rfl ?_
    refine s_sipush (v := 128) C dX8_format_25 (by decide) ?_
    refine s_icmp_lt (tgt := 38) C dX8_format_28 (by decide) ?_ ?_
    · refine s_sub [] rfl ?_
      exact X8_format_b38_s C hF hO hr hm X   
    refine s_iload_n C 2 dX8_format_31 rfl rfl ?_
    refine s_sipush (v := 4096) C dX8_format_32 (by decide) ?_
    refine s_icmp_le (tgt := 48) C dX8_format_35 (by decide) ?_ ?_
    · refine s_aload_n C 0 dX8_format_48 rfl rfl ?_
      refine s_iload_n C 1 dX8_format_49 rfl rfl ?_
      refine s_iload_n C 2 dX8_format_50 rfl rfl ?_
      refine s_invV_u C ci11 cy_X8_begin (Or.inl wd_1_204) rfl wd_1_206 wp_0 (con_X8_begin l G a0 i1 i2) rfl rfl (Nat.le_of_ble_eq_true rfl) (by rw [hF]; decide) (by rw [hO]; exact Nat.le_of_ble_eq_true rfl) dX8_format_51 ?_
      exact t_vret C hr dX8_format_54
    refine s_sub [] rfl ?_
    exact X8_format_b38_s C hF hO hr hm X   
  refine s_sub [] rfl ?_
  exact X8_format_b14_s C hF hO hr hm X   

theorem dX8_feed_0 : decode cX8_feed 0 = .ok (.iload_n 1, 1) := by decide +kernel
theorem dX8_feed_1 : decode cX8_feed 1 = .ok (.iconst 1, 1) := by decide +kernel
theorem dX8_feed_2 : decode cX8_feed 2 = .ok (.if_icmp .lt 9, 3) := by decide +kernel
theorem dX8_feed_5 : decode cX8_feed 5 = .ok (.iload_n 1, 1) := by decide +kernel
theorem dX8_feed_6 : decode cX8_feed 6 = .ok (.bipush 16, 2) := by decide +kernel
theorem dX8_feed_8 : decode cX8_feed 8 = .ok (.if_icmp .le 13, 3) := by decide +kernel
theorem dX8_feed_11 : decode cX8_feed 11 = .ok (.new 59, 3) := by decide +kernel
theorem dX8_feed_14 : decode cX8_feed 14 = .ok (.dup, 1) := by decide +kernel
theorem dX8_feed_15 : decode cX8_feed 15 = .ok (.ldc 68, 2) := by decide +kernel
theorem dX8_feed_17 : decode cX8_feed 17 = .ok (.invokespecial 63, 3) := by decide +kernel
theorem dX8_feed_20 : decode cX8_feed 20 = .ok (.athrow, 1) := by decide +kernel
theorem dX8_feed_21 : decode cX8_feed 21 = .ok (.aload_n 0, 1) := by decide +kernel
theorem dX8_feed_22 : decode cX8_feed 22 = .ok (.getfield 10, 3) := by decide +kernel
theorem dX8_feed_25 : decode cX8_feed 25 = .ok (.invokevirtual 70, 3) := by decide +kernel
theorem dX8_feed_28 : decode cX8_feed 28 = .ok (.iload_n 1, 1) := by decide +kernel
theorem dX8_feed_29 : decode cX8_feed 29 = .ok (.iadd, 1) := by decide +kernel
theorem dX8_feed_30 : decode cX8_feed 30 = .ok (.bipush 80, 2) := by decide +kernel
theorem dX8_feed_32 : decode cX8_feed 32 = .ok (.if_icmp .le 13, 3) := by decide +kernel
theorem dX8_feed_35 : decode cX8_feed 35 = .ok (.new 74, 3) := by decide +kernel
theorem dX8_feed_38 : decode cX8_feed 38 = .ok (.dup, 1) := by decide +kernel
theorem dX8_feed_39 : decode cX8_feed 39 = .ok (.ldc 76, 2) := by decide +kernel
theorem dX8_feed_41 : decode cX8_feed 41 = .ok (.invokespecial 78, 3) := by decide +kernel
theorem dX8_feed_44 : decode cX8_feed 44 = .ok (.athrow, 1) := by decide +kernel
theorem dX8_feed_45 : decode cX8_feed 45 = .ok (.iconst 0, 1) := by decide +kernel
theorem dX8_feed_46 : decode cX8_feed 46 = .ok (.istore 6, 2) := by decide +kernel
theorem dX8_feed_48 : decode cX8_feed 48 = .ok (.iload 6, 2) := by decide +kernel
theorem dX8_feed_50 : decode cX8_feed 50 = .ok (.iload_n 1, 1) := by decide +kernel
theorem dX8_feed_51 : decode cX8_feed 51 = .ok (.if_icmp .ge 43, 3) := by decide +kernel
theorem dX8_feed_54 : decode cX8_feed 54 = .ok (.iload 6, 2) := by decide +kernel
theorem dX8_feed_56 : decode cX8_feed 56 = .ok (.bipush 8, 2) := by decide +kernel
theorem dX8_feed_58 : decode cX8_feed 58 = .ok (.if_icmp .ge 7, 3) := by decide +kernel
theorem dX8_feed_61 : decode cX8_feed 61 = .ok (.lload_n 2, 1) := by decide +kernel
theorem dX8_feed_62 : decode cX8_feed 62 = .ok (.goto 5, 3) := by decide +kernel
theorem dX8_feed_65 : decode cX8_feed 65 = .ok (.lload 4, 2) := by decide +kernel
theorem dX8_feed_67 : decode cX8_feed 67 = .ok (.lstore 7, 2) := by decide +kernel
theorem dX8_feed_69 : decode cX8_feed 69 = .ok (.aload_n 0, 1) := by decide +kernel
theorem dX8_feed_70 : decode cX8_feed 70 = .ok (.getfield 10, 3) := by decide +kernel
theorem dX8_feed_73 : decode cX8_feed 73 = .ok (.lload 7, 2) := by decide +kernel
theorem dX8_feed_75 : decode cX8_feed 75 = .ok (.bipush 8, 2) := by decide +kernel
theorem dX8_feed_77 : decode cX8_feed 77 = .ok (.iload 6, 2) := by decide +kernel
theorem dX8_feed_79 : decode cX8_feed 79 = .ok (.bipush 7, 2) := by decide +kernel
theorem dX8_feed_81 : decode cX8_feed 81 = .ok (.iand, 1) := by decide +kernel
theorem dX8_feed_82 : decode cX8_feed 82 = .ok (.imul, 1) := by decide +kernel
theorem dX8_feed_83 : decode cX8_feed 83 = .ok (.lushr, 1) := by decide +kernel
theorem dX8_feed_84 : decode cX8_feed 84 = .ok (.l2i, 1) := by decide +kernel
theorem dX8_feed_85 : decode cX8_feed 85 = .ok (.invokevirtual 79, 3) := by decide +kernel
theorem dX8_feed_88 : decode cX8_feed 88 = .ok (.iinc 6 1, 3) := by decide +kernel
theorem dX8_feed_91 : decode cX8_feed 91 = .ok (.goto (-43), 3) := by decide +kernel
theorem dX8_feed_94 : decode cX8_feed 94 = .ok (.aload_n 0, 1) := by decide +kernel
theorem dX8_feed_95 : decode cX8_feed 95 = .ok (.getfield 10, 3) := by decide +kernel
theorem dX8_feed_98 : decode cX8_feed 98 = .ok (.invokevirtual 70, 3) := by decide +kernel
theorem dX8_feed_101 : decode cX8_feed 101 = .ok (.ireturn, 1) := by decide +kernel
def X8_feed_b11    : M (Nat ⊕ Int32) := th 0
def X8_feed_b67 (k48 : Nat → Int32 → Int64 → Int64 → Int32 → M (Nat ⊕ Int32))  (a0 : Nat) (i1 : Int32) (l2 : Int64) (l4 : Int64) (i6 : Int32) (s0 : Int64) : M (Nat ⊕ Int32) := bd (gR 11 0 a0) (fun y1 => bd (ck 4 y1) (fun _ => bd (X1_add y1 (((lush s0 (8 * (i6 &&& 7))) : Int64).toInt32)) (fun _ => k48 a0 i1 l2 l4 (i6 + 1))))
def X8_feed_b48b  (k48 : Nat → Int32 → Int64 → Int64 → Int32 → M (Nat ⊕ Int32)) (a0 : Nat) (i1 : Int32) (l2 : Int64) (l4 : Int64) (i6 : Int32) : M (Nat ⊕ Int32) := it (i1 ≤ i6) (bd (gR 11 0 a0) (fun y1 => bd (ck 4 y1) (fun _ => bd (X1_size y1) (fun x2 => pu (.inr x2))))) (it (8 ≤ i6) (X8_feed_b67 k48  a0 i1 l2 l4 i6 l4) (X8_feed_b67 k48  a0 i1 l2 l4 i6 l2))
def X8_feed_b48  : Nat → Nat → Int32 → Int64 → Int64 → Int32 → M (Nat ⊕ Int32)
  | 0 => fun _ _ _ _ _ => fl
  | n + 1 => fun a0 i1 l2 l4 i6 => X8_feed_b48b  (X8_feed_b48  n) a0 i1 l2 l4 i6
def X8_feed (a0 : Nat) (i1 : Int32) (l2 : Int64) (l4 : Int64) : M (Nat ⊕ Int32) := it (i1 < 1) (X8_feed_b11   ) (it (i1 ≤ 16) (bd (gR 11 0 a0) (fun y1 => bd (ck 4 y1) (fun _ => bd (X1_size y1) (fun x2 => it ((x2 + i1) ≤ 80) (X8_feed_b48  FU a0 i1 l2 l4 0) (th 2))))) (X8_feed_b11   ))
section
variable {G : Gx} {p : Program} {l : Launch} {e : Env} {R : Room} {s : State} {m : MethodId} {args : Array Value} {below : List Frame} {meth : Method} {c : Code} {h0 : Hp} {r : Nat ⊕ Int32} {h' : Hp}
set_option maxRecDepth 20000 in
theorem X8_feed_b11_s (C : Cx G p R s m args meth c cX8_feed 9 yX8_feed.cls h0 h') (hF : R.frames = 6) (hO : R.locals = 164) (hr : meth.sig.returnType = (some .int)) (hm : meth.name = yX8_feed.name) (X : CxT G l s c h0 [])    : Sm G (QT G rvI below args s h0 r h') p l e R s m args below meth c 9 h0 r h' 11 [] [] (X8_feed_b11   ) := by
  exact t_throw (k := 0) C X rfl wd_2_229 wd_1_20 (by decide +kernel) str_68 hat_63 dX8_feed_11 dX8_feed_14 dX8_feed_15 dX8_feed_17 dX8_feed_20 (by rw [hF]; decide) (by rw [hO]; exact Nat.le_of_ble_eq_true rfl)
set_option maxRecDepth 20000 in
theorem X8_feed_b67_s (C : Cx G p R s m args meth c cX8_feed 9 yX8_feed.cls h0 h') (hF : R.frames = 6) (hO : R.locals = 164) (hr : meth.sig.returnType = (some .int)) (hm : meth.name = yX8_feed.name) (X : CxT G l s c h0 []) {k48 : Nat → Int32 → Int64 → Int64 → Int32 → M (Nat ⊕ Int32)} (hk48 : ∀ (a0 : Nat) (i1 : Int32) (l2 : Int64) (l4 : Int64) (i6 : Int32), Sm G (QT G rvI below args s h0 r h') p l e R s m args below meth c 9 h0 r h' 48 [(0, .ref a0), (1, .int i1), (2, .long l2), (4, .long l4), (6, .int i6)] [] (k48 a0 i1 l2 l4 i6))  (a0 : Nat) (i1 : Int32) (l2 : Int64) (l4 : Int64) (i6 : Int32) (s0 : Int64) : Sm G (QT G rvI below args s h0 r h') p l e R s m args below meth c 9 h0 r h' 67 [(0, .ref a0), (1, .int i1), (2, .long l2), (4, .long l4), (6, .int i6)] [.long s0] (X8_feed_b67 k48  a0 i1 l2 l4 i6 s0) := by
  refine s_lstore (lv' := [(7, .long s0), (0, .ref a0), (1, .int i1), (2, .long l2), (4, .long l4), (6, .int i6)]) C dX8_feed_67 (by decide) rfl ?_
  refine s_aload_n C 1 dX8_feed_69 rfl rfl ?_
  refine s_gR C ci11 0 (by decide) (Or.inl wd_2_88) dX8_feed_70 (fun y1 => ?_)
  refine s_lload C 0 dX8_feed_73 rfl ?_
  refine s_bipush (v := 8) C dX8_feed_75 (by decide) ?_
  refine s_iload C 5 dX8_feed_77 rfl ?_
  refine s_bipush (v := 7) C dX8_feed_79 (by decide) ?_
  refine s_iand C dX8_feed_81 ?_
  refine s_imul C dX8_feed_82 ?_
  refine s_lushr C dX8_feed_83 ?_
  refine s_l2i C dX8_feed_84 ?_
  refine s_invV_u C ci4 cy_X1_add (Or.inl wd_3_83) rfl wd_3_84 wd_3_85 (con_X1_add l G y1 (((lush s0 (8 * (i6 &&& 7))) : Int64).toInt32)) rfl rfl (Nat.le_of_ble_eq_true rfl) (by rw [hF]; decide) (by rw [hO]; exact Nat.le_of_ble_eq_true rfl) dX8_feed_85 ?_
  refine s_iincK (lv' := [(6, .int (i6 + 1)), (7, .long s0), (0, .ref a0), (1, .int i1), (2, .long l2), (4, .long l4)]) (w := 1) C 5 dX8_feed_88 rfl (by decide) (by decide) rfl ?_
  refine s_goto (tgt := 48) C dX8_feed_91 (by decide) ?_
  refine s_sub [2, 3, 4, 5, 0] rfl ?_
  exact hk48 a0 i1 l2 l4 (i6 + 1)
set_option maxRecDepth 20000 in
theorem X8_feed_b48b_s (C : Cx G p R s m args meth c cX8_feed 9 yX8_feed.cls h0 h') (hF : R.frames = 6) (hO : R.locals = 164) (hr : meth.sig.returnType = (some .int)) (hm : meth.name = yX8_feed.name) (X : CxT G l s c h0 [])  {k48 : Nat → Int32 → Int64 → Int64 → Int32 → M (Nat ⊕ Int32)} (hk48 : ∀ (a0 : Nat) (i1 : Int32) (l2 : Int64) (l4 : Int64) (i6 : Int32), Sm G (QT G rvI below args s h0 r h') p l e R s m args below meth c 9 h0 r h' 48 [(0, .ref a0), (1, .int i1), (2, .long l2), (4, .long l4), (6, .int i6)] [] (k48 a0 i1 l2 l4 i6)) (a0 : Nat) (i1 : Int32) (l2 : Int64) (l4 : Int64) (i6 : Int32) : Sm G (QT G rvI below args s h0 r h') p l e R s m args below meth c 9 h0 r h' 48 [(0, .ref a0), (1, .int i1), (2, .long l2), (4, .long l4), (6, .int i6)] [] (X8_feed_b48b  k48 a0 i1 l2 l4 i6) := by
  refine s_iload C 4 dX8_feed_48 rfl ?_
  refine s_iload_n C 1 dX8_feed_50 rfl rfl ?_
  refine s_icmp_ge (tgt := 94) C dX8_feed_51 (by decide) ?_ ?_
  · refine s_aload_n C 0 dX8_feed_94 rfl rfl ?_
    refine s_gR C ci11 0 (by decide) (Or.inl wd_2_88) dX8_feed_95 (fun y1 => ?_)
    refine s_invV_i C ci4 cy_X1_size (Or.inl wd_2_146) rfl wd_2_147 wd_2_148 (con_X1_size l G y1) rfl rfl (Nat.le_of_ble_eq_true rfl) (by rw [hF]; decide) (by rw [hO]; exact Nat.le_of_ble_eq_true rfl) dX8_feed_98 (fun x2 => ?_)
    exact t_iret C hr dX8_feed_101
  refine s_iload C 4 dX8_feed_54 rfl ?_
  refine s_bipush (v := 8) C dX8_feed_56 (by decide) ?_
  refine s_icmp_ge (tgt := 65) C dX8_feed_58 (by decide) ?_ ?_
  · refine s_lload C 3 dX8_feed_65 rfl ?_
    exact X8_feed_b67_s C hF hO hr hm X hk48  a0 i1 l2 l4 i6 l4
  refine s_lload_n C 2 dX8_feed_61 rfl rfl ?_
  refine s_goto (tgt := 67) C dX8_feed_62 (by decide) ?_
  exact X8_feed_b67_s C hF hO hr hm X hk48  a0 i1 l2 l4 i6 l2
set_option maxRecDepth 20000 in
theorem X8_feed_b48_s (C : Cx G p R s m args meth c cX8_feed 9 yX8_feed.cls h0 h') (hF : R.frames = 6) (hO : R.locals = 164) (hr : meth.sig.returnType = (some .int)) (hm : meth.name = yX8_feed.name) (X : CxT G l s c h0 [])  (n : Nat) : ∀ (a0 : Nat) (i1 : Int32) (l2 : Int64) (l4 : Int64) (i6 : Int32), Sm G (QT G rvI below args s h0 r h') p l e R s m args below meth c 9 h0 r h' 48 [(0, .ref a0), (1, .int i1), (2, .long l2), (4, .long l4), (6, .int i6)] [] (X8_feed_b48  n a0 i1 l2 l4 i6) := by
  induction n with
  | zero => intro a0 i1 l2 l4 i6; exact s_fl
  | succ n ih => intro a0 i1 l2 l4 i6; exact X8_feed_b48b_s C hF hO hr hm X  ih a0 i1 l2 l4 i6
end
set_option maxRecDepth 20000 in
theorem con_X8_feed (l : Launch) (G : Gx) (hl0 : l.stackTraces = false) (a0 : Nat) (i1 : Int32) (l2 : Int64) (l4 : Int64) : ConT G rvI l yX8_feed cX8_feed 9 (some .int) 6 164 [.ref a0, .int i1, .long l2, .long l4] (X8_feed a0 i1 l2 l4) := by
  refine con_ofT (lv := [(0, .ref a0), (1, .int i1), (2, .long l2), (4, .long l4)]) hl0 (by decide) (Nat.le_of_ble_eq_true rfl) rfl (fun p e R s m args below meth c h0 r h' C hF hO hr hm X => ?_)
  refine s_iload_n C 1 dX8_feed_0 rfl rfl ?_
  refine s_iconst (v := 1) C dX8_feed_1 (by decide) ?_
  refine s_icmp_lt (tgt := 11) C dX8_feed_2 (by decide) ?_ ?_
  · refine s_sub [] rfl ?_
    exact X8_feed_b11_s C hF hO hr hm X   
  refine s_iload_n C 1 dX8_feed_5 rfl rfl ?_
  refine s_bipush (v := 16) C dX8_feed_6 (by decide) ?_
  refine s_icmp_le (tgt := 21) C dX8_feed_8 (by decide) ?_ ?_
  · refine s_aload_n C 0 dX8_feed_21 rfl rfl ?_
    refine s_gR C ci11 0 (by decide) (Or.inl wd_2_88) dX8_feed_22 (fun y1 => ?_)
    refine s_invV_i C ci4 cy_X1_size (Or.inl wd_2_146) rfl wd_2_147 wd_2_148 (con_X1_size l G y1) rfl rfl (Nat.le_of_ble_eq_true rfl) (by rw [hF]; decide) (by rw [hO]; exact Nat.le_of_ble_eq_true rfl) dX8_feed_25 (fun x2 => ?_)
    refine s_iload_n C 1 dX8_feed_28 rfl rfl ?_
    refine s_iadd C dX8_feed_29 ?_
    refine s_bipush (v := 80) C dX8_feed_30 (by decide) ?_
    refine s_icmp_le (tgt := 45) C dX8_feed_32 (by decide) ?_ ?_
    · refine s_iconst (v := 0) C dX8_feed_45 (by decide) ?_
      refine s_istore (lv' := [(6, .int 0), (0, .ref a0), (1, .int i1), (2, .long l2), (4, .long l4)]) C dX8_feed_46 (by decide) rfl ?_
      refine s_sub [1, 2, 3, 4, 0] rfl ?_
      exact X8_feed_b48_s C hF hO hr hm X  FU a0 i1 l2 l4 0
    exact t_throw (k := 2) C X rfl wd_3_67 wd_1_21 (by decide +kernel) str_76 hat_78 dX8_feed_35 dX8_feed_38 dX8_feed_39 dX8_feed_41 dX8_feed_44 (by rw [hF]; decide) (by rw [hO]; exact Nat.le_of_ble_eq_true rfl)
  refine s_sub [] rfl ?_
  exact X8_feed_b11_s C hF hO hr hm X   

theorem dX8_put_0 : decode cX8_put 0 = .ok (.aload_n 0, 1) := by decide +kernel
theorem dX8_put_1 : decode cX8_put 1 = .ok (.invokevirtual 83, 3) := by decide +kernel
theorem dX8_put_4 : decode cX8_put 4 = .ok (.aload_n 0, 1) := by decide +kernel
theorem dX8_put_5 : decode cX8_put 5 = .ok (.getfield 86, 3) := by decide +kernel
theorem dX8_put_8 : decode cX8_put 8 = .ok (.ifCond .ne 13, 3) := by decide +kernel
theorem dX8_put_11 : decode cX8_put 11 = .ok (.new 90, 3) := by decide +kernel
theorem dX8_put_14 : decode cX8_put 14 = .ok (.dup, 1) := by decide +kernel
theorem dX8_put_15 : decode cX8_put 15 = .ok (.ldc 92, 2) := by decide +kernel
theorem dX8_put_17 : decode cX8_put 17 = .ok (.invokespecial 94, 3) := by decide +kernel
theorem dX8_put_20 : decode cX8_put 20 = .ok (.athrow, 1) := by decide +kernel
theorem dX8_put_21 : decode cX8_put 21 = .ok (.aload_n 0, 1) := by decide +kernel
theorem dX8_put_22 : decode cX8_put 22 = .ok (.getfield 16, 3) := by decide +kernel
theorem dX8_put_25 : decode cX8_put 25 = .ok (.invokevirtual 70, 3) := by decide +kernel
theorem dX8_put_28 : decode cX8_put 28 = .ok (.iload_n 1, 1) := by decide +kernel
theorem dX8_put_29 : decode cX8_put 29 = .ok (.isub, 1) := by decide +kernel
theorem dX8_put_30 : decode cX8_put 30 = .ok (.istore_n 2, 1) := by decide +kernel
theorem dX8_put_31 : decode cX8_put 31 = .ok (.iload_n 1, 1) := by decide +kernel
theorem dX8_put_32 : decode cX8_put 32 = .ok (.iconst 1, 1) := by decide +kernel
theorem dX8_put_33 : decode cX8_put 33 = .ok (.if_icmp .lt 19, 3) := by decide +kernel
theorem dX8_put_36 : decode cX8_put 36 = .ok (.iload_n 1, 1) := by decide +kernel
theorem dX8_put_37 : decode cX8_put 37 = .ok (.bipush 16, 2) := by decide +kernel
theorem dX8_put_39 : decode cX8_put 39 = .ok (.if_icmp .gt 13, 3) := by decide +kernel
theorem dX8_put_42 : decode cX8_put 42 = .ok (.iload_n 2, 1) := by decide +kernel
theorem dX8_put_43 : decode cX8_put 43 = .ok (.ifCond .lt 9, 3) := by decide +kernel
theorem dX8_put_46 : decode cX8_put 46 = .ok (.iload_n 2, 1) := by decide +kernel
theorem dX8_put_47 : decode cX8_put 47 = .ok (.bipush 64, 2) := by decide +kernel
theorem dX8_put_49 : decode cX8_put 49 = .ok (.if_icmp .le 13, 3) := by decide +kernel
theorem dX8_put_52 : decode cX8_put 52 = .ok (.new 59, 3) := by decide +kernel
theorem dX8_put_55 : decode cX8_put 55 = .ok (.dup, 1) := by decide +kernel
theorem dX8_put_56 : decode cX8_put 56 = .ok (.ldc 95, 2) := by decide +kernel
theorem dX8_put_58 : decode cX8_put 58 = .ok (.invokespecial 63, 3) := by decide +kernel
theorem dX8_put_61 : decode cX8_put 61 = .ok (.athrow, 1) := by decide +kernel
theorem dX8_put_62 : decode cX8_put 62 = .ok (.aload_n 0, 1) := by decide +kernel
theorem dX8_put_63 : decode cX8_put 63 = .ok (.iload_n 1, 1) := by decide +kernel
theorem dX8_put_64 : decode cX8_put 64 = .ok (.iload_n 2, 1) := by decide +kernel
theorem dX8_put_65 : decode cX8_put 65 = .ok (.invokestatic 97, 3) := by decide +kernel
theorem dX8_put_68 : decode cX8_put 68 = .ok (.invokevirtual 101, 3) := by decide +kernel
theorem dX8_put_71 : decode cX8_put 71 = .ok (.ifCond .eq 13, 3) := by decide +kernel
theorem dX8_put_74 : decode cX8_put 74 = .ok (.new 74, 3) := by decide +kernel
theorem dX8_put_77 : decode cX8_put 77 = .ok (.dup, 1) := by decide +kernel
theorem dX8_put_78 : decode cX8_put 78 = .ok (.ldc 105, 2) := by decide +kernel
theorem dX8_put_80 : decode cX8_put 80 = .ok (.invokespecial 78, 3) := by decide +kernel
theorem dX8_put_83 : decode cX8_put 83 = .ok (.athrow, 1) := by decide +kernel
theorem dX8_put_84 : decode cX8_put 84 = .ok (.aload_n 0, 1) := by decide +kernel
theorem dX8_put_85 : decode cX8_put 85 = .ok (.getfield 107, 3) := by decide +kernel
theorem dX8_put_88 : decode cX8_put 88 = .ok (.istore_n 3, 1) := by decide +kernel
theorem dX8_put_89 : decode cX8_put 89 = .ok (.aload_n 0, 1) := by decide +kernel
theorem dX8_put_90 : decode cX8_put 90 = .ok (.iload_n 1, 1) := by decide +kernel
theorem dX8_put_91 : decode cX8_put 91 = .ok (.iload_n 2, 1) := by decide +kernel
theorem dX8_put_92 : decode cX8_put 92 = .ok (.invokevirtual 111, 3) := by decide +kernel
theorem dX8_put_95 : decode cX8_put 95 = .ok (.istore 4, 2) := by decide +kernel
theorem dX8_put_97 : decode cX8_put 97 = .ok (.aload_n 0, 1) := by decide +kernel
theorem dX8_put_98 : decode cX8_put 98 = .ok (.getfield 35, 3) := by decide +kernel
theorem dX8_put_101 : decode cX8_put 101 = .ok (.aload_n 0, 1) := by decide +kernel
theorem dX8_put_102 : decode cX8_put 102 = .ok (.getfield 16, 3) := by decide +kernel
theorem dX8_put_105 : decode cX8_put 105 = .ok (.iconst 0, 1) := by decide +kernel
theorem dX8_put_106 : decode cX8_put 106 = .ok (.iload_n 1, 1) := by decide +kernel
theorem dX8_put_107 : decode cX8_put 107 = .ok (.invokevirtual 114, 3) := by decide +kernel
theorem dX8_put_110 : decode cX8_put 110 = .ok (.aload_n 0, 1) := by decide +kernel
theorem dX8_put_111 : decode cX8_put 111 = .ok (.getfield 118, 3) := by decide +kernel
theorem dX8_put_114 : decode cX8_put 114 = .ok (.iload 4, 2) := by decide +kernel
theorem dX8_put_116 : decode cX8_put 116 = .ok (.iload_n 2, 1) := by decide +kernel
theorem dX8_put_117 : decode cX8_put 117 = .ok (.iload_n 3, 1) := by decide +kernel
theorem dX8_put_118 : decode cX8_put 118 = .ok (.invokevirtual 121, 3) := by decide +kernel
theorem dX8_put_121 : decode cX8_put 121 = .ok (.iload_n 3, 1) := by decide +kernel
theorem dX8_put_122 : decode cX8_put 122 = .ok (.ireturn, 1) := by decide +kernel
def X8_put_b52    : M (Nat ⊕ Int32) := th 0
def X8_put (a0 : Nat) (i1 : Int32) : M (Nat ⊕ Int32) := bd (ck 11 a0) (fun _ => bd (X8_takeTape a0) (fun _ => bd (gI 11 8 a0) (fun x1 => it (¬ x1 = 0) (bd (gR 11 1 a0) (fun y2 => bd (ck 4 y2) (fun _ => bd (X1_size y2) (fun x3 => bd (pu (x3 - i1)) (fun x4 => it (i1 < 1) (X8_put_b52   ) (it (16 < i1) (X8_put_b52   ) (it (x4 < 0) (X8_put_b52   ) (it (x4 ≤ 64) (bd (X8_recordSize i1 x4) (fun x5 => bd (ck 11 a0) (fun _ => bd (X8_isFull a0 x5) (fun x6 => it (x6 = 0) (bd (gI 11 10 a0) (fun x7 => bd (ck 11 a0) (fun _ => bd (X8_write a0 i1 x4) (fun x8 => bd (gR 11 5 a0) (fun y9 => bd (gR 11 1 a0) (fun y10 => bd (ck 5 y9) (fun _ => bd (X2_rowFor y9 y10 0 i1) (fun y11 => bd (gI 11 9 a0) (fun x12 => bd (ck 10 y11) (fun _ => bd (X7_tell y11 x12 x8 x4 x7) (fun _ => pu (.inr x7)))))))))))) (th 2))))) (X8_put_b52   ))))))))) (th 1))))
section
variable {G : Gx} {p : Program} {l : Launch} {e : Env} {R : Room} {s : State} {m : MethodId} {args : Array Value} {below : List Frame} {meth : Method} {c : Code} {h0 : Hp} {r : Nat ⊕ Int32} {h' : Hp}
set_option maxRecDepth 20000 in
theorem X8_put_b52_s (C : Cx G p R s m args meth c cX8_put 5 yX8_put.cls h0 h') (hF : R.frames = 10) (hO : R.locals = 305) (hr : meth.sig.returnType = (some .int)) (hm : meth.name = yX8_put.name) (X : CxT G l s c h0 [])    : Sm G (QT G rvI below args s h0 r h') p l e R s m args below meth c 5 h0 r h' 52 [] [] (X8_put_b52   ) := by
  exact t_throw (k := 0) C X rfl wd_2_229 wd_1_20 (by decide +kernel) str_95 hat_63 dX8_put_52 dX8_put_55 dX8_put_56 dX8_put_58 dX8_put_61 (by rw [hF]; decide) (by rw [hO]; exact Nat.le_of_ble_eq_true rfl)
end
set_option maxRecDepth 20000 in
theorem con_X8_put (l : Launch) (G : Gx) (hl0 : l.stackTraces = false) (a0 : Nat) (i1 : Int32) : ConT G rvI l yX8_put cX8_put 5 (some .int) 10 305 [.ref a0, .int i1] (X8_put a0 i1) := by
  refine con_ofT (lv := [(0, .ref a0), (1, .int i1)]) hl0 (by decide) (Nat.le_of_ble_eq_true rfl) rfl (fun p e R s m args below meth c h0 r h' C hF hO hr hm X => ?_)
  refine s_aload_n C 0 dX8_put_0 rfl rfl ?_
  refine s_invV_u C ci11 cy_X8_takeTape (Or.inl wd_3_110) rfl wd_3_112 wp_10 (con_X8_takeTape l G a0) rfl rfl (Nat.le_of_ble_eq_true rfl) (by rw [hF]; decide) (by rw [hO]; exact Nat.le_of_ble_eq_true rfl) dX8_put_1 ?_
  refine s_aload_n C 0 dX8_put_4 rfl rfl ?_
  refine s_gI C ci11 8 (by decide) (Or.inl wd_2_96) dX8_put_5 (fun x1 => ?_)
  refine s_if_ne (tgt := 21) C dX8_put_8 (by decide) ?_ ?_
  · refine s_aload_n C 0 dX8_put_21 rfl rfl ?_
    refine s_gR C ci11 1 (by decide) (Or.inl wd_2_89) dX8_put_22 (fun y2 => ?_)
    refine s_invV_i C ci4 cy_X1_size (Or.inl wd_2_146) rfl wd_2_147 wd_2_148 (con_X1_size l G y2) rfl rfl (Nat.le_of_ble_eq_true rfl) (by rw [hF]; decide) (by rw [hO]; exact Nat.le_of_ble_eq_true rfl) dX8_put_25 (fun x3 => ?_)
    refine s_iload_n C 1 dX8_put_28 rfl rfl ?_
    refine s_isub C dX8_put_29 ?_
    refine s_let (fun x4 => ?_)
    refine s_istore_n (lv' := [(2, .int x4), (0, .ref a0), (1, .int i1)]) C dX8_put_30 rfl (by decide) rfl ?_
    refine s_iload_n C 2 dX8_put_31 rfl rfl ?_
    refine s_iconst (v := 1) C dX8_put_32 (by decide) ?_
    refine s_icmp_lt (tgt := 52) C dX8_put_33 (by decide) ?_ ?_
    · refine s_sub [] rfl ?_
      exact X8_put_b52_s C hF hO hr hm X   
    refine s_iload_n C 2 dX8_put_36 rfl rfl ?_
    refine s_bipush (v := 16) C dX8_put_37 (by decide) ?_
    refine s_icmp_gt (tgt := 52) C dX8_put_39 (by decide) ?_ ?_
    · refine s_sub [] rfl ?_
      exact X8_put_b52_s C hF hO hr hm X   
    refine s_iload_n C 0 dX8_put_42 rfl rfl ?_
    refine s_if_lt (tgt := 52) C dX8_put_43 (by decide) ?_ ?_
    · refine s_sub [] rfl ?_
      exact X8_put_b52_s C hF hO hr hm X   
    refine s_iload_n C 0 dX8_put_46 rfl rfl ?_
    refine s_bipush (v := 64) C dX8_put_47 (by decide) ?_
    refine s_icmp_le (tgt := 62) C dX8_put_49 (by decide) ?_ ?_
    · refine s_aload_n C 1 dX8_put_62 rfl rfl ?_
      refine s_iload_n C 2 dX8_put_63 rfl rfl ?_
      refine s_iload_n C 0 dX8_put_64 rfl rfl ?_
      refine s_invS_i C cy_X8_recordSize (Or.inl wd_3_136) wd_2_214 (con_X8_recordSize l G i1 x4) rfl rfl (Nat.le_of_ble_eq_true rfl) (by rw [hF]; decide) (by rw [hO]; exact Nat.le_of_ble_eq_true rfl) dX8_put_65 (fun x5 => ?_)
      refine s_invV_i C ci11 cy_X8_isFull (Or.inl wd_3_137) rfl wd_3_139 wp_11 (con_X8_isFull l G a0 x5) rfl rfl (Nat.le_of_ble_eq_true rfl) (by rw [hF]; decide) (by rw [hO]; exact Nat.le_of_ble_eq_true rfl) dX8_put_68 (fun x6 => ?_)
      refine s_if_eq (tgt := 84) C dX8_put_71 (by decide) ?_ ?_
      · refine s_aload_n C 1 dX8_put_84 rfl rfl ?_
        refine s_gI C ci11 10 (by decide) (Or.inl wd_2_98) dX8_put_85 (fun x7 => ?_)
        refine s_istore_n (lv' := [(3, .int x7), (2, .int x4), (0, .ref a0), (1, .int i1)]) C dX8_put_88 rfl (by decide) rfl ?_
        refine s_aload_n C 2 dX8_put_89 rfl rfl ?_
        refine s_iload_n C 3 dX8_put_90 rfl rfl ?_
        refine s_iload_n C 1 dX8_put_91 rfl rfl ?_
        refine s_invV_i C ci11 cy_X8_write (Or.inl wd_3_143) rfl wd_3_145 wp_12 (con_X8_write l G a0 i1 x4) rfl rfl (Nat.le_of_ble_eq_true rfl) (by rw [hF]; decide) (by rw [hO]; exact Nat.le_of_ble_eq_true rfl) dX8_put_92 (fun x8 => ?_)
        refine s_istore (lv' := [(4, .int x8), (3, .int x7), (2, .int x4), (0, .ref a0), (1, .int i1)]) C dX8_put_95 (by decide) rfl ?_
        refine s_aload_n C 3 dX8_put_97 rfl rfl ?_
        refine s_gR C ci11 5 (by decide) (Or.inl wd_2_93) dX8_put_98 (fun y9 => ?_)
        refine s_aload_n C 3 dX8_put_101 rfl rfl ?_
        refine s_gR C ci11 1 (by decide) (Or.inl wd_2_89) dX8_put_102 (fun y10 => ?_)
        refine s_iconst (v := 0) C dX8_put_105 (by decide) ?_
        refine s_iload_n C 4 dX8_put_106 rfl rfl ?_
        refine s_invV_r C ci5 cy_X2_rowFor (Or.inl wd_5_31) rfl wd_5_32 wd_5_33 (con_X2_rowFor l G y9 y10 0 i1) rfl rfl (Nat.le_of_ble_eq_true rfl) (by rw [hF]; decide) (by rw [hO]; exact Nat.le_of_ble_eq_true rfl) dX8_put_107 (fun y11 => ?_)
        refine s_aload_n C 3 dX8_put_110 rfl rfl ?_
        refine s_gI C ci11 9 (by decide) (Or.inl wd_2_97) dX8_put_111 (fun x12 => ?_)
        refine s_iload C 0 dX8_put_114 rfl ?_
        refine s_iload_n C 2 dX8_put_116 rfl rfl ?_
        refine s_iload_n C 1 dX8_put_117 rfl rfl ?_
        refine s_invV_u C ci10 cy_X7_tell (Or.inl wd_5_89) rfl wd_5_85 wd_5_86 (con_X7_tell l G y11 x12 x8 x4 x7) rfl rfl (Nat.le_of_ble_eq_true rfl) (by rw [hF]; decide) (by rw [hO]; exact Nat.le_of_ble_eq_true rfl) dX8_put_118 ?_
        refine s_iload_n C 1 dX8_put_121 rfl rfl ?_
        exact t_iret C hr dX8_put_122
      exact t_throw (k := 2) C X rfl wd_3_67 wd_1_21 (by decide +kernel) str_105 hat_78 dX8_put_74 dX8_put_77 dX8_put_78 dX8_put_80 dX8_put_83 (by rw [hF]; decide) (by rw [hO]; exact Nat.le_of_ble_eq_true rfl)
    refine s_sub [] rfl ?_
    exact X8_put_b52_s C hF hO hr hm X   
  exact t_throw (k := 1) C X rfl wd_3_119 wd_1_22 (by decide +kernel) str_92 hat_94 dX8_put_11 dX8_put_14 dX8_put_15 dX8_put_17 dX8_put_20 (by rw [hF]; decide) (by rw [hO]; exact Nat.le_of_ble_eq_true rfl)

theorem dX8_remove_0 : decode cX8_remove 0 = .ok (.aload_n 0, 1) := by decide +kernel
theorem dX8_remove_1 : decode cX8_remove 1 = .ok (.invokevirtual 83, 3) := by decide +kernel
theorem dX8_remove_4 : decode cX8_remove 4 = .ok (.aload_n 0, 1) := by decide +kernel
theorem dX8_remove_5 : decode cX8_remove 5 = .ok (.getfield 86, 3) := by decide +kernel
theorem dX8_remove_8 : decode cX8_remove 8 = .ok (.ifCond .ne 13, 3) := by decide +kernel
theorem dX8_remove_11 : decode cX8_remove 11 = .ok (.new 90, 3) := by decide +kernel
theorem dX8_remove_14 : decode cX8_remove 14 = .ok (.dup, 1) := by decide +kernel
theorem dX8_remove_15 : decode cX8_remove 15 = .ok (.ldc 92, 2) := by decide +kernel
theorem dX8_remove_17 : decode cX8_remove 17 = .ok (.invokespecial 94, 3) := by decide +kernel
theorem dX8_remove_20 : decode cX8_remove 20 = .ok (.athrow, 1) := by decide +kernel
theorem dX8_remove_21 : decode cX8_remove 21 = .ok (.aload_n 0, 1) := by decide +kernel
theorem dX8_remove_22 : decode cX8_remove 22 = .ok (.getfield 16, 3) := by decide +kernel
theorem dX8_remove_25 : decode cX8_remove 25 = .ok (.invokevirtual 70, 3) := by decide +kernel
theorem dX8_remove_28 : decode cX8_remove 28 = .ok (.istore_n 1, 1) := by decide +kernel
theorem dX8_remove_29 : decode cX8_remove 29 = .ok (.iload_n 1, 1) := by decide +kernel
theorem dX8_remove_30 : decode cX8_remove 30 = .ok (.iconst 1, 1) := by decide +kernel
theorem dX8_remove_31 : decode cX8_remove 31 = .ok (.if_icmp .lt 9, 3) := by decide +kernel
theorem dX8_remove_34 : decode cX8_remove 34 = .ok (.iload_n 1, 1) := by decide +kernel
theorem dX8_remove_35 : decode cX8_remove 35 = .ok (.bipush 16, 2) := by decide +kernel
theorem dX8_remove_37 : decode cX8_remove 37 = .ok (.if_icmp .le 13, 3) := by decide +kernel
theorem dX8_remove_40 : decode cX8_remove 40 = .ok (.new 59, 3) := by decide +kernel
theorem dX8_remove_43 : decode cX8_remove 43 = .ok (.dup, 1) := by decide +kernel
theorem dX8_remove_44 : decode cX8_remove 44 = .ok (.ldc 127, 2) := by decide +kernel
theorem dX8_remove_46 : decode cX8_remove 46 = .ok (.invokespecial 63, 3) := by decide +kernel
theorem dX8_remove_49 : decode cX8_remove 49 = .ok (.athrow, 1) := by decide +kernel
theorem dX8_remove_50 : decode cX8_remove 50 = .ok (.aload_n 0, 1) := by decide +kernel
theorem dX8_remove_51 : decode cX8_remove 51 = .ok (.getfield 35, 3) := by decide +kernel
theorem dX8_remove_54 : decode cX8_remove 54 = .ok (.aload_n 0, 1) := by decide +kernel
theorem dX8_remove_55 : decode cX8_remove 55 = .ok (.getfield 16, 3) := by decide +kernel
theorem dX8_remove_58 : decode cX8_remove 58 = .ok (.iconst 0, 1) := by decide +kernel
theorem dX8_remove_59 : decode cX8_remove 59 = .ok (.iload_n 1, 1) := by decide +kernel
theorem dX8_remove_60 : decode cX8_remove 60 = .ok (.invokevirtual 129, 3) := by decide +kernel
theorem dX8_remove_63 : decode cX8_remove 63 = .ok (.istore_n 2, 1) := by decide +kernel
theorem dX8_remove_64 : decode cX8_remove 64 = .ok (.iload_n 2, 1) := by decide +kernel
theorem dX8_remove_65 : decode cX8_remove 65 = .ok (.ifCond .ge 5, 3) := by decide +kernel
theorem dX8_remove_68 : decode cX8_remove 68 = .ok (.iconst 0, 1) := by decide +kernel
theorem dX8_remove_69 : decode cX8_remove 69 = .ok (.ireturn, 1) := by decide +kernel
theorem dX8_remove_70 : decode cX8_remove 70 = .ok (.aload_n 0, 1) := by decide +kernel
theorem dX8_remove_71 : decode cX8_remove 71 = .ok (.iload_n 1, 1) := by decide +kernel
theorem dX8_remove_72 : decode cX8_remove 72 = .ok (.iconst (-1), 1) := by decide +kernel
theorem dX8_remove_73 : decode cX8_remove 73 = .ok (.invokestatic 97, 3) := by decide +kernel
theorem dX8_remove_76 : decode cX8_remove 76 = .ok (.invokevirtual 101, 3) := by decide +kernel
theorem dX8_remove_79 : decode cX8_remove 79 = .ok (.ifCond .eq 13, 3) := by decide +kernel
theorem dX8_remove_82 : decode cX8_remove 82 = .ok (.new 74, 3) := by decide +kernel
theorem dX8_remove_85 : decode cX8_remove 85 = .ok (.dup, 1) := by decide +kernel
theorem dX8_remove_86 : decode cX8_remove 86 = .ok (.ldc 105, 2) := by decide +kernel
theorem dX8_remove_88 : decode cX8_remove 88 = .ok (.invokespecial 78, 3) := by decide +kernel
theorem dX8_remove_91 : decode cX8_remove 91 = .ok (.athrow, 1) := by decide +kernel
theorem dX8_remove_92 : decode cX8_remove 92 = .ok (.aload_n 0, 1) := by decide +kernel
theorem dX8_remove_93 : decode cX8_remove 93 = .ok (.iload_n 1, 1) := by decide +kernel
theorem dX8_remove_94 : decode cX8_remove 94 = .ok (.iconst (-1), 1) := by decide +kernel
theorem dX8_remove_95 : decode cX8_remove 95 = .ok (.invokevirtual 111, 3) := by decide +kernel
theorem dX8_remove_98 : decode cX8_remove 98 = .ok (.pop, 1) := by decide +kernel
theorem dX8_remove_99 : decode cX8_remove 99 = .ok (.aload_n 0, 1) := by decide +kernel
theorem dX8_remove_100 : decode cX8_remove 100 = .ok (.getfield 35, 3) := by decide +kernel
theorem dX8_remove_103 : decode cX8_remove 103 = .ok (.iload_n 2, 1) := by decide +kernel
theorem dX8_remove_104 : decode cX8_remove 104 = .ok (.invokevirtual 133, 3) := by decide +kernel
theorem dX8_remove_107 : decode cX8_remove 107 = .ok (.iconst 1, 1) := by decide +kernel
theorem dX8_remove_108 : decode cX8_remove 108 = .ok (.ireturn, 1) := by decide +kernel
def X8_remove_b40    : M (Nat ⊕ Int32) := th 0
def X8_remove (a0 : Nat) : M (Nat ⊕ Int32) := bd (ck 11 a0) (fun _ => bd (X8_takeTape a0) (fun _ => bd (gI 11 8 a0) (fun x1 => it (¬ x1 = 0) (bd (gR 11 1 a0) (fun y2 => bd (ck 4 y2) (fun _ => bd (X1_size y2) (fun x3 => it (x3 < 1) (X8_remove_b40   ) (it (x3 ≤ 16) (bd (gR 11 5 a0) (fun y4 => bd (gR 11 1 a0) (fun y5 => bd (ck 5 y4) (fun _ => bd (X2_indexOf y4 y5 0 x3) (fun x6 => it (0 ≤ x6) (bd (X8_recordSize x3 (-1)) (fun x7 => bd (ck 11 a0) (fun _ => bd (X8_isFull a0 x7) (fun x8 => it (x8 = 0) (bd (ck 11 a0) (fun _ => bd (X8_write a0 x3 (-1)) (fun x9 => bd (gR 11 5 a0) (fun y10 => bd (ck 5 y10) (fun _ => bd (X2_drop y10 x6) (fun _ => pu (.inr 1))))))) (th 2))))) (pu (.inr 0))))))) (X8_remove_b40   )))))) (th 1))))
section
variable {G : Gx} {p : Program} {l : Launch} {e : Env} {R : Room} {s : State} {m : MethodId} {args : Array Value} {below : List Frame} {meth : Method} {c : Code} {h0 : Hp} {r : Nat ⊕ Int32} {h' : Hp}
set_option maxRecDepth 20000 in
theorem X8_remove_b40_s (C : Cx G p R s m args meth c cX8_remove 3 yX8_remove.cls h0 h') (hF : R.frames = 10) (hO : R.locals = 305) (hr : meth.sig.returnType = (some .boolean)) (hm : meth.name = yX8_remove.name) (X : CxT G l s c h0 [])    : Sm G (QT G rvI below args s h0 r h') p l e R s m args below meth c 3 h0 r h' 40 [] [] (X8_remove_b40   ) := by
  exact t_throw (k := 0) C X rfl wd_2_229 wd_1_20 (by decide +kernel) str_127 hat_63 dX8_remove_40 dX8_remove_43 dX8_remove_44 dX8_remove_46 dX8_remove_49 (by rw [hF]; decide) (by rw [hO]; exact Nat.le_of_ble_eq_true rfl)
end
set_option maxRecDepth 20000 in
theorem con_X8_remove (l : Launch) (G : Gx) (hl0 : l.stackTraces = false) (a0 : Nat) : ConT G rvI l yX8_remove cX8_remove 3 (some .boolean) 10 305 [.ref a0] (X8_remove a0) := by
  refine con_ofT (lv := [(0, .ref a0)]) hl0 (by decide) (Nat.le_of_ble_eq_true rfl) rfl (fun p e R s m args below meth c h0 r h' C hF hO hr hm X => ?_)
  refine s_aload_n C 0 dX8_remove_0 rfl rfl ?_
  refine s_invV_u C ci11 cy_X8_takeTape (Or.inl wd_3_110) rfl wd_3_112 wp_10 (con_X8_takeTape l G a0) rfl rfl (Nat.le_of_ble_eq_true rfl) (by rw [hF]; decide) (by rw [hO]; exact Nat.le_of_ble_eq_true rfl) dX8_remove_1 ?_
  refine s_aload_n C 0 dX8_remove_4 rfl rfl ?_
  refine s_gI C ci11 8 (by decide) (Or.inl wd_2_96) dX8_remove_5 (fun x1 => ?_)
  refine s_if_ne (tgt := 21) C dX8_remove_8 (by decide) ?_ ?_
  · refine s_aload_n C 0 dX8_remove_21 rfl rfl ?_
    refine s_gR C ci11 1 (by decide) (Or.inl wd_2_89) dX8_remove_22 (fun y2 => ?_)
    refine s_invV_i C ci4 cy_X1_size (Or.inl wd_2_146) rfl wd_2_147 wd_2_148 (con_X1_size l G y2) rfl rfl (Nat.le_of_ble_eq_true rfl) (by rw [hF]; decide) (by rw [hO]; exact Nat.le_of_ble_eq_true rfl) dX8_remove_25 (fun x3 => ?_)
    refine s_istore_n (lv' := [(1, .int x3), (0, .ref a0)]) C dX8_remove_28 rfl (by decide) rfl ?_
    refine s_iload_n C 0 dX8_remove_29 rfl rfl ?_
    refine s_iconst (v := 1) C dX8_remove_30 (by decide) ?_
    refine s_icmp_lt (tgt := 40) C dX8_remove_31 (by decide) ?_ ?_
    · refine s_sub [] rfl ?_
      exact X8_remove_b40_s C hF hO hr hm X   
    refine s_iload_n C 0 dX8_remove_34 rfl rfl ?_
    refine s_bipush (v := 16) C dX8_remove_35 (by decide) ?_
    refine s_icmp_le (tgt := 50) C dX8_remove_37 (by decide) ?_ ?_
    · refine s_aload_n C 1 dX8_remove_50 rfl rfl ?_
      refine s_gR C ci11 5 (by decide) (Or.inl wd_2_93) dX8_remove_51 (fun y4 => ?_)
      refine s_aload_n C 1 dX8_remove_54 rfl rfl ?_
      refine s_gR C ci11 1 (by decide) (Or.inl wd_2_89) dX8_remove_55 (fun y5 => ?_)
      refine s_iconst (v := 0) C dX8_remove_58 (by decide) ?_
      refine s_iload_n C 0 dX8_remove_59 rfl rfl ?_
      refine s_invV_i C ci5 cy_X2_indexOf (Or.inl wd_5_98) rfl wd_5_36 wd_5_37 (con_X2_indexOf l G y4 y5 0 x3) rfl rfl (Nat.le_of_ble_eq_true rfl) (by rw [hF]; decide) (by rw [hO]; exact Nat.le_of_ble_eq_true rfl) dX8_remove_60 (fun x6 => ?_)
      refine s_istore_n (lv' := [(2, .int x6), (1, .int x3), (0, .ref a0)]) C dX8_remove_63 rfl (by decide) rfl ?_
      refine s_iload_n C 0 dX8_remove_64 rfl rfl ?_
      refine s_if_ge (tgt := 70) C dX8_remove_65 (by decide) ?_ ?_
      · refine s_aload_n C 2 dX8_remove_70 rfl rfl ?_
        refine s_iload_n C 1 dX8_remove_71 rfl rfl ?_
        refine s_iconst (v := (-1)) C dX8_remove_72 (by decide) ?_
        refine s_invS_i C cy_X8_recordSize (Or.inl wd_3_136) wd_2_214 (con_X8_recordSize l G x3 (-1)) rfl rfl (Nat.le_of_ble_eq_true rfl) (by rw [hF]; decide) (by rw [hO]; exact Nat.le_of_ble_eq_true rfl) dX8_remove_73 (fun x7 => ?_)
        refine s_invV_i C ci11 cy_X8_isFull (Or.inl wd_3_137) rfl wd_3_139 wp_11 (con_X8_isFull l G a0 x7) rfl rfl (Nat.le_of_ble_eq_true rfl) (by rw [hF]; decide) (by rw [hO]; exact Nat.le_of_ble_eq_true rfl) dX8_remove_76 (fun x8 => ?_)
        refine s_if_eq (tgt := 92) C dX8_remove_79 (by decide) ?_ ?_
        · refine s_aload_n C 2 dX8_remove_92 rfl rfl ?_
          refine s_iload_n C 1 dX8_remove_93 rfl rfl ?_
          refine s_iconst (v := (-1)) C dX8_remove_94 (by decide) ?_
          refine s_invV_i C ci11 cy_X8_write (Or.inl wd_3_143) rfl wd_3_145 wp_12 (con_X8_write l G a0 x3 (-1)) rfl rfl (Nat.le_of_ble_eq_true rfl) (by rw [hF]; decide) (by rw [hO]; exact Nat.le_of_ble_eq_true rfl) dX8_remove_95 (fun x9 => ?_)
          refine s_pop C dX8_remove_98 rfl ?_
          refine s_aload_n C 2 dX8_remove_99 rfl rfl ?_
          refine s_gR C ci11 5 (by decide) (Or.inl wd_2_93) dX8_remove_100 (fun y10 => ?_)
          refine s_iload_n C 0 dX8_remove_103 rfl rfl ?_
          refine s_invV_u C ci5 cy_X2_drop (Or.inl wd_5_99) rfl wd_2_78 wd_2_79 (con_X2_drop l G y10 x6) rfl rfl (Nat.le_of_ble_eq_true rfl) (by rw [hF]; decide) (by rw [hO]; exact Nat.le_of_ble_eq_true rfl) dX8_remove_104 ?_
          refine s_iconst (v := 1) C dX8_remove_107 (by decide) ?_
          exact t_zret C hr (Or.inr rfl) dX8_remove_108
        exact t_throw (k := 2) C X rfl wd_3_67 wd_1_21 (by decide +kernel) str_105 hat_78 dX8_remove_82 dX8_remove_85 dX8_remove_86 dX8_remove_88 dX8_remove_91 (by rw [hF]; decide) (by rw [hO]; exact Nat.le_of_ble_eq_true rfl)
      refine s_iconst (v := 0) C dX8_remove_68 (by decide) ?_
      exact t_zret C hr (Or.inl rfl) dX8_remove_69
    refine s_sub [] rfl ?_
    exact X8_remove_b40_s C hF hO hr hm X   
  exact t_throw (k := 1) C X rfl wd_3_119 wd_1_22 (by decide +kernel) str_92 hat_94 dX8_remove_11 dX8_remove_14 dX8_remove_15 dX8_remove_17 dX8_remove_20 (by rw [hF]; decide) (by rw [hO]; exact Nat.le_of_ble_eq_true rfl)

theorem dX8_get_0 : decode cX8_get 0 = .ok (.aload_n 0, 1) := by decide +kernel
theorem dX8_get_1 : decode cX8_get 1 = .ok (.invokevirtual 83, 3) := by decide +kernel
theorem dX8_get_4 : decode cX8_get 4 = .ok (.aload_n 0, 1) := by decide +kernel
theorem dX8_get_5 : decode cX8_get 5 = .ok (.getfield 86, 3) := by decide +kernel
theorem dX8_get_8 : decode cX8_get 8 = .ok (.ifCond .ne 13, 3) := by decide +kernel
theorem dX8_get_11 : decode cX8_get 11 = .ok (.new 90, 3) := by decide +kernel
theorem dX8_get_14 : decode cX8_get 14 = .ok (.dup, 1) := by decide +kernel
theorem dX8_get_15 : decode cX8_get 15 = .ok (.ldc 92, 2) := by decide +kernel
theorem dX8_get_17 : decode cX8_get 17 = .ok (.invokespecial 94, 3) := by decide +kernel
theorem dX8_get_20 : decode cX8_get 20 = .ok (.athrow, 1) := by decide +kernel
theorem dX8_get_21 : decode cX8_get 21 = .ok (.aload_n 0, 1) := by decide +kernel
theorem dX8_get_22 : decode cX8_get 22 = .ok (.getfield 19, 3) := by decide +kernel
theorem dX8_get_25 : decode cX8_get 25 = .ok (.invokevirtual 136, 3) := by decide +kernel
theorem dX8_get_28 : decode cX8_get 28 = .ok (.aload_n 0, 1) := by decide +kernel
theorem dX8_get_29 : decode cX8_get 29 = .ok (.getfield 35, 3) := by decide +kernel
theorem dX8_get_32 : decode cX8_get 32 = .ok (.aload_n 0, 1) := by decide +kernel
theorem dX8_get_33 : decode cX8_get 33 = .ok (.getfield 35, 3) := by decide +kernel
theorem dX8_get_36 : decode cX8_get 36 = .ok (.aload_n 0, 1) := by decide +kernel
theorem dX8_get_37 : decode cX8_get 37 = .ok (.getfield 16, 3) := by decide +kernel
theorem dX8_get_40 : decode cX8_get 40 = .ok (.iconst 0, 1) := by decide +kernel
theorem dX8_get_41 : decode cX8_get 41 = .ok (.aload_n 0, 1) := by decide +kernel
theorem dX8_get_42 : decode cX8_get 42 = .ok (.getfield 16, 3) := by decide +kernel
theorem dX8_get_45 : decode cX8_get 45 = .ok (.invokevirtual 70, 3) := by decide +kernel
theorem dX8_get_48 : decode cX8_get 48 = .ok (.invokevirtual 129, 3) := by decide +kernel
theorem dX8_get_51 : decode cX8_get 51 = .ok (.invokevirtual 139, 3) := by decide +kernel
theorem dX8_get_54 : decode cX8_get 54 = .ok (.astore_n 1, 1) := by decide +kernel
theorem dX8_get_55 : decode cX8_get 55 = .ok (.aload_n 1, 1) := by decide +kernel
theorem dX8_get_56 : decode cX8_get 56 = .ok (.ifnonnull 5, 3) := by decide +kernel
theorem dX8_get_59 : decode cX8_get 59 = .ok (.iconst (-1), 1) := by decide +kernel
theorem dX8_get_60 : decode cX8_get 60 = .ok (.ireturn, 1) := by decide +kernel
theorem dX8_get_61 : decode cX8_get 61 = .ok (.aload_n 0, 1) := by decide +kernel
theorem dX8_get_62 : decode cX8_get 62 = .ok (.getfield 28, 3) := by decide +kernel
theorem dX8_get_65 : decode cX8_get 65 = .ok (.aload_n 1, 1) := by decide +kernel
theorem dX8_get_66 : decode cX8_get 66 = .ok (.getfield 143, 3) := by decide +kernel
theorem dX8_get_69 : decode cX8_get 69 = .ok (.iconst 0, 1) := by decide +kernel
theorem dX8_get_70 : decode cX8_get 70 = .ok (.invokevirtual 146, 3) := by decide +kernel
theorem dX8_get_73 : decode cX8_get 73 = .ok (.astore_n 2, 1) := by decide +kernel
theorem dX8_get_74 : decode cX8_get 74 = .ok (.aload_n 2, 1) := by decide +kernel
theorem dX8_get_75 : decode cX8_get 75 = .ok (.ifnull 14, 3) := by decide +kernel
theorem dX8_get_78 : decode cX8_get 78 = .ok (.aload_n 1, 1) := by decide +kernel
theorem dX8_get_79 : decode cX8_get 79 = .ok (.aload_n 2, 1) := by decide +kernel
theorem dX8_get_80 : decode cX8_get 80 = .ok (.getfield 150, 3) := by decide +kernel
theorem dX8_get_83 : decode cX8_get 83 = .ok (.invokestatic 155, 3) := by decide +kernel
theorem dX8_get_86 : decode cX8_get 86 = .ok (.ifCond .eq 6, 3) := by decide +kernel
theorem dX8_get_89 : decode cX8_get 89 = .ok (.bipush (-2), 2) := by decide +kernel
theorem dX8_get_91 : decode cX8_get 91 = .ok (.ireturn, 1) := by decide +kernel
theorem dX8_get_92 : decode cX8_get 92 = .ok (.aload_n 0, 1) := by decide +kernel
theorem dX8_get_93 : decode cX8_get 93 = .ok (.getfield 19, 3) := by decide +kernel
theorem dX8_get_96 : decode cX8_get 96 = .ok (.aload_n 2, 1) := by decide +kernel
theorem dX8_get_97 : decode cX8_get 97 = .ok (.getfield 150, 3) := by decide +kernel
theorem dX8_get_100 : decode cX8_get 100 = .ok (.aload_n 1, 1) := by decide +kernel
theorem dX8_get_101 : decode cX8_get 101 = .ok (.getfield 159, 3) := by decide +kernel
theorem dX8_get_104 : decode cX8_get 104 = .ok (.bipush 14, 2) := by decide +kernel
theorem dX8_get_106 : decode cX8_get 106 = .ok (.iadd, 1) := by decide +kernel
theorem dX8_get_107 : decode cX8_get 107 = .ok (.aload_n 1, 1) := by decide +kernel
theorem dX8_get_108 : decode cX8_get 108 = .ok (.getfield 162, 3) := by decide +kernel
theorem dX8_get_111 : decode cX8_get 111 = .ok (.invokevirtual 70, 3) := by decide +kernel
theorem dX8_get_114 : decode cX8_get 114 = .ok (.iadd, 1) := by decide +kernel
theorem dX8_get_115 : decode cX8_get 115 = .ok (.aload_n 1, 1) := by decide +kernel
theorem dX8_get_116 : decode cX8_get 116 = .ok (.getfield 165, 3) := by decide +kernel
theorem dX8_get_119 : decode cX8_get 119 = .ok (.invokevirtual 168, 3) := by decide +kernel
theorem dX8_get_122 : decode cX8_get 122 = .ok (.aload_n 0, 1) := by decide +kernel
theorem dX8_get_123 : decode cX8_get 123 = .ok (.getfield 19, 3) := by decide +kernel
theorem dX8_get_126 : decode cX8_get 126 = .ok (.invokevirtual 70, 3) := by decide +kernel
theorem dX8_get_129 : decode cX8_get 129 = .ok (.ireturn, 1) := by decide +kernel
def X8_get (a0 : Nat) : M (Nat ⊕ Int32) := bd (ck 11 a0) (fun _ => bd (X8_takeTape a0) (fun _ => bd (gI 11 8 a0) (fun x1 => it (¬ x1 = 0) (bd (gR 11 2 a0) (fun y2 => bd (ck 4 y2) (fun _ => bd (X1_clear y2) (fun _ => bd (gR 11 5 a0) (fun y3 => bd (gR 11 5 a0) (fun y4 => bd (gR 11 1 a0) (fun y5 => bd (gR 11 1 a0) (fun y6 => bd (ck 4 y6) (fun _ => bd (X1_size y6) (fun x7 => bd (ck 5 y4) (fun _ => bd (X2_indexOf y4 y5 0 x7) (fun x8 => bd (ck 5 y3) (fun _ => bd (X2_row y3 x8) (fun z9 => co z9 (pu (.inr (-1))) (fun y10 => bd (gR 11 4 a0) (fun y11 => bd (gI 10 1 y10) (fun x12 => bd (ck 6 y11) (fun _ => bd (X3_find y11 x12 0) (fun z13 => co z13 (pu (.inr (-2))) (fun y14 => bd (gR 7 0 y14) (fun y15 => bd (X8_isBad y10 y15) (fun x16 => it (x16 = 0) (bd (gR 11 2 a0) (fun y17 => bd (gR 7 0 y14) (fun y18 => bd (gI 10 2 y10) (fun x19 => bd (gR 10 0 y10) (fun y20 => bd (ck 4 y20) (fun _ => bd (X1_size y20) (fun x21 => bd (gI 10 3 y10) (fun x22 => bd (ck 4 y17) (fun _ => bd (X1_addPart y17 y18 ((x19 + 14) + x21) x22) (fun _ => bd (gR 11 2 a0) (fun y23 => bd (ck 4 y23) (fun _ => bd (X1_size y23) (fun x24 => pu (.inr x24)))))))))))))) (pu (.inr (-2))))))))))))))))))))))))) (th 1))))
section
variable {G : Gx} {p : Program} {l : Launch} {e : Env} {R : Room} {s : State} {m : MethodId} {args : Array Value} {below : List Frame} {meth : Method} {c : Code} {h0 : Hp} {r : Nat ⊕ Int32} {h' : Hp}
end
set_option maxRecDepth 20000 in
theorem con_X8_get (l : Launch) (G : Gx) (hl0 : l.stackTraces = false) (a0 : Nat) : ConT G rvI l yX8_get cX8_get 3 (some .int) 6 186 [.ref a0] (X8_get a0) := by
  refine con_ofT (lv := [(0, .ref a0)]) hl0 (by decide) (Nat.le_of_ble_eq_true rfl) rfl (fun p e R s m args below meth c h0 r h' C hF hO hr hm X => ?_)
  refine s_aload_n C 0 dX8_get_0 rfl rfl ?_
  refine s_invV_u C ci11 cy_X8_takeTape (Or.inl wd_3_110) rfl wd_3_112 wp_10 (con_X8_takeTape l G a0) rfl rfl (Nat.le_of_ble_eq_true rfl) (by rw [hF]; decide) (by rw [hO]; exact Nat.le_of_ble_eq_true rfl) dX8_get_1 ?_
  refine s_aload_n C 0 dX8_get_4 rfl rfl ?_
  refine s_gI C ci11 8 (by decide) (Or.inl wd_2_96) dX8_get_5 (fun x1 => ?_)
  refine s_if_ne (tgt := 21) C dX8_get_8 (by decide) ?_ ?_
  · refine s_aload_n C 0 dX8_get_21 rfl rfl ?_
    refine s_gR C ci11 2 (by decide) (Or.inl wd_2_90) dX8_get_22 (fun y2 => ?_)
    refine s_invV_u C ci4 cy_X1_clear (Or.inl wd_2_64) rfl wd_2_65 wd_2_66 (con_X1_clear l G y2) rfl rfl (Nat.le_of_ble_eq_true rfl) (by rw [hF]; decide) (by rw [hO]; exact Nat.le_of_ble_eq_true rfl) dX8_get_25 ?_
    refine s_aload_n C 0 dX8_get_28 rfl rfl ?_
    refine s_gR C ci11 5 (by decide) (Or.inl wd_2_93) dX8_get_29 (fun y3 => ?_)
    refine s_aload_n C 0 dX8_get_32 rfl rfl ?_
    refine s_gR C ci11 5 (by decide) (Or.inl wd_2_93) dX8_get_33 (fun y4 => ?_)
    refine s_aload_n C 0 dX8_get_36 rfl rfl ?_
    refine s_gR C ci11 1 (by decide) (Or.inl wd_2_89) dX8_get_37 (fun y5 => ?_)
    refine s_iconst (v := 0) C dX8_get_40 (by decide) ?_
    refine s_aload_n C 0 dX8_get_41 rfl rfl ?_
    refine s_gR C ci11 1 (by decide) (Or.inl wd_2_89) dX8_get_42 (fun y6 => ?_)
    refine s_invV_i C ci4 cy_X1_size (Or.inl wd_2_146) rfl wd_2_147 wd_2_148 (con_X1_size l G y6) rfl rfl (Nat.le_of_ble_eq_true rfl) (by rw [hF]; decide) (by rw [hO]; exact Nat.le_of_ble_eq_true rfl) dX8_get_45 (fun x7 => ?_)
    refine s_invV_i C ci5 cy_X2_indexOf (Or.inl wd_5_98) rfl wd_5_36 wd_5_37 (con_X2_indexOf l G y4 y5 0 x7) rfl rfl (Nat.le_of_ble_eq_true rfl) (by rw [hF]; decide) (by rw [hO]; exact Nat.le_of_ble_eq_true rfl) dX8_get_48 (fun x8 => ?_)
    refine s_invV_o C ci5 cy_X2_row (Or.inl wd_2_158) rfl wd_2_159 wd_2_160 (con_X2_row l G y3 x8) rfl rfl (Nat.le_of_ble_eq_true rfl) (by rw [hF]; decide) (by rw [hO]; exact Nat.le_of_ble_eq_true rfl) dX8_get_51 (fun z9 => ?_)
    refine s_ostore_n (lv' := [(1, va_rf z9), (0, .ref a0)]) C dX8_get_54 rfl (by decide) rfl ?_
    refine s_oload_n C 0 dX8_get_55 rfl rfl ?_
    refine s_ifnonnull (tgt := 61) C dX8_get_56 (by decide) (fun hq => ?_) (fun y10 hq => ?_)
    · subst hq
      refine s_iconst (v := (-1)) C dX8_get_59 (by decide) ?_
      exact t_iret C hr dX8_get_60
    subst hq
    refine s_aload_n C 1 dX8_get_61 rfl rfl ?_
    refine s_gR C ci11 4 (by decide) (Or.inl wd_2_92) dX8_get_62 (fun y11 => ?_)
    refine s_aload_n C 0 dX8_get_65 rfl rfl ?_
    refine s_gI C ci10 1 (by decide) (Or.inr (Or.inr ⟨_, wd_5_57⟩)) dX8_get_66 (fun x12 => ?_)
    refine s_iconst (v := 0) C dX8_get_69 (by decide) ?_
    refine s_invV_o C ci6 cy_X3_find (Or.inl wd_5_107) rfl wd_3_176 wd_3_177 (con_X3_find l G y11 x12 0) rfl rfl (Nat.le_of_ble_eq_true rfl) (by rw [hF]; decide) (by rw [hO]; exact Nat.le_of_ble_eq_true rfl) dX8_get_70 (fun z13 => ?_)
    refine s_ostore_n (lv' := [(2, va_rf z13), (1, .ref y10), (0, .ref a0)]) C dX8_get_73 rfl (by decide) rfl ?_
    refine s_oload_n C 0 dX8_get_74 rfl rfl ?_
    refine s_ifnull (tgt := 89) C dX8_get_75 (by decide) (fun hq => ?_) (fun y14 hq => ?_)
    · subst hq
      refine s_bipush (v := (-2)) C dX8_get_89 (by decide) ?_
      exact t_iret C hr dX8_get_91
    subst hq
    refine s_aload_n C 1 dX8_get_78 rfl rfl ?_
    refine s_aload_n C 0 dX8_get_79 rfl rfl ?_
    refine s_gR C ci7 0 (by decide) (Or.inr (Or.inr ⟨_, wd_3_215⟩)) dX8_get_80 (fun y15 => ?_)
    refine s_invS_i C cy_X8_isBad (Or.inl wd_5_108) wd_5_109 (con_X8_isBad l G y10 y15) rfl rfl (Nat.le_of_ble_eq_true rfl) (by rw [hF]; decide) (by rw [hO]; exact Nat.le_of_ble_eq_true rfl) dX8_get_83 (fun x16 => ?_)
    refine s_if_eq (tgt := 92) C dX8_get_86 (by decide) ?_ ?_
    · refine s_aload_n C 2 dX8_get_92 rfl rfl ?_
      refine s_gR C ci11 2 (by decide) (Or.inl wd_2_90) dX8_get_93 (fun y17 => ?_)
      refine s_aload_n C 0 dX8_get_96 rfl rfl ?_
      refine s_gR C ci7 0 (by decide) (Or.inr (Or.inr ⟨_, wd_3_215⟩)) dX8_get_97 (fun y18 => ?_)
      refine s_aload_n C 1 dX8_get_100 rfl rfl ?_
      refine s_gI C ci10 2 (by decide) (Or.inr (Or.inr ⟨_, wd_5_61⟩)) dX8_get_101 (fun x19 => ?_)
      refine s_bipush (v := 14) C dX8_get_104 (by decide) ?_
      refine s_iadd C dX8_get_106 ?_
      refine s_aload_n C 1 dX8_get_107 rfl rfl ?_
      refine s_gR C ci10 0 (by decide) (Or.inr (Or.inr ⟨_, wd_5_55⟩)) dX8_get_108 (fun y20 => ?_)
      refine s_invV_i C ci4 cy_X1_size (Or.inl wd_2_146) rfl wd_2_147 wd_2_148 (con_X1_size l G y20) rfl rfl (Nat.le_of_ble_eq_true rfl) (by rw [hF]; decide) (by rw [hO]; exact Nat.le_of_ble_eq_true rfl) dX8_get_111 (fun x21 => ?_)
      refine s_iadd C dX8_get_114 ?_
      refine s_aload_n C 1 dX8_get_115 rfl rfl ?_
      refine s_gI C ci10 3 (by decide) (Or.inr (Or.inr ⟨_, wd_5_64⟩)) dX8_get_116 (fun x22 => ?_)
      refine s_invV_u C ci4 cy_X1_addPart (Or.inl wd_3_114) rfl wd_3_115 wd_3_116 (con_X1_addPart l G y17 y18 ((x19 + 14) + x21) x22) rfl rfl (Nat.le_of_ble_eq_true rfl) (by rw [hF]; decide) (by rw [hO]; exact Nat.le_of_ble_eq_true rfl) dX8_get_119 ?_
      refine s_aload_n C 2 dX8_get_122 rfl rfl ?_
      refine s_gR C ci11 2 (by decide) (Or.inl wd_2_90) dX8_get_123 (fun y23 => ?_)
      refine s_invV_i C ci4 cy_X1_size (Or.inl wd_2_146) rfl wd_2_147 wd_2_148 (con_X1_size l G y23) rfl rfl (Nat.le_of_ble_eq_true rfl) (by rw [hF]; decide) (by rw [hO]; exact Nat.le_of_ble_eq_true rfl) dX8_get_126 (fun x24 => ?_)
      exact t_iret C hr dX8_get_129
    refine s_bipush (v := (-2)) C dX8_get_89 (by decide) ?_
    exact t_iret C hr dX8_get_91
  exact t_throw (k := 1) C X rfl wd_3_119 wd_1_22 (by decide +kernel) str_92 hat_94 dX8_get_11 dX8_get_14 dX8_get_15 dX8_get_17 dX8_get_20 (by rw [hF]; decide) (by rw [hO]; exact Nat.le_of_ble_eq_true rfl)

theorem dX8_sync_0 : decode cX8_sync 0 = .ok (.aload_n 0, 1) := by decide +kernel
theorem dX8_sync_1 : decode cX8_sync 1 = .ok (.getfield 86, 3) := by decide +kernel
theorem dX8_sync_4 : decode cX8_sync 4 = .ok (.ifCond .ne 13, 3) := by decide +kernel
theorem dX8_sync_7 : decode cX8_sync 7 = .ok (.new 90, 3) := by decide +kernel
theorem dX8_sync_10 : decode cX8_sync 10 = .ok (.dup, 1) := by decide +kernel
theorem dX8_sync_11 : decode cX8_sync 11 = .ok (.ldc 92, 2) := by decide +kernel
theorem dX8_sync_13 : decode cX8_sync 13 = .ok (.invokespecial 94, 3) := by decide +kernel
theorem dX8_sync_16 : decode cX8_sync 16 = .ok (.athrow, 1) := by decide +kernel
theorem dX8_sync_17 : decode cX8_sync 17 = .ok (.aload_n 0, 1) := by decide +kernel
theorem dX8_sync_18 : decode cX8_sync 18 = .ok (.getfield 28, 3) := by decide +kernel
theorem dX8_sync_21 : decode cX8_sync 21 = .ok (.invokevirtual 176, 3) := by decide +kernel
theorem dX8_sync_24 : decode cX8_sync 24 = .ok (.istore_n 1, 1) := by decide +kernel
theorem dX8_sync_25 : decode cX8_sync 25 = .ok (.aload_n 0, 1) := by decide +kernel
theorem dX8_sync_26 : decode cX8_sync 26 = .ok (.getfield 28, 3) := by decide +kernel
theorem dX8_sync_29 : decode cX8_sync 29 = .ok (.invokevirtual 179, 3) := by decide +kernel
theorem dX8_sync_32 : decode cX8_sync 32 = .ok (.iload_n 1, 1) := by decide +kernel
theorem dX8_sync_33 : decode cX8_sync 33 = .ok (.ireturn, 1) := by decide +kernel
def X8_sync (a0 : Nat) : M (Nat ⊕ Int32) := bd (gI 11 8 a0) (fun x1 => it (¬ x1 = 0) (bd (gR 11 4 a0) (fun y2 => bd (ck 6 y2) (fun _ => bd (X3_unsynced y2) (fun x3 => bd (gR 11 4 a0) (fun y4 => bd (ck 6 y4) (fun _ => bd (X3_settle y4) (fun _ => pu (.inr x3)))))))) (th 1))
section
variable {G : Gx} {p : Program} {l : Launch} {e : Env} {R : Room} {s : State} {m : MethodId} {args : Array Value} {below : List Frame} {meth : Method} {c : Code} {h0 : Hp} {r : Nat ⊕ Int32} {h' : Hp}
end
set_option maxRecDepth 20000 in
theorem con_X8_sync (l : Launch) (G : Gx) (hl0 : l.stackTraces = false) (a0 : Nat) : ConT G rvI l yX8_sync cX8_sync 2 (some .int) 6 100 [.ref a0] (X8_sync a0) := by
  refine con_ofT (lv := [(0, .ref a0)]) hl0 (by decide) (Nat.le_of_ble_eq_true rfl) rfl (fun p e R s m args below meth c h0 r h' C hF hO hr hm X => ?_)
  refine s_aload_n C 0 dX8_sync_0 rfl rfl ?_
  refine s_gI C ci11 8 (by decide) (Or.inl wd_2_96) dX8_sync_1 (fun x1 => ?_)
  refine s_if_ne (tgt := 17) C dX8_sync_4 (by decide) ?_ ?_
  · refine s_aload_n C 0 dX8_sync_17 rfl rfl ?_
    refine s_gR C ci11 4 (by decide) (Or.inl wd_2_92) dX8_sync_18 (fun y2 => ?_)
    refine s_invV_i C ci6 cy_X3_unsynced (Or.inl wd_2_180) rfl wd_2_181 wd_2_182 (con_X3_unsynced l G y2) rfl rfl (Nat.le_of_ble_eq_true rfl) (by rw [hF]; decide) (by rw [hO]; exact Nat.le_of_ble_eq_true rfl) dX8_sync_21 (fun x3 => ?_)
    refine s_istore_n (lv' := [(1, .int x3), (0, .ref a0)]) C dX8_sync_24 rfl (by decide) rfl ?_
    refine s_aload_n C 1 dX8_sync_25 rfl rfl ?_
    refine s_gR C ci11 4 (by decide) (Or.inl wd_2_92) dX8_sync_26 (fun y4 => ?_)
    refine s_invV_u C ci6 cy_X3_settle (Or.inl wd_5_129) rfl wd_5_130 wd_5_131 (con_X3_settle l G y4) rfl rfl (Nat.le_of_ble_eq_true rfl) (by rw [hF]; decide) (by rw [hO]; exact Nat.le_of_ble_eq_true rfl) dX8_sync_29 ?_
    refine s_iload_n C 0 dX8_sync_32 rfl rfl ?_
    exact t_iret C hr dX8_sync_33
  exact t_throw (k := 1) C X rfl wd_3_119 wd_1_22 (by decide +kernel) str_92 hat_94 dX8_sync_7 dX8_sync_10 dX8_sync_11 dX8_sync_13 dX8_sync_16 (by rw [hF]; decide) (by rw [hO]; exact Nat.le_of_ble_eq_true rfl)

theorem dX8_crash_0 : decode cX8_crash 0 = .ok (.aload_n 0, 1) := by decide +kernel
theorem dX8_crash_1 : decode cX8_crash 1 = .ok (.getfield 86, 3) := by decide +kernel
theorem dX8_crash_4 : decode cX8_crash 4 = .ok (.ifCond .ne 13, 3) := by decide +kernel
theorem dX8_crash_7 : decode cX8_crash 7 = .ok (.new 90, 3) := by decide +kernel
theorem dX8_crash_10 : decode cX8_crash 10 = .ok (.dup, 1) := by decide +kernel
theorem dX8_crash_11 : decode cX8_crash 11 = .ok (.ldc 92, 2) := by decide +kernel
theorem dX8_crash_13 : decode cX8_crash 13 = .ok (.invokespecial 94, 3) := by decide +kernel
theorem dX8_crash_16 : decode cX8_crash 16 = .ok (.athrow, 1) := by decide +kernel
theorem dX8_crash_17 : decode cX8_crash 17 = .ok (.aload_n 0, 1) := by decide +kernel
theorem dX8_crash_18 : decode cX8_crash 18 = .ok (.getfield 28, 3) := by decide +kernel
theorem dX8_crash_21 : decode cX8_crash 21 = .ok (.invokevirtual 176, 3) := by decide +kernel
theorem dX8_crash_24 : decode cX8_crash 24 = .ok (.istore_n 2, 1) := by decide +kernel
theorem dX8_crash_25 : decode cX8_crash 25 = .ok (.iload_n 1, 1) := by decide +kernel
theorem dX8_crash_26 : decode cX8_crash 26 = .ok (.ifCond .lt 8, 3) := by decide +kernel
theorem dX8_crash_29 : decode cX8_crash 29 = .ok (.iload_n 1, 1) := by decide +kernel
theorem dX8_crash_30 : decode cX8_crash 30 = .ok (.iload_n 2, 1) := by decide +kernel
theorem dX8_crash_31 : decode cX8_crash 31 = .ok (.if_icmp .le 13, 3) := by decide +kernel
theorem dX8_crash_34 : decode cX8_crash 34 = .ok (.new 59, 3) := by decide +kernel
theorem dX8_crash_37 : decode cX8_crash 37 = .ok (.dup, 1) := by decide +kernel
theorem dX8_crash_38 : decode cX8_crash 38 = .ok (.ldc 182, 2) := by decide +kernel
theorem dX8_crash_40 : decode cX8_crash 40 = .ok (.invokespecial 63, 3) := by decide +kernel
theorem dX8_crash_43 : decode cX8_crash 43 = .ok (.athrow, 1) := by decide +kernel
theorem dX8_crash_44 : decode cX8_crash 44 = .ok (.aload_n 0, 1) := by decide +kernel
theorem dX8_crash_45 : decode cX8_crash 45 = .ok (.getfield 28, 3) := by decide +kernel
theorem dX8_crash_48 : decode cX8_crash 48 = .ok (.iload_n 2, 1) := by decide +kernel
theorem dX8_crash_49 : decode cX8_crash 49 = .ok (.iload_n 1, 1) := by decide +kernel
theorem dX8_crash_50 : decode cX8_crash 50 = .ok (.isub, 1) := by decide +kernel
theorem dX8_crash_51 : decode cX8_crash 51 = .ok (.invokevirtual 184, 3) := by decide +kernel
theorem dX8_crash_54 : decode cX8_crash 54 = .ok (.aload_n 0, 1) := by decide +kernel
theorem dX8_crash_55 : decode cX8_crash 55 = .ok (.getfield 28, 3) := by decide +kernel
theorem dX8_crash_58 : decode cX8_crash 58 = .ok (.invokevirtual 179, 3) := by decide +kernel
theorem dX8_crash_61 : decode cX8_crash 61 = .ok (.aload_n 0, 1) := by decide +kernel
theorem dX8_crash_62 : decode cX8_crash 62 = .ok (.iconst 0, 1) := by decide +kernel
theorem dX8_crash_63 : decode cX8_crash 63 = .ok (.putfield 86, 3) := by decide +kernel
theorem dX8_crash_66 : decode cX8_crash 66 = .ok (.aload_n 0, 1) := by decide +kernel
theorem dX8_crash_67 : decode cX8_crash 67 = .ok (.invokevirtual 187, 3) := by decide +kernel
theorem dX8_crash_70 : decode cX8_crash 70 = .ok (.iload_n 2, 1) := by decide +kernel
theorem dX8_crash_71 : decode cX8_crash 71 = .ok (.iload_n 1, 1) := by decide +kernel
theorem dX8_crash_72 : decode cX8_crash 72 = .ok (.isub, 1) := by decide +kernel
theorem dX8_crash_73 : decode cX8_crash 73 = .ok (.ireturn, 1) := by decide +kernel
def X8_crash_b34    : M (Nat ⊕ Int32) := th 0
def X8_crash (a0 : Nat) (i1 : Int32) : M (Nat ⊕ Int32) := bd (gI 11 8 a0) (fun x1 => it (¬ x1 = 0) (bd (gR 11 4 a0) (fun y2 => bd (ck 6 y2) (fun _ => bd (X3_unsynced y2) (fun x3 => it (i1 < 0) (X8_crash_b34   ) (it (i1 ≤ x3) (bd (gR 11 4 a0) (fun y4 => bd (ck 6 y4) (fun _ => bd (X3_loseLast y4 (x3 - i1)) (fun _ => bd (gR 11 4 a0) (fun y5 => bd (ck 6 y5) (fun _ => bd (X3_settle y5) (fun _ => bd (pZ 11 8 a0 0) (fun _ => bd (ck 11 a0) (fun _ => bd (X8_forget a0) (fun _ => pu (.inr (x3 - i1)))))))))))) (X8_crash_b34   )))))) (th 1))
section
variable {G : Gx} {p : Program} {l : Launch} {e : Env} {R : Room} {s : State} {m : MethodId} {args : Array Value} {below : List Frame} {meth : Method} {c : Code} {h0 : Hp} {r : Nat ⊕ Int32} {h' : Hp}
set_option maxRecDepth 20000 in
theorem X8_crash_b34_s (C : Cx G p R s m args meth c cX8_crash 3 yX8_crash.cls h0 h') (hF : R.frames = 10) (hO : R.locals = 293) (hr : meth.sig.returnType = (some .int)) (hm : meth.name = yX8_crash.name) (X : CxT G l s c h0 [])    : Sm G (QT G rvI below args s h0 r h') p l e R s m args below meth c 3 h0 r h' 34 [] [] (X8_crash_b34   ) := by
  exact t_throw (k := 0) C X rfl wd_2_229 wd_1_20 (by decide +kernel) str_182 hat_63 dX8_crash_34 dX8_crash_37 dX8_crash_38 dX8_crash_40 dX8_crash_43 (by rw [hF]; decide) (by rw [hO]; exact Nat.le_of_ble_eq_true rfl)
end
set_option maxRecDepth 20000 in
theorem con_X8_crash (l : Launch) (G : Gx) (hl0 : l.stackTraces = false) (a0 : Nat) (i1 : Int32) : ConT G rvI l yX8_crash cX8_crash 3 (some .int) 10 293 [.ref a0, .int i1] (X8_crash a0 i1) := by
  refine con_ofT (lv := [(0, .ref a0), (1, .int i1)]) hl0 (by decide) (Nat.le_of_ble_eq_true rfl) rfl (fun p e R s m args below meth c h0 r h' C hF hO hr hm X => ?_)
  refine s_aload_n C 0 dX8_crash_0 rfl rfl ?_
  refine s_gI C ci11 8 (by decide) (Or.inl wd_2_96) dX8_crash_1 (fun x1 => ?_)
  refine s_if_ne (tgt := 17) C dX8_crash_4 (by decide) ?_ ?_
  · refine s_aload_n C 0 dX8_crash_17 rfl rfl ?_
    refine s_gR C ci11 4 (by decide) (Or.inl wd_2_92) dX8_crash_18 (fun y2 => ?_)
    refine s_invV_i C ci6 cy_X3_unsynced (Or.inl wd_2_180) rfl wd_2_181 wd_2_182 (con_X3_unsynced l G y2) rfl rfl (Nat.le_of_ble_eq_true rfl) (by rw [hF]; decide) (by rw [hO]; exact Nat.le_of_ble_eq_true rfl) dX8_crash_21 (fun x3 => ?_)
    refine s_istore_n (lv' := [(2, .int x3), (0, .ref a0), (1, .int i1)]) C dX8_crash_24 rfl (by decide) rfl ?_
    refine s_iload_n C 2 dX8_crash_25 rfl rfl ?_
    refine s_if_lt (tgt := 34) C dX8_crash_26 (by decide) ?_ ?_
    · refine s_sub [] rfl ?_
      exact X8_crash_b34_s C hF hO hr hm X   
    refine s_iload_n C 2 dX8_crash_29 rfl rfl ?_
    refine s_iload_n C 0 dX8_crash_30 rfl rfl ?_
    refine s_icmp_le (tgt := 44) C dX8_crash_31 (by decide) ?_ ?_
    · refine s_aload_n C 1 dX8_crash_44 rfl rfl ?_
      refine s_gR C ci11 4 (by decide) (Or.inl wd_2_92) dX8_crash_45 (fun y4 => ?_)
      refine s_iload_n C 0 dX8_crash_48 rfl rfl ?_
      refine s_iload_n C 2 dX8_crash_49 rfl rfl ?_
      refine s_isub C dX8_crash_50 ?_
      refine s_invV_u C ci6 cy_X3_loseLast (Or.inl wd_5_141) rfl wd_5_142 wd_5_143 (con_X3_loseLast l G y4 (x3 - i1)) rfl rfl (Nat.le_of_ble_eq_true rfl) (by rw [hF]; decide) (by rw [hO]; exact Nat.le_of_ble_eq_true rfl) dX8_crash_51 ?_
      refine s_aload_n C 1 dX8_crash_54 rfl rfl ?_
      refine s_gR C ci11 4 (by decide) (Or.inl wd_2_92) dX8_crash_55 (fun y5 => ?_)
      refine s_invV_u C ci6 cy_X3_settle (Or.inl wd_5_129) rfl wd_5_130 wd_5_131 (con_X3_settle l G y5) rfl rfl (Nat.le_of_ble_eq_true rfl) (by rw [hF]; decide) (by rw [hO]; exact Nat.le_of_ble_eq_true rfl) dX8_crash_58 ?_
      refine s_aload_n C 1 dX8_crash_61 rfl rfl ?_
      refine s_iconst (v := 0) C dX8_crash_62 (by decide) ?_
      refine s_pZ C ci11 8 (by decide) rfl rfl (Or.inl wd_2_96) dX8_crash_63 ?_
      refine s_aload_n C 1 dX8_crash_66 rfl rfl ?_
      refine s_invV_u C ci11 cy_X8_forget (Or.inl wd_2_68) rfl wd_2_70 wp_6 (con_X8_forget l G a0) rfl rfl (Nat.le_of_ble_eq_true rfl) (by rw [hF]; decide) (by rw [hO]; exact Nat.le_of_ble_eq_true rfl) dX8_crash_67 ?_
      refine s_iload_n C 0 dX8_crash_70 rfl rfl ?_
      refine s_iload_n C 2 dX8_crash_71 rfl rfl ?_
      refine s_isub C dX8_crash_72 ?_
      exact t_iret C hr dX8_crash_73
    refine s_sub [] rfl ?_
    exact X8_crash_b34_s C hF hO hr hm X   
  exact t_throw (k := 1) C X rfl wd_3_119 wd_1_22 (by decide +kernel) str_92 hat_94 dX8_crash_7 dX8_crash_10 dX8_crash_11 dX8_crash_13 dX8_crash_16 (by rw [hF]; decide) (by rw [hO]; exact Nat.le_of_ble_eq_true rfl)

theorem dX8_open_0 : decode cX8_open 0 = .ok (.aload_n 0, 1) := by decide +kernel
theorem dX8_open_1 : decode cX8_open 1 = .ok (.getfield 86, 3) := by decide +kernel
theorem dX8_open_4 : decode cX8_open 4 = .ok (.ifCond .eq 13, 3) := by decide +kernel
theorem dX8_open_7 : decode cX8_open 7 = .ok (.new 90, 3) := by decide +kernel
theorem dX8_open_10 : decode cX8_open 10 = .ok (.dup, 1) := by decide +kernel
theorem dX8_open_11 : decode cX8_open 11 = .ok (.ldc 190, 2) := by decide +kernel
theorem dX8_open_13 : decode cX8_open 13 = .ok (.invokespecial 94, 3) := by decide +kernel
theorem dX8_open_16 : decode cX8_open 16 = .ok (.athrow, 1) := by decide +kernel
theorem dX8_open_17 : decode cX8_open 17 = .ok (.aload_n 0, 1) := by decide +kernel
theorem dX8_open_18 : decode cX8_open 18 = .ok (.getfield 51, 3) := by decide +kernel
theorem dX8_open_21 : decode cX8_open 21 = .ok (.invokevirtual 192, 3) := by decide +kernel
theorem dX8_open_24 : decode cX8_open 24 = .ok (.aload_n 0, 1) := by decide +kernel
theorem dX8_open_25 : decode cX8_open 25 = .ok (.getfield 28, 3) := by decide +kernel
theorem dX8_open_28 : decode cX8_open 28 = .ok (.invokevirtual 193, 3) := by decide +kernel
theorem dX8_open_31 : decode cX8_open 31 = .ok (.aload_n 0, 1) := by decide +kernel
theorem dX8_open_32 : decode cX8_open 32 = .ok (.getfield 51, 3) := by decide +kernel
theorem dX8_open_35 : decode cX8_open 35 = .ok (.invokevirtual 196, 3) := by decide +kernel
theorem dX8_open_38 : decode cX8_open 38 = .ok (.aload_n 0, 1) := by decide +kernel
theorem dX8_open_39 : decode cX8_open 39 = .ok (.getfield 51, 3) := by decide +kernel
theorem dX8_open_42 : decode cX8_open 42 = .ok (.invokevirtual 199, 3) := by decide +kernel
theorem dX8_open_45 : decode cX8_open 45 = .ok (.aload_n 0, 1) := by decide +kernel
theorem dX8_open_46 : decode cX8_open 46 = .ok (.getfield 51, 3) := by decide +kernel
theorem dX8_open_49 : decode cX8_open 49 = .ok (.invokevirtual 202, 3) := by decide +kernel
theorem dX8_open_52 : decode cX8_open 52 = .ok (.aload_n 0, 1) := by decide +kernel
theorem dX8_open_53 : decode cX8_open 53 = .ok (.getfield 35, 3) := by decide +kernel
theorem dX8_open_56 : decode cX8_open 56 = .ok (.invokevirtual 205, 3) := by decide +kernel
theorem dX8_open_59 : decode cX8_open 59 = .ok (.aload_n 0, 1) := by decide +kernel
theorem dX8_open_60 : decode cX8_open 60 = .ok (.aload_n 0, 1) := by decide +kernel
theorem dX8_open_61 : decode cX8_open 61 = .ok (.getfield 51, 3) := by decide +kernel
theorem dX8_open_64 : decode cX8_open 64 = .ok (.getfield 208, 3) := by decide +kernel
theorem dX8_open_67 : decode cX8_open 67 = .ok (.iconst 1, 1) := by decide +kernel
theorem dX8_open_68 : decode cX8_open 68 = .ok (.iadd, 1) := by decide +kernel
theorem dX8_open_69 : decode cX8_open 69 = .ok (.putfield 107, 3) := by decide +kernel
theorem dX8_open_72 : decode cX8_open 72 = .ok (.aload_n 0, 1) := by decide +kernel
theorem dX8_open_73 : decode cX8_open 73 = .ok (.iconst 1, 1) := by decide +kernel
theorem dX8_open_74 : decode cX8_open 74 = .ok (.putfield 86, 3) := by decide +kernel
theorem dX8_open_77 : decode cX8_open 77 = .ok (.aload_n 0, 1) := by decide +kernel
theorem dX8_open_78 : decode cX8_open 78 = .ok (.getfield 35, 3) := by decide +kernel
theorem dX8_open_81 : decode cX8_open 81 = .ok (.invokevirtual 211, 3) := by decide +kernel
theorem dX8_open_84 : decode cX8_open 84 = .ok (.ireturn, 1) := by decide +kernel
def X8_open (a0 : Nat) : M (Nat ⊕ Int32) := bd (gI 11 8 a0) (fun x1 => it (x1 = 0) (bd (gR 11 7 a0) (fun y2 => bd (ck 9 y2) (fun _ => bd (X6_clear y2) (fun _ => bd (gR 11 4 a0) (fun y3 => bd (ck 6 y3) (fun _ => bd (X3_countNumbers y3) (fun _ => bd (gR 11 7 a0) (fun y4 => bd (ck 9 y4) (fun _ => bd (X6_obeyMarks y4) (fun _ => bd (gR 11 7 a0) (fun y5 => bd (ck 9 y5) (fun _ => bd (X6_dropLoneHints y5) (fun _ => bd (gR 11 7 a0) (fun y6 => bd (ck 9 y6) (fun _ => bd (X6_readFiles y6) (fun _ => bd (gR 11 5 a0) (fun y7 => bd (ck 5 y7) (fun _ => bd (X2_dropRemovals y7) (fun _ => bd (gR 11 7 a0) (fun y8 => bd (gI 9 6 y8) (fun x9 => bd (pV 11 10 a0 (.int (x9 + 1))) (fun _ => bd (pZ 11 8 a0 1) (fun _ => bd (gR 11 5 a0) (fun y10 => bd (ck 5 y10) (fun _ => bd (X2_count y10) (fun x11 => pu (.inr x11))))))))))))))))))))))))))) (th 1))
section
variable {G : Gx} {p : Program} {l : Launch} {e : Env} {R : Room} {s : State} {m : MethodId} {args : Array Value} {below : List Frame} {meth : Method} {c : Code} {h0 : Hp} {r : Nat ⊕ Int32} {h' : Hp}
end
set_option maxRecDepth 20000 in
theorem con_X8_open (l : Launch) (G : Gx) (hl0 : l.stackTraces = false) (a0 : Nat) : ConT G rvI l yX8_open cX8_open 1 (some .int) 12 349 [.ref a0] (X8_open a0) := by
  refine con_ofT (lv := [(0, .ref a0)]) hl0 (by decide) (Nat.le_of_ble_eq_true rfl) rfl (fun p e R s m args below meth c h0 r h' C hF hO hr hm X => ?_)
  refine s_aload_n C 0 dX8_open_0 rfl rfl ?_
  refine s_gI C ci11 8 (by decide) (Or.inl wd_2_96) dX8_open_1 (fun x1 => ?_)
  refine s_if_eq (tgt := 17) C dX8_open_4 (by decide) ?_ ?_
  · refine s_aload_n C 0 dX8_open_17 rfl rfl ?_
    refine s_gR C ci11 7 (by decide) (Or.inl wd_2_95) dX8_open_18 (fun y2 => ?_)
    refine s_invV_u C ci9 cy_X6_clear (Or.inl wd_2_60) rfl wd_2_61 wd_2_62 (con_X6_clear l G y2) rfl rfl (Nat.le_of_ble_eq_true rfl) (by rw [hF]; decide) (by rw [hO]; exact Nat.le_of_ble_eq_true rfl) dX8_open_21 ?_
    refine s_aload_n C 0 dX8_open_24 rfl rfl ?_
    refine s_gR C ci11 4 (by decide) (Or.inl wd_2_92) dX8_open_25 (fun y3 => ?_)
    refine s_invV_u C ci6 cy_X3_countNumbers (Or.inl wd_5_163) rfl wd_5_164 wd_5_165 (con_X3_countNumbers l G y3) rfl rfl (Nat.le_of_ble_eq_true rfl) (by rw [hF]; decide) (by rw [hO]; exact Nat.le_of_ble_eq_true rfl) dX8_open_28 ?_
    refine s_aload_n C 0 dX8_open_31 rfl rfl ?_
    refine s_gR C ci11 7 (by decide) (Or.inl wd_2_95) dX8_open_32 (fun y4 => ?_)
    refine s_invV_u C ci9 cy_X6_obeyMarks (Or.inl wd_5_167) rfl wd_5_168 wd_5_169 (con_X6_obeyMarks l G y4) rfl rfl (Nat.le_of_ble_eq_true rfl) (by rw [hF]; decide) (by rw [hO]; exact Nat.le_of_ble_eq_true rfl) dX8_open_35 ?_
    refine s_aload_n C 0 dX8_open_38 rfl rfl ?_
    refine s_gR C ci11 7 (by decide) (Or.inl wd_2_95) dX8_open_39 (fun y5 => ?_)
    refine s_invV_u C ci9 cy_X6_dropLoneHints (Or.inl wd_5_196) rfl wd_5_197 wd_5_198 (con_X6_dropLoneHints l G y5) rfl rfl (Nat.le_of_ble_eq_true rfl) (by rw [hF]; decide) (by rw [hO]; exact Nat.le_of_ble_eq_true rfl) dX8_open_42 ?_
    refine s_aload_n C 0 dX8_open_45 rfl rfl ?_
    refine s_gR C ci11 7 (by decide) (Or.inl wd_2_95) dX8_open_46 (fun y6 => ?_)
    refine s_invV_u C ci9 cy_X6_readFiles (Or.inl wd_5_202) rfl wd_5_203 wd_5_204 (con_X6_readFiles l G y6) rfl rfl (Nat.le_of_ble_eq_true rfl) (by rw [hF]; decide) (by rw [hO]; exact Nat.le_of_ble_eq_true rfl) dX8_open_49 ?_
    refine s_aload_n C 0 dX8_open_52 rfl rfl ?_
    refine s_gR C ci11 5 (by decide) (Or.inl wd_2_93) dX8_open_53 (fun y7 => ?_)
    refine s_invV_u C ci5 cy_X2_dropRemovals (Or.inl wd_5_236) rfl wd_5_237 wd_5_238 (con_X2_dropRemovals l G y7) rfl rfl (Nat.le_of_ble_eq_true rfl) (by rw [hF]; decide) (by rw [hO]; exact Nat.le_of_ble_eq_true rfl) dX8_open_56 ?_
    refine s_aload_n C 0 dX8_open_59 rfl rfl ?_
    refine s_aload_n C 0 dX8_open_60 rfl rfl ?_
    refine s_gR C ci11 7 (by decide) (Or.inl wd_2_95) dX8_open_61 (fun y8 => ?_)
    refine s_gI C ci9 6 (by decide) (Or.inr (Or.inr ⟨_, wd_1_188⟩)) dX8_open_64 (fun x9 => ?_)
    refine s_iconst (v := 1) C dX8_open_67 (by decide) ?_
    refine s_iadd C dX8_open_68 ?_
    refine s_pV C ci11 10 (by decide) rfl (Or.inl wd_2_98) dX8_open_69 rfl rfl ?_
    refine s_aload_n C 0 dX8_open_72 rfl rfl ?_
    refine s_iconst (v := 1) C dX8_open_73 (by decide) ?_
    refine s_pZ C ci11 8 (by decide) rfl rfl (Or.inl wd_2_96) dX8_open_74 ?_
    refine s_aload_n C 0 dX8_open_77 rfl rfl ?_
    refine s_gR C ci11 5 (by decide) (Or.inl wd_2_93) dX8_open_78 (fun y10 => ?_)
    refine s_invV_i C ci5 cy_X2_count (Or.inl wd_2_188) rfl wd_2_189 wd_2_190 (con_X2_count l G y10) rfl rfl (Nat.le_of_ble_eq_true rfl) (by rw [hF]; decide) (by rw [hO]; exact Nat.le_of_ble_eq_true rfl) dX8_open_81 (fun x11 => ?_)
    exact t_iret C hr dX8_open_84
  exact t_throw (k := 1) C X rfl wd_3_119 wd_1_22 (by decide +kernel) str_190 hat_94 dX8_open_7 dX8_open_10 dX8_open_11 dX8_open_13 dX8_open_16 (by rw [hF]; decide) (by rw [hO]; exact Nat.le_of_ble_eq_true rfl)

theorem dX8_mergeBegin_0 : decode cX8_mergeBegin 0 = .ok (.aload_n 0, 1) := by decide +kernel
theorem dX8_mergeBegin_1 : decode cX8_mergeBegin 1 = .ok (.getfield 86, 3) := by decide +kernel
theorem dX8_mergeBegin_4 : decode cX8_mergeBegin 4 = .ok (.ifCond .eq 13, 3) := by decide +kernel
theorem dX8_mergeBegin_7 : decode cX8_mergeBegin 7 = .ok (.aload_n 0, 1) := by decide +kernel
theorem dX8_mergeBegin_8 : decode cX8_mergeBegin 8 = .ok (.getfield 44, 3) := by decide +kernel
theorem dX8_mergeBegin_11 : decode cX8_mergeBegin 11 = .ok (.getfield 214, 3) := by decide +kernel
theorem dX8_mergeBegin_14 : decode cX8_mergeBegin 14 = .ok (.ifCond .eq 13, 3) := by decide +kernel
theorem dX8_mergeBegin_17 : decode cX8_mergeBegin 17 = .ok (.new 90, 3) := by decide +kernel
theorem dX8_mergeBegin_20 : decode cX8_mergeBegin 20 = .ok (.dup, 1) := by decide +kernel
theorem dX8_mergeBegin_21 : decode cX8_mergeBegin 21 = .ok (.ldc 217, 2) := by decide +kernel
theorem dX8_mergeBegin_23 : decode cX8_mergeBegin 23 = .ok (.invokespecial 94, 3) := by decide +kernel
theorem dX8_mergeBegin_26 : decode cX8_mergeBegin 26 = .ok (.athrow, 1) := by decide +kernel
theorem dX8_mergeBegin_27 : decode cX8_mergeBegin 27 = .ok (.aload_n 0, 1) := by decide +kernel
theorem dX8_mergeBegin_28 : decode cX8_mergeBegin 28 = .ok (.getfield 28, 3) := by decide +kernel
theorem dX8_mergeBegin_31 : decode cX8_mergeBegin 31 = .ok (.aload_n 0, 1) := by decide +kernel
theorem dX8_mergeBegin_32 : decode cX8_mergeBegin 32 = .ok (.getfield 28, 3) := by decide +kernel
theorem dX8_mergeBegin_35 : decode cX8_mergeBegin 35 = .ok (.getfield 219, 3) := by decide +kernel
theorem dX8_mergeBegin_38 : decode cX8_mergeBegin 38 = .ok (.invokevirtual 222, 3) := by decide +kernel
theorem dX8_mergeBegin_41 : decode cX8_mergeBegin 41 = .ok (.ifCond .ne 5, 3) := by decide +kernel
theorem dX8_mergeBegin_44 : decode cX8_mergeBegin 44 = .ok (.iconst 0, 1) := by decide +kernel
theorem dX8_mergeBegin_45 : decode cX8_mergeBegin 45 = .ok (.ireturn, 1) := by decide +kernel
theorem dX8_mergeBegin_46 : decode cX8_mergeBegin 46 = .ok (.aload_n 0, 1) := by decide +kernel
theorem dX8_mergeBegin_47 : decode cX8_mergeBegin 47 = .ok (.getfield 44, 3) := by decide +kernel
theorem dX8_mergeBegin_50 : decode cX8_mergeBegin 50 = .ok (.invokevirtual 225, 3) := by decide +kernel
theorem dX8_mergeBegin_53 : decode cX8_mergeBegin 53 = .ok (.istore_n 1, 1) := by decide +kernel
theorem dX8_mergeBegin_54 : decode cX8_mergeBegin 54 = .ok (.aload_n 0, 1) := by decide +kernel
theorem dX8_mergeBegin_55 : decode cX8_mergeBegin 55 = .ok (.getfield 28, 3) := by decide +kernel
theorem dX8_mergeBegin_58 : decode cX8_mergeBegin 58 = .ok (.invokevirtual 228, 3) := by decide +kernel
theorem dX8_mergeBegin_61 : decode cX8_mergeBegin 61 = .ok (.iload_n 1, 1) := by decide +kernel
theorem dX8_mergeBegin_62 : decode cX8_mergeBegin 62 = .ok (.if_icmp .ge 13, 3) := by decide +kernel
theorem dX8_mergeBegin_65 : decode cX8_mergeBegin 65 = .ok (.new 74, 3) := by decide +kernel
theorem dX8_mergeBegin_68 : decode cX8_mergeBegin 68 = .ok (.dup, 1) := by decide +kernel
theorem dX8_mergeBegin_69 : decode cX8_mergeBegin 69 = .ok (.ldc 231, 2) := by decide +kernel
theorem dX8_mergeBegin_71 : decode cX8_mergeBegin 71 = .ok (.invokespecial 78, 3) := by decide +kernel
theorem dX8_mergeBegin_74 : decode cX8_mergeBegin 74 = .ok (.athrow, 1) := by decide +kernel
theorem dX8_mergeBegin_75 : decode cX8_mergeBegin 75 = .ok (.aload_n 0, 1) := by decide +kernel
theorem dX8_mergeBegin_76 : decode cX8_mergeBegin 76 = .ok (.iconst (-1), 1) := by decide +kernel
theorem dX8_mergeBegin_77 : decode cX8_mergeBegin 77 = .ok (.putfield 118, 3) := by decide +kernel
theorem dX8_mergeBegin_80 : decode cX8_mergeBegin 80 = .ok (.aload_n 0, 1) := by decide +kernel
theorem dX8_mergeBegin_81 : decode cX8_mergeBegin 81 = .ok (.getfield 44, 3) := by decide +kernel
theorem dX8_mergeBegin_84 : decode cX8_mergeBegin 84 = .ok (.iload_n 1, 1) := by decide +kernel
theorem dX8_mergeBegin_85 : decode cX8_mergeBegin 85 = .ok (.invokevirtual 233, 3) := by decide +kernel
theorem dX8_mergeBegin_88 : decode cX8_mergeBegin 88 = .ok (.aload_n 0, 1) := by decide +kernel
theorem dX8_mergeBegin_89 : decode cX8_mergeBegin 89 = .ok (.getfield 44, 3) := by decide +kernel
theorem dX8_mergeBegin_92 : decode cX8_mergeBegin 92 = .ok (.invokevirtual 236, 3) := by decide +kernel
theorem dX8_mergeBegin_95 : decode cX8_mergeBegin 95 = .ok (.ireturn, 1) := by decide +kernel
def X8_mergeBegin_b17    : M (Nat ⊕ Int32) := th 1
def X8_mergeBegin (a0 : Nat) : M (Nat ⊕ Int32) := bd (gI 11 8 a0) (fun x1 => it (x1 = 0) (X8_mergeBegin_b17   ) (bd (gR 11 6 a0) (fun y2 => bd (gI 8 4 y2) (fun x3 => it (x3 = 0) (bd (gR 11 4 a0) (fun y4 => bd (gR 11 4 a0) (fun y5 => bd (gI 6 6 y5) (fun x6 => bd (ck 6 y4) (fun _ => bd (X3_countData y4 x6) (fun x7 => it (¬ x7 = 0) (bd (gR 11 6 a0) (fun y8 => bd (ck 8 y8) (fun _ => bd (X5_need y8) (fun x9 => bd (gR 11 4 a0) (fun y10 => bd (ck 6 y10) (fun _ => bd (X3_room y10) (fun x11 => it (x9 ≤ x11) (bd (pV 11 9 a0 (.int (-1))) (fun _ => bd (gR 11 6 a0) (fun y12 => bd (ck 8 y12) (fun _ => bd (X5_start y12 x9) (fun _ => bd (gR 11 6 a0) (fun y13 => bd (ck 8 y13) (fun _ => bd (X5_unitsLeft y13) (fun x14 => pu (.inr x14))))))))) (th 2)))))))) (pu (.inr 0)))))))) (X8_mergeBegin_b17   )))))
section
variable {G : Gx} {p : Program} {l : Launch} {e : Env} {R : Room} {s : State} {m : MethodId} {args : Array Value} {below : List Frame} {meth : Method} {c : Code} {h0 : Hp} {r : Nat ⊕ Int32} {h' : Hp}
set_option maxRecDepth 20000 in
theorem X8_mergeBegin_b17_s (C : Cx G p R s m args meth c cX8_mergeBegin 2 yX8_mergeBegin.cls h0 h') (hF : R.frames = 7) (hO : R.locals = 161) (hr : meth.sig.returnType = (some .int)) (hm : meth.name = yX8_mergeBegin.name) (X : CxT G l s c h0 [])    : Sm G (QT G rvI below args s h0 r h') p l e R s m args below meth c 2 h0 r h' 17 [] [] (X8_mergeBegin_b17   ) := by
  exact t_throw (k := 1) C X rfl wd_3_119 wd_1_22 (by decide +kernel) str_217 hat_94 dX8_mergeBegin_17 dX8_mergeBegin_20 dX8_mergeBegin_21 dX8_mergeBegin_23 dX8_mergeBegin_26 (by rw [hF]; decide) (by rw [hO]; exact Nat.le_of_ble_eq_true rfl)
end
set_option maxRecDepth 20000 in
theorem con_X8_mergeBegin (l : Launch) (G : Gx) (hl0 : l.stackTraces = false) (a0 : Nat) : ConT G rvI l yX8_mergeBegin cX8_mergeBegin 2 (some .int) 7 161 [.ref a0] (X8_mergeBegin a0) := by
  refine con_ofT (lv := [(0, .ref a0)]) hl0 (by decide) (Nat.le_of_ble_eq_true rfl) rfl (fun p e R s m args below meth c h0 r h' C hF hO hr hm X => ?_)
  refine s_aload_n C 0 dX8_mergeBegin_0 rfl rfl ?_
  refine s_gI C ci11 8 (by decide) (Or.inl wd_2_96) dX8_mergeBegin_1 (fun x1 => ?_)
  refine s_if_eq (tgt := 17) C dX8_mergeBegin_4 (by decide) ?_ ?_
  · refine s_sub [] rfl ?_
    exact X8_mergeBegin_b17_s C hF hO hr hm X   
  refine s_aload_n C 0 dX8_mergeBegin_7 rfl rfl ?_
  refine s_gR C ci11 6 (by decide) (Or.inl wd_2_94) dX8_mergeBegin_8 (fun y2 => ?_)
  refine s_gI C ci8 4 (by decide) (Or.inr (Or.inr ⟨_, wd_1_142⟩)) dX8_mergeBegin_11 (fun x3 => ?_)
  refine s_if_eq (tgt := 27) C dX8_mergeBegin_14 (by decide) ?_ ?_
  · refine s_aload_n C 0 dX8_mergeBegin_27 rfl rfl ?_
    refine s_gR C ci11 4 (by decide) (Or.inl wd_2_92) dX8_mergeBegin_28 (fun y4 => ?_)
    refine s_aload_n C 0 dX8_mergeBegin_31 rfl rfl ?_
    refine s_gR C ci11 4 (by decide) (Or.inl wd_2_92) dX8_mergeBegin_32 (fun y5 => ?_)
    refine s_gI C ci6 6 (by decide) (Or.inr (Or.inr ⟨_, wd_1_98⟩)) dX8_mergeBegin_35 (fun x6 => ?_)
    refine s_invV_i C ci6 cy_X3_countData (Or.inl wd_6_8) rfl wd_2_197 wd_2_198 (con_X3_countData l G y4 x6) rfl rfl (Nat.le_of_ble_eq_true rfl) (by rw [hF]; decide) (by rw [hO]; exact Nat.le_of_ble_eq_true rfl) dX8_mergeBegin_38 (fun x7 => ?_)
    refine s_if_ne (tgt := 46) C dX8_mergeBegin_41 (by decide) ?_ ?_
    · refine s_aload_n C 0 dX8_mergeBegin_46 rfl rfl ?_
      refine s_gR C ci11 6 (by decide) (Or.inl wd_2_94) dX8_mergeBegin_47 (fun y8 => ?_)
      refine s_invV_i C ci8 cy_X5_need (Or.inl wd_6_9) rfl wd_6_10 wd_6_11 (con_X5_need l G y8) rfl rfl (Nat.le_of_ble_eq_true rfl) (by rw [hF]; decide) (by rw [hO]; exact Nat.le_of_ble_eq_true rfl) dX8_mergeBegin_50 (fun x9 => ?_)
      refine s_istore_n (lv' := [(1, .int x9), (0, .ref a0)]) C dX8_mergeBegin_53 rfl (by decide) rfl ?_
      refine s_aload_n C 1 dX8_mergeBegin_54 rfl rfl ?_
      refine s_gR C ci11 4 (by decide) (Or.inl wd_2_92) dX8_mergeBegin_55 (fun y10 => ?_)
      refine s_invV_i C ci6 cy_X3_room (Or.inl wd_2_175) rfl wd_2_176 wd_2_177 (con_X3_room l G y10) rfl rfl (Nat.le_of_ble_eq_true rfl) (by rw [hF]; decide) (by rw [hO]; exact Nat.le_of_ble_eq_true rfl) dX8_mergeBegin_58 (fun x11 => ?_)
      refine s_iload_n C 0 dX8_mergeBegin_61 rfl rfl ?_
      refine s_icmp_ge (tgt := 75) C dX8_mergeBegin_62 (by decide) ?_ ?_
      · refine s_aload_n C 1 dX8_mergeBegin_75 rfl rfl ?_
        refine s_iconst (v := (-1)) C dX8_mergeBegin_76 (by decide) ?_
        refine s_pV C ci11 9 (by decide) rfl (Or.inl wd_2_97) dX8_mergeBegin_77 rfl rfl ?_
        refine s_aload_n C 1 dX8_mergeBegin_80 rfl rfl ?_
        refine s_gR C ci11 6 (by decide) (Or.inl wd_2_94) dX8_mergeBegin_81 (fun y12 => ?_)
        refine s_iload_n C 0 dX8_mergeBegin_84 rfl rfl ?_
        refine s_invV_u C ci8 cy_X5_start (Or.inl wd_6_31) rfl wd_6_32 wd_6_33 (con_X5_start l G y12 x9) rfl rfl (Nat.le_of_ble_eq_true rfl) (by rw [hF]; decide) (by rw [hO]; exact Nat.le_of_ble_eq_true rfl) dX8_mergeBegin_85 ?_
        refine s_aload_n C 1 dX8_mergeBegin_88 rfl rfl ?_
        refine s_gR C ci11 6 (by decide) (Or.inl wd_2_94) dX8_mergeBegin_89 (fun y13 => ?_)
        refine s_invV_i C ci8 cy_X5_unitsLeft (Or.inl wd_2_192) rfl wd_2_193 wd_2_194 (con_X5_unitsLeft l G y13) rfl rfl (Nat.le_of_ble_eq_true rfl) (by rw [hF]; decide) (by rw [hO]; exact Nat.le_of_ble_eq_true rfl) dX8_mergeBegin_92 (fun x14 => ?_)
        exact t_iret C hr dX8_mergeBegin_95
      exact t_throw (k := 2) C X rfl wd_3_67 wd_1_21 (by decide +kernel) str_231 hat_78 dX8_mergeBegin_65 dX8_mergeBegin_68 dX8_mergeBegin_69 dX8_mergeBegin_71 dX8_mergeBegin_74 (by rw [hF]; decide) (by rw [hO]; exact Nat.le_of_ble_eq_true rfl)
    refine s_iconst (v := 0) C dX8_mergeBegin_44 (by decide) ?_
    exact t_iret C hr dX8_mergeBegin_45
  refine s_sub [] rfl ?_
  exact X8_mergeBegin_b17_s C hF hO hr hm X   

theorem dX8_mergeStep_0 : decode cX8_mergeStep 0 = .ok (.aload_n 0, 1) := by decide +kernel
theorem dX8_mergeStep_1 : decode cX8_mergeStep 1 = .ok (.getfield 86, 3) := by decide +kernel
theorem dX8_mergeStep_4 : decode cX8_mergeStep 4 = .ok (.ifCond .eq 13, 3) := by decide +kernel
theorem dX8_mergeStep_7 : decode cX8_mergeStep 7 = .ok (.aload_n 0, 1) := by decide +kernel
theorem dX8_mergeStep_8 : decode cX8_mergeStep 8 = .ok (.getfield 44, 3) := by decide +kernel
theorem dX8_mergeStep_11 : decode cX8_mergeStep 11 = .ok (.getfield 214, 3) := by decide +kernel
theorem dX8_mergeStep_14 : decode cX8_mergeStep 14 = .ok (.ifCond .ne 13, 3) := by decide +kernel
theorem dX8_mergeStep_17 : decode cX8_mergeStep 17 = .ok (.new 90, 3) := by decide +kernel
theorem dX8_mergeStep_20 : decode cX8_mergeStep 20 = .ok (.dup, 1) := by decide +kernel
theorem dX8_mergeStep_21 : decode cX8_mergeStep 21 = .ok (.ldc 239, 2) := by decide +kernel
theorem dX8_mergeStep_23 : decode cX8_mergeStep 23 = .ok (.invokespecial 94, 3) := by decide +kernel
theorem dX8_mergeStep_26 : decode cX8_mergeStep 26 = .ok (.athrow, 1) := by decide +kernel
theorem dX8_mergeStep_27 : decode cX8_mergeStep 27 = .ok (.iload_n 1, 1) := by decide +kernel
theorem dX8_mergeStep_28 : decode cX8_mergeStep 28 = .ok (.iconst 1, 1) := by decide +kernel
theorem dX8_mergeStep_29 : decode cX8_mergeStep 29 = .ok (.if_icmp .ge 13, 3) := by decide +kernel
theorem dX8_mergeStep_32 : decode cX8_mergeStep 32 = .ok (.new 59, 3) := by decide +kernel
theorem dX8_mergeStep_35 : decode cX8_mergeStep 35 = .ok (.dup, 1) := by decide +kernel
theorem dX8_mergeStep_36 : decode cX8_mergeStep 36 = .ok (.ldc 241, 2) := by decide +kernel
theorem dX8_mergeStep_38 : decode cX8_mergeStep 38 = .ok (.invokespecial 63, 3) := by decide +kernel
theorem dX8_mergeStep_41 : decode cX8_mergeStep 41 = .ok (.athrow, 1) := by decide +kernel
theorem dX8_mergeStep_42 : decode cX8_mergeStep 42 = .ok (.iload_n 1, 1) := by decide +kernel
theorem dX8_mergeStep_43 : decode cX8_mergeStep 43 = .ok (.aload_n 0, 1) := by decide +kernel
theorem dX8_mergeStep_44 : decode cX8_mergeStep 44 = .ok (.getfield 44, 3) := by decide +kernel
theorem dX8_mergeStep_47 : decode cX8_mergeStep 47 = .ok (.invokevirtual 236, 3) := by decide +kernel
theorem dX8_mergeStep_50 : decode cX8_mergeStep 50 = .ok (.invokestatic 243, 3) := by decide +kernel
theorem dX8_mergeStep_53 : decode cX8_mergeStep 53 = .ok (.istore_n 2, 1) := by decide +kernel
theorem dX8_mergeStep_54 : decode cX8_mergeStep 54 = .ok (.iconst 0, 1) := by decide +kernel
theorem dX8_mergeStep_55 : decode cX8_mergeStep 55 = .ok (.istore_n 3, 1) := by decide +kernel
theorem dX8_mergeStep_56 : decode cX8_mergeStep 56 = .ok (.iload_n 3, 1) := by decide +kernel
theorem dX8_mergeStep_57 : decode cX8_mergeStep 57 = .ok (.iload_n 2, 1) := by decide +kernel
theorem dX8_mergeStep_58 : decode cX8_mergeStep 58 = .ok (.if_icmp .ge 16, 3) := by decide +kernel
theorem dX8_mergeStep_61 : decode cX8_mergeStep 61 = .ok (.aload_n 0, 1) := by decide +kernel
theorem dX8_mergeStep_62 : decode cX8_mergeStep 62 = .ok (.getfield 44, 3) := by decide +kernel
theorem dX8_mergeStep_65 : decode cX8_mergeStep 65 = .ok (.invokevirtual 248, 3) := by decide +kernel
theorem dX8_mergeStep_68 : decode cX8_mergeStep 68 = .ok (.iinc 3 1, 3) := by decide +kernel
theorem dX8_mergeStep_71 : decode cX8_mergeStep 71 = .ok (.goto (-15), 3) := by decide +kernel
theorem dX8_mergeStep_74 : decode cX8_mergeStep 74 = .ok (.aload_n 0, 1) := by decide +kernel
theorem dX8_mergeStep_75 : decode cX8_mergeStep 75 = .ok (.getfield 44, 3) := by decide +kernel
theorem dX8_mergeStep_78 : decode cX8_mergeStep 78 = .ok (.invokevirtual 236, 3) := by decide +kernel
theorem dX8_mergeStep_81 : decode cX8_mergeStep 81 = .ok (.ireturn, 1) := by decide +kernel
def X8_mergeStep_b17    : M (Nat ⊕ Int32) := th 1
def X8_mergeStep_b56b  (k56 : Nat → Int32 → Int32 → M (Nat ⊕ Int32)) (a0 : Nat) (i2 : Int32) (i3 : Int32) : M (Nat ⊕ Int32) := it (i2 ≤ i3) (bd (gR 11 6 a0) (fun y1 => bd (ck 8 y1) (fun _ => bd (X5_unitsLeft y1) (fun x2 => pu (.inr x2))))) (bd (gR 11 6 a0) (fun y3 => bd (ck 8 y3) (fun _ => bd (X5_doUnit y3) (fun _ => k56 a0 i2 (i3 + 1)))))
def X8_mergeStep_b56  : Nat → Nat → Int32 → Int32 → M (Nat ⊕ Int32)
  | 0 => fun _ _ _ => fl
  | n + 1 => fun a0 i2 i3 => X8_mergeStep_b56b  (X8_mergeStep_b56  n) a0 i2 i3
def X8_mergeStep (a0 : Nat) (i1 : Int32) : M (Nat ⊕ Int32) := bd (gI 11 8 a0) (fun x1 => it (x1 = 0) (X8_mergeStep_b17   ) (bd (gR 11 6 a0) (fun y2 => bd (gI 8 4 y2) (fun x3 => it (¬ x3 = 0) (it (1 ≤ i1) (bd (gR 11 6 a0) (fun y4 => bd (ck 8 y4) (fun _ => bd (X5_unitsLeft y4) (fun x5 => bd (pu (imn i1 x5)) (fun x6 => X8_mergeStep_b56  FU a0 x6 0))))) (th 0)) (X8_mergeStep_b17   )))))
section
variable {G : Gx} {p : Program} {l : Launch} {e : Env} {R : Room} {s : State} {m : MethodId} {args : Array Value} {below : List Frame} {meth : Method} {c : Code} {h0 : Hp} {r : Nat ⊕ Int32} {h' : Hp}
set_option maxRecDepth 20000 in
theorem X8_mergeStep_b17_s (C : Cx G p R s m args meth c cX8_mergeStep 4 yX8_mergeStep.cls h0 h') (hF : R.frames = 12) (hO : R.locals = 347) (hr : meth.sig.returnType = (some .int)) (hm : meth.name = yX8_mergeStep.name) (X : CxT G l s c h0 [])    : Sm G (QT G rvI below args s h0 r h') p l e R s m args below meth c 4 h0 r h' 17 [] [] (X8_mergeStep_b17   ) := by
  exact t_throw (k := 1) C X rfl wd_3_119 wd_1_22 (by decide +kernel) str_239 hat_94 dX8_mergeStep_17 dX8_mergeStep_20 dX8_mergeStep_21 dX8_mergeStep_23 dX8_mergeStep_26 (by rw [hF]; decide) (by rw [hO]; exact Nat.le_of_ble_eq_true rfl)
set_option maxRecDepth 20000 in
theorem X8_mergeStep_b56b_s (C : Cx G p R s m args meth c cX8_mergeStep 4 yX8_mergeStep.cls h0 h') (hF : R.frames = 12) (hO : R.locals = 347) (hr : meth.sig.returnType = (some .int)) (hm : meth.name = yX8_mergeStep.name) (X : CxT G l s c h0 [])  {k56 : Nat → Int32 → Int32 → M (Nat ⊕ Int32)} (hk56 : ∀ (a0 : Nat) (i2 : Int32) (i3 : Int32), Sm G (QT G rvI below args s h0 r h') p l e R s m args below meth c 4 h0 r h' 56 [(0, .ref a0), (2, .int i2), (3, .int i3)] [] (k56 a0 i2 i3)) (a0 : Nat) (i2 : Int32) (i3 : Int32) : Sm G (QT G rvI below args s h0 r h') p l e R s m args below meth c 4 h0 r h' 56 [(0, .ref a0), (2, .int i2), (3, .int i3)] [] (X8_mergeStep_b56b  k56 a0 i2 i3) := by
  refine s_iload_n C 2 dX8_mergeStep_56 rfl rfl ?_
  refine s_iload_n C 1 dX8_mergeStep_57 rfl rfl ?_
  refine s_icmp_ge (tgt := 74) C dX8_mergeStep_58 (by decide) ?_ ?_
  · refine s_aload_n C 0 dX8_mergeStep_74 rfl rfl ?_
    refine s_gR C ci11 6 (by decide) (Or.inl wd_2_94) dX8_mergeStep_75 (fun y1 => ?_)
    refine s_invV_i C ci8 cy_X5_unitsLeft (Or.inl wd_2_192) rfl wd_2_193 wd_2_194 (con_X5_unitsLeft l G y1) rfl rfl (Nat.le_of_ble_eq_true rfl) (by rw [hF]; decide) (by rw [hO]; exact Nat.le_of_ble_eq_true rfl) dX8_mergeStep_78 (fun x2 => ?_)
    exact t_iret C hr dX8_mergeStep_81
  refine s_aload_n C 0 dX8_mergeStep_61 rfl rfl ?_
  refine s_gR C ci11 6 (by decide) (Or.inl wd_2_94) dX8_mergeStep_62 (fun y3 => ?_)
  refine s_invV_u C ci8 cy_X5_doUnit (Or.inl wd_6_45) rfl wd_6_46 wd_6_47 (con_X5_doUnit l G y3) rfl rfl (Nat.le_of_ble_eq_true rfl) (by rw [hF]; decide) (by rw [hO]; exact Nat.le_of_ble_eq_true rfl) dX8_mergeStep_65 ?_
  refine s_iincK (lv' := [(3, .int (i3 + 1)), (0, .ref a0), (2, .int i2)]) (w := 1) C 2 dX8_mergeStep_68 rfl (by decide) (by decide) rfl ?_
  refine s_goto (tgt := 56) C dX8_mergeStep_71 (by decide) ?_
  refine s_sub [1, 2, 0] rfl ?_
  exact hk56 a0 i2 (i3 + 1)
set_option maxRecDepth 20000 in
theorem X8_mergeStep_b56_s (C : Cx G p R s m args meth c cX8_mergeStep 4 yX8_mergeStep.cls h0 h') (hF : R.frames = 12) (hO : R.locals = 347) (hr : meth.sig.returnType = (some .int)) (hm : meth.name = yX8_mergeStep.name) (X : CxT G l s c h0 [])  (n : Nat) : ∀ (a0 : Nat) (i2 : Int32) (i3 : Int32), Sm G (QT G rvI below args s h0 r h') p l e R s m args below meth c 4 h0 r h' 56 [(0, .ref a0), (2, .int i2), (3, .int i3)] [] (X8_mergeStep_b56  n a0 i2 i3) := by
  induction n with
  | zero => intro a0 i2 i3; exact s_fl
  | succ n ih => intro a0 i2 i3; exact X8_mergeStep_b56b_s C hF hO hr hm X  ih a0 i2 i3
end
set_option maxRecDepth 20000 in
theorem con_X8_mergeStep (l : Launch) (G : Gx) (hl0 : l.stackTraces = false) (a0 : Nat) (i1 : Int32) : ConT G rvI l yX8_mergeStep cX8_mergeStep 4 (some .int) 12 347 [.ref a0, .int i1] (X8_mergeStep a0 i1) := by
  refine con_ofT (lv := [(0, .ref a0), (1, .int i1)]) hl0 (by decide) (Nat.le_of_ble_eq_true rfl) rfl (fun p e R s m args below meth c h0 r h' C hF hO hr hm X => ?_)
  refine s_aload_n C 0 dX8_mergeStep_0 rfl rfl ?_
  refine s_gI C ci11 8 (by decide) (Or.inl wd_2_96) dX8_mergeStep_1 (fun x1 => ?_)
  refine s_if_eq (tgt := 17) C dX8_mergeStep_4 (by decide) ?_ ?_
  · refine s_sub [] rfl ?_
    exact X8_mergeStep_b17_s C hF hO hr hm X   
  refine s_aload_n C 0 dX8_mergeStep_7 rfl rfl ?_
  refine s_gR C ci11 6 (by decide) (Or.inl wd_2_94) dX8_mergeStep_8 (fun y2 => ?_)
  refine s_gI C ci8 4 (by decide) (Or.inr (Or.inr ⟨_, wd_1_142⟩)) dX8_mergeStep_11 (fun x3 => ?_)
  refine s_if_ne (tgt := 27) C dX8_mergeStep_14 (by decide) ?_ ?_
  · refine s_iload_n C 1 dX8_mergeStep_27 rfl rfl ?_
    refine s_iconst (v := 1) C dX8_mergeStep_28 (by decide) ?_
    refine s_icmp_ge (tgt := 42) C dX8_mergeStep_29 (by decide) ?_ ?_
    · refine s_iload_n C 1 dX8_mergeStep_42 rfl rfl ?_
      refine s_aload_n C 0 dX8_mergeStep_43 rfl rfl ?_
      refine s_gR C ci11 6 (by decide) (Or.inl wd_2_94) dX8_mergeStep_44 (fun y4 => ?_)
      refine s_invV_i C ci8 cy_X5_unitsLeft (Or.inl wd_2_192) rfl wd_2_193 wd_2_194 (con_X5_unitsLeft l G y4) rfl rfl (Nat.le_of_ble_eq_true rfl) (by rw [hF]; decide) (by rw [hO]; exact Nat.le_of_ble_eq_true rfl) dX8_mergeStep_47 (fun x5 => ?_)
      refine s_mmin C wd_6_44 wd_2_55 wd_1_14 wd_2_56 (by rw [hF]; decide) (by rw [hO]; exact Nat.le_of_ble_eq_true rfl) dX8_mergeStep_50 ?_
      refine s_let (fun x6 => ?_)
      refine s_istore_n (lv' := [(2, .int x6), (0, .ref a0), (1, .int i1)]) C dX8_mergeStep_53 rfl (by decide) rfl ?_
      refine s_iconst (v := 0) C dX8_mergeStep_54 (by decide) ?_
      refine s_istore_n (lv' := [(3, .int 0), (2, .int x6), (0, .ref a0), (1, .int i1)]) C dX8_mergeStep_55 rfl (by decide) rfl ?_
      refine s_sub [2, 1, 0] rfl ?_
      exact X8_mergeStep_b56_s C hF hO hr hm X  FU a0 x6 0
    exact t_throw (k := 0) C X rfl wd_2_229 wd_1_20 (by decide +kernel) str_241 hat_63 dX8_mergeStep_32 dX8_mergeStep_35 dX8_mergeStep_36 dX8_mergeStep_38 dX8_mergeStep_41 (by rw [hF]; decide) (by rw [hO]; exact Nat.le_of_ble_eq_true rfl)
  refine s_sub [] rfl ?_
  exact X8_mergeStep_b17_s C hF hO hr hm X   

theorem dX8_patch_0 : decode cX8_patch 0 = .ok (.aload_n 0, 1) := by decide +kernel
theorem dX8_patch_1 : decode cX8_patch 1 = .ok (.getfield 86, 3) := by decide +kernel
theorem dX8_patch_4 : decode cX8_patch 4 = .ok (.ifCond .eq 13, 3) := by decide +kernel
theorem dX8_patch_7 : decode cX8_patch 7 = .ok (.new 90, 3) := by decide +kernel
theorem dX8_patch_10 : decode cX8_patch 10 = .ok (.dup, 1) := by decide +kernel
theorem dX8_patch_11 : decode cX8_patch 11 = .ok (.ldc 190, 2) := by decide +kernel
theorem dX8_patch_13 : decode cX8_patch 13 = .ok (.invokespecial 94, 3) := by decide +kernel
theorem dX8_patch_16 : decode cX8_patch 16 = .ok (.athrow, 1) := by decide +kernel
theorem dX8_patch_17 : decode cX8_patch 17 = .ok (.aload_n 0, 1) := by decide +kernel
theorem dX8_patch_18 : decode cX8_patch 18 = .ok (.getfield 28, 3) := by decide +kernel
theorem dX8_patch_21 : decode cX8_patch 21 = .ok (.iload_n 1, 1) := by decide +kernel
theorem dX8_patch_22 : decode cX8_patch 22 = .ok (.invokevirtual 251, 3) := by decide +kernel
theorem dX8_patch_25 : decode cX8_patch 25 = .ok (.astore 4, 2) := by decide +kernel
theorem dX8_patch_27 : decode cX8_patch 27 = .ok (.aload 4, 2) := by decide +kernel
theorem dX8_patch_29 : decode cX8_patch 29 = .ok (.ifnull 19, 3) := by decide +kernel
theorem dX8_patch_32 : decode cX8_patch 32 = .ok (.iload_n 2, 1) := by decide +kernel
theorem dX8_patch_33 : decode cX8_patch 33 = .ok (.ifCond .lt 15, 3) := by decide +kernel
theorem dX8_patch_36 : decode cX8_patch 36 = .ok (.iload_n 2, 1) := by decide +kernel
theorem dX8_patch_37 : decode cX8_patch 37 = .ok (.aload 4, 2) := by decide +kernel
theorem dX8_patch_39 : decode cX8_patch 39 = .ok (.getfield 150, 3) := by decide +kernel
theorem dX8_patch_42 : decode cX8_patch 42 = .ok (.invokevirtual 70, 3) := by decide +kernel
theorem dX8_patch_45 : decode cX8_patch 45 = .ok (.if_icmp .lt 14, 3) := by decide +kernel
theorem dX8_patch_48 : decode cX8_patch 48 = .ok (.new 254, 3) := by decide +kernel
theorem dX8_patch_51 : decode cX8_patch 51 = .ok (.dup, 1) := by decide +kernel
theorem dX8_patch_52 : decode cX8_patch 52 = .ok (.ldc_w 256, 3) := by decide +kernel
theorem dX8_patch_55 : decode cX8_patch 55 = .ok (.invokespecial 258, 3) := by decide +kernel
theorem dX8_patch_58 : decode cX8_patch 58 = .ok (.athrow, 1) := by decide +kernel
theorem dX8_patch_59 : decode cX8_patch 59 = .ok (.aload 4, 2) := by decide +kernel
theorem dX8_patch_61 : decode cX8_patch 61 = .ok (.getfield 150, 3) := by decide +kernel
theorem dX8_patch_64 : decode cX8_patch 64 = .ok (.iload_n 2, 1) := by decide +kernel
theorem dX8_patch_65 : decode cX8_patch 65 = .ok (.invokevirtual 172, 3) := by decide +kernel
theorem dX8_patch_68 : decode cX8_patch 68 = .ok (.istore 5, 2) := by decide +kernel
theorem dX8_patch_70 : decode cX8_patch 70 = .ok (.aload 4, 2) := by decide +kernel
theorem dX8_patch_72 : decode cX8_patch 72 = .ok (.getfield 150, 3) := by decide +kernel
theorem dX8_patch_75 : decode cX8_patch 75 = .ok (.iload_n 2, 1) := by decide +kernel
theorem dX8_patch_76 : decode cX8_patch 76 = .ok (.iload_n 3, 1) := by decide +kernel
theorem dX8_patch_77 : decode cX8_patch 77 = .ok (.invokevirtual 259, 3) := by decide +kernel
theorem dX8_patch_80 : decode cX8_patch 80 = .ok (.iload 5, 2) := by decide +kernel
theorem dX8_patch_82 : decode cX8_patch 82 = .ok (.ireturn, 1) := by decide +kernel
def X8_patch_b48    : M (Nat ⊕ Int32) := th 3
def X8_patch (a0 : Nat) (i1 : Int32) (i2 : Int32) (i3 : Int32) : M (Nat ⊕ Int32) := bd (gI 11 8 a0) (fun x1 => it (x1 = 0) (bd (gR 11 4 a0) (fun y2 => bd (ck 6 y2) (fun _ => bd (X3_at y2 i1) (fun z3 => co z3 (X8_patch_b48   ) (fun y4 => it (i2 < 0) (X8_patch_b48   ) (bd (gR 7 0 y4) (fun y5 => bd (ck 4 y5) (fun _ => bd (X1_size y5) (fun x6 => it (i2 < x6) (bd (gR 7 0 y4) (fun y7 => bd (ck 4 y7) (fun _ => bd (X1_at y7 i2) (fun x8 => bd (gR 7 0 y4) (fun y9 => bd (ck 4 y9) (fun _ => bd (X1_change y9 i2 i3) (fun _ => pu (.inr x8)))))))) (X8_patch_b48   )))))))))) (th 1))
section
variable {G : Gx} {p : Program} {l : Launch} {e : Env} {R : Room} {s : State} {m : MethodId} {args : Array Value} {below : List Frame} {meth : Method} {c : Code} {h0 : Hp} {r : Nat ⊕ Int32} {h' : Hp}
set_option maxRecDepth 20000 in
theorem X8_patch_b48_s (C : Cx G p R s m args meth c cX8_patch 6 yX8_patch.cls h0 h') (hF : R.frames = 6) (hO : R.locals = 100) (hr : meth.sig.returnType = (some .int)) (hm : meth.name = yX8_patch.name) (X : CxT G l s c h0 [])    : Sm G (QT G rvI below args s h0 r h') p l e R s m args below meth c 6 h0 r h' 48 [] [] (X8_patch_b48   ) := by
  exact t_throwW (k := 3) C X rfl wd_6_94 wd_1_24 (by decide +kernel) str_256 hat_258 dX8_patch_48 dX8_patch_51 dX8_patch_52 dX8_patch_55 dX8_patch_58 (by rw [hF]; decide) (by rw [hO]; exact Nat.le_of_ble_eq_true rfl)
end
set_option maxRecDepth 20000 in
theorem con_X8_patch (l : Launch) (G : Gx) (hl0 : l.stackTraces = false) (a0 : Nat) (i1 : Int32) (i2 : Int32) (i3 : Int32) : ConT G rvI l yX8_patch cX8_patch 6 (some .int) 6 100 [.ref a0, .int i1, .int i2, .int i3] (X8_patch a0 i1 i2 i3) := by
  refine con_ofT (lv := [(0, .ref a0), (1, .int i1), (2, .int i2), (3, .int i3)]) hl0 (by decide) (Nat.le_of_ble_eq_true rfl) rfl (fun p e R s m args below meth c h0 r h' C hF hO hr hm X => ?_)
  refine s_aload_n C 0 dX8_patch_0 rfl rfl ?_
  refine s_gI C ci11 8 (by decide) (Or.inl wd_2_96) dX8_patch_1 (fun x1 => ?_)
  refine s_if_eq (tgt := 17) C dX8_patch_4 (by decide) ?_ ?_
  · refine s_aload_n C 0 dX8_patch_17 rfl rfl ?_
    refine s_gR C ci11 4 (by decide) (Or.inl wd_2_92) dX8_patch_18 (fun y2 => ?_)
    refine s_iload_n C 1 dX8_patch_21 rfl rfl ?_
    refine s_invV_o C ci6 cy_X3_at (Or.inl wd_2_134) rfl wd_2_135 wd_2_136 (con_X3_at l G y2 i1) rfl rfl (Nat.le_of_ble_eq_true rfl) (by rw [hF]; decide) (by rw [hO]; exact Nat.le_of_ble_eq_true rfl) dX8_patch_22 (fun z3 => ?_)
    refine s_ostore (lv' := [(4, va_rf z3), (0, .ref a0), (1, .int i1), (2, .int i2), (3, .int i3)]) C dX8_patch_25 (by decide) rfl ?_
    refine s_oload C 0 dX8_patch_27 rfl ?_
    refine s_ifnull (tgt := 48) C dX8_patch_29 (by decide) (fun hq => ?_) (fun y4 hq => ?_)
    · subst hq
      refine s_sub [] rfl ?_
      exact X8_patch_b48_s C hF hO hr hm X   
    subst hq
    refine s_iload_n C 3 dX8_patch_32 rfl rfl ?_
    refine s_if_lt (tgt := 48) C dX8_patch_33 (by decide) ?_ ?_
    · refine s_sub [] rfl ?_
      exact X8_patch_b48_s C hF hO hr hm X   
    refine s_iload_n C 3 dX8_patch_36 rfl rfl ?_
    refine s_aload C 0 dX8_patch_37 rfl ?_
    refine s_gR C ci7 0 (by decide) (Or.inr (Or.inr ⟨_, wd_3_215⟩)) dX8_patch_39 (fun y5 => ?_)
    refine s_invV_i C ci4 cy_X1_size (Or.inl wd_2_146) rfl wd_2_147 wd_2_148 (con_X1_size l G y5) rfl rfl (Nat.le_of_ble_eq_true rfl) (by rw [hF]; decide) (by rw [hO]; exact Nat.le_of_ble_eq_true rfl) dX8_patch_42 (fun x6 => ?_)
    refine s_icmp_lt (tgt := 59) C dX8_patch_45 (by decide) ?_ ?_
    · refine s_aload C 0 dX8_patch_59 rfl ?_
      refine s_gR C ci7 0 (by decide) (Or.inr (Or.inr ⟨_, wd_3_215⟩)) dX8_patch_61 (fun y7 => ?_)
      refine s_iload_n C 3 dX8_patch_64 rfl rfl ?_
      refine s_invV_i C ci4 cy_X1_at (Or.inl wd_2_126) rfl wd_2_127 wd_2_128 (con_X1_at l G y7 i2) rfl rfl (Nat.le_of_ble_eq_true rfl) (by rw [hF]; decide) (by rw [hO]; exact Nat.le_of_ble_eq_true rfl) dX8_patch_65 (fun x8 => ?_)
      refine s_istore (lv' := [(5, .int x8), (4, .ref y4), (0, .ref a0), (1, .int i1), (2, .int i2), (3, .int i3)]) C dX8_patch_68 (by decide) rfl ?_
      refine s_aload C 1 dX8_patch_70 rfl ?_
      refine s_gR C ci7 0 (by decide) (Or.inr (Or.inr ⟨_, wd_3_215⟩)) dX8_patch_72 (fun y9 => ?_)
      refine s_iload_n C 4 dX8_patch_75 rfl rfl ?_
      refine s_iload_n C 5 dX8_patch_76 rfl rfl ?_
      refine s_invV_u C ci4 cy_X1_change (Or.inl wd_6_97) rfl wd_3_168 wd_3_169 (con_X1_change l G y9 i2 i3) rfl rfl (Nat.le_of_ble_eq_true rfl) (by rw [hF]; decide) (by rw [hO]; exact Nat.le_of_ble_eq_true rfl) dX8_patch_77 ?_
      refine s_iload C 0 dX8_patch_80 rfl ?_
      exact t_iret C hr dX8_patch_82
    refine s_sub [] rfl ?_
    exact X8_patch_b48_s C hF hO hr hm X   
  exact t_throw (k := 1) C X rfl wd_3_119 wd_1_22 (by decide +kernel) str_190 hat_94 dX8_patch_7 dX8_patch_10 dX8_patch_11 dX8_patch_13 dX8_patch_16 (by rw [hF]; decide) (by rw [hO]; exact Nat.le_of_ble_eq_true rfl)

theorem dX8_bad_0 : decode cX8_bad 0 = .ok (.aload_n 0, 1) := by decide +kernel
theorem dX8_bad_1 : decode cX8_bad 1 = .ok (.getfield 86, 3) := by decide +kernel
theorem dX8_bad_4 : decode cX8_bad 4 = .ok (.ifCond .ne 13, 3) := by decide +kernel
theorem dX8_bad_7 : decode cX8_bad 7 = .ok (.new 90, 3) := by decide +kernel
theorem dX8_bad_10 : decode cX8_bad 10 = .ok (.dup, 1) := by decide +kernel
theorem dX8_bad_11 : decode cX8_bad 11 = .ok (.ldc 92, 2) := by decide +kernel
theorem dX8_bad_13 : decode cX8_bad 13 = .ok (.invokespecial 94, 3) := by decide +kernel
theorem dX8_bad_16 : decode cX8_bad 16 = .ok (.athrow, 1) := by decide +kernel
theorem dX8_bad_17 : decode cX8_bad 17 = .ok (.iconst 0, 1) := by decide +kernel
theorem dX8_bad_18 : decode cX8_bad 18 = .ok (.istore_n 1, 1) := by decide +kernel
theorem dX8_bad_19 : decode cX8_bad 19 = .ok (.iconst 0, 1) := by decide +kernel
theorem dX8_bad_20 : decode cX8_bad 20 = .ok (.istore_n 2, 1) := by decide +kernel
theorem dX8_bad_21 : decode cX8_bad 21 = .ok (.iload_n 2, 1) := by decide +kernel
theorem dX8_bad_22 : decode cX8_bad 22 = .ok (.aload_n 0, 1) := by decide +kernel
theorem dX8_bad_23 : decode cX8_bad 23 = .ok (.getfield 35, 3) := by decide +kernel
theorem dX8_bad_26 : decode cX8_bad 26 = .ok (.invokevirtual 211, 3) := by decide +kernel
theorem dX8_bad_29 : decode cX8_bad 29 = .ok (.if_icmp .ge 64, 3) := by decide +kernel
theorem dX8_bad_32 : decode cX8_bad 32 = .ok (.aload_n 0, 1) := by decide +kernel
theorem dX8_bad_33 : decode cX8_bad 33 = .ok (.getfield 35, 3) := by decide +kernel
theorem dX8_bad_36 : decode cX8_bad 36 = .ok (.iload_n 2, 1) := by decide +kernel
theorem dX8_bad_37 : decode cX8_bad 37 = .ok (.invokevirtual 139, 3) := by decide +kernel
theorem dX8_bad_40 : decode cX8_bad 40 = .ok (.astore_n 3, 1) := by decide +kernel
theorem dX8_bad_41 : decode cX8_bad 41 = .ok (.aload_n 3, 1) := by decide +kernel
theorem dX8_bad_42 : decode cX8_bad 42 = .ok (.ifnonnull 7, 3) := by decide +kernel
theorem dX8_bad_45 : decode cX8_bad 45 = .ok (.aconst_null, 1) := by decide +kernel
theorem dX8_bad_46 : decode cX8_bad 46 = .ok (.goto 15, 3) := by decide +kernel
theorem dX8_bad_49 : decode cX8_bad 49 = .ok (.aload_n 0, 1) := by decide +kernel
theorem dX8_bad_50 : decode cX8_bad 50 = .ok (.getfield 28, 3) := by decide +kernel
theorem dX8_bad_53 : decode cX8_bad 53 = .ok (.aload_n 3, 1) := by decide +kernel
theorem dX8_bad_54 : decode cX8_bad 54 = .ok (.getfield 143, 3) := by decide +kernel
theorem dX8_bad_57 : decode cX8_bad 57 = .ok (.iconst 0, 1) := by decide +kernel
theorem dX8_bad_58 : decode cX8_bad 58 = .ok (.invokevirtual 146, 3) := by decide +kernel
theorem dX8_bad_61 : decode cX8_bad 61 = .ok (.astore 4, 2) := by decide +kernel
theorem dX8_bad_63 : decode cX8_bad 63 = .ok (.aload_n 3, 1) := by decide +kernel
theorem dX8_bad_64 : decode cX8_bad 64 = .ok (.ifnull 20, 3) := by decide +kernel
theorem dX8_bad_67 : decode cX8_bad 67 = .ok (.aload 4, 2) := by decide +kernel
theorem dX8_bad_69 : decode cX8_bad 69 = .ok (.ifnull 15, 3) := by decide +kernel
theorem dX8_bad_72 : decode cX8_bad 72 = .ok (.aload_n 3, 1) := by decide +kernel
theorem dX8_bad_73 : decode cX8_bad 73 = .ok (.aload 4, 2) := by decide +kernel
theorem dX8_bad_75 : decode cX8_bad 75 = .ok (.getfield 150, 3) := by decide +kernel
theorem dX8_bad_78 : decode cX8_bad 78 = .ok (.invokestatic 155, 3) := by decide +kernel
theorem dX8_bad_81 : decode cX8_bad 81 = .ok (.ifCond .eq 6, 3) := by decide +kernel
theorem dX8_bad_84 : decode cX8_bad 84 = .ok (.iinc 1 1, 3) := by decide +kernel
theorem dX8_bad_87 : decode cX8_bad 87 = .ok (.iinc 2 1, 3) := by decide +kernel
theorem dX8_bad_90 : decode cX8_bad 90 = .ok (.goto (-69), 3) := by decide +kernel
theorem dX8_bad_93 : decode cX8_bad 93 = .ok (.iload_n 1, 1) := by decide +kernel
theorem dX8_bad_94 : decode cX8_bad 94 = .ok (.ireturn, 1) := by decide +kernel
def X8_bad_b87 (k21 : Nat → Int32 → Int32 → M (Nat ⊕ Int32))  (a0 : Nat) (i1 : Int32) (i2 : Int32) : M (Nat ⊕ Int32) := k21 a0 i1 (i2 + 1)
def X8_bad_b84 (k21 : Nat → Int32 → Int32 → M (Nat ⊕ Int32))  (a0 : Nat) (i1 : Int32) (i2 : Int32) : M (Nat ⊕ Int32) := X8_bad_b87 k21  a0 (i1 + 1) i2
def X8_bad_b61 (k21 : Nat → Int32 → Int32 → M (Nat ⊕ Int32))  (a0 : Nat) (i1 : Int32) (i2 : Int32) (o3 : Option Nat) (s0 : Option Nat) : M (Nat ⊕ Int32) := co o3 (X8_bad_b84 k21  a0 i1 i2) (fun y1 => co s0 (X8_bad_b84 k21  a0 i1 i2) (fun y2 => bd (gR 7 0 y2) (fun y3 => bd (X8_isBad y1 y3) (fun x4 => it (x4 = 0) (X8_bad_b87 k21  a0 i1 i2) (X8_bad_b84 k21  a0 i1 i2)))))
def X8_bad_b21b  (k21 : Nat → Int32 → Int32 → M (Nat ⊕ Int32)) (a0 : Nat) (i1 : Int32) (i2 : Int32) : M (Nat ⊕ Int32) := bd (gR 11 5 a0) (fun y1 => bd (ck 5 y1) (fun _ => bd (X2_count y1) (fun x2 => it (x2 ≤ i2) (pu (.inr i1)) (bd (gR 11 5 a0) (fun y3 => bd (ck 5 y3) (fun _ => bd (X2_row y3 i2) (fun z4 => co z4 (X8_bad_b61 k21  a0 i1 i2 none none) (fun y5 => bd (gR 11 4 a0) (fun y6 => bd (gI 10 1 y5) (fun x7 => bd (ck 6 y6) (fun _ => bd (X3_find y6 x7 0) (fun z8 => X8_bad_b61 k21  a0 i1 i2 (some y5) z8))))))))))))
def X8_bad_b21  : Nat → Nat → Int32 → Int32 → M (Nat ⊕ Int32)
  | 0 => fun _ _ _ => fl
  | n + 1 => fun a0 i1 i2 => X8_bad_b21b  (X8_bad_b21  n) a0 i1 i2
def X8_bad (a0 : Nat) : M (Nat ⊕ Int32) := bd (gI 11 8 a0) (fun x1 => it (¬ x1 = 0) (X8_bad_b21  FU a0 0 0) (th 1))
section
variable {G : Gx} {p : Program} {l : Launch} {e : Env} {R : Room} {s : State} {m : MethodId} {args : Array Value} {below : List Frame} {meth : Method} {c : Code} {h0 : Hp} {r : Nat ⊕ Int32} {h' : Hp}
set_option maxRecDepth 20000 in
theorem X8_bad_b87_s (C : Cx G p R s m args meth c cX8_bad 5 yX8_bad.cls h0 h') (hF : R.frames = 6) (hO : R.locals = 111) (hr : meth.sig.returnType = (some .int)) (hm : meth.name = yX8_bad.name) (X : CxT G l s c h0 []) {k21 : Nat → Int32 → Int32 → M (Nat ⊕ Int32)} (hk21 : ∀ (a0 : Nat) (i1 : Int32) (i2 : Int32), Sm G (QT G rvI below args s h0 r h') p l e R s m args below meth c 5 h0 r h' 21 [(0, .ref a0), (1, .int i1), (2, .int i2)] [] (k21 a0 i1 i2))  (a0 : Nat) (i1 : Int32) (i2 : Int32) : Sm G (QT G rvI below args s h0 r h') p l e R s m args below meth c 5 h0 r h' 87 [(0, .ref a0), (1, .int i1), (2, .int i2)] [] (X8_bad_b87 k21  a0 i1 i2) := by
  refine s_iincK (lv' := [(2, .int (i2 + 1)), (0, .ref a0), (1, .int i1)]) (w := 1) C 2 dX8_bad_87 rfl (by decide) (by decide) rfl ?_
  refine s_goto (tgt := 21) C dX8_bad_90 (by decide) ?_
  refine s_sub [1, 2, 0] rfl ?_
  exact hk21 a0 i1 (i2 + 1)
set_option maxRecDepth 20000 in
theorem X8_bad_b84_s (C : Cx G p R s m args meth c cX8_bad 5 yX8_bad.cls h0 h') (hF : R.frames = 6) (hO : R.locals = 111) (hr : meth.sig.returnType = (some .int)) (hm : meth.name = yX8_bad.name) (X : CxT G l s c h0 []) {k21 : Nat → Int32 → Int32 → M (Nat ⊕ Int32)} (hk21 : ∀ (a0 : Nat) (i1 : Int32) (i2 : Int32), Sm G (QT G rvI below args s h0 r h') p l e R s m args below meth c 5 h0 r h' 21 [(0, .ref a0), (1, .int i1), (2, .int i2)] [] (k21 a0 i1 i2))  (a0 : Nat) (i1 : Int32) (i2 : Int32) : Sm G (QT G rvI below args s h0 r h') p l e R s m args below meth c 5 h0 r h' 84 [(0, .ref a0), (1, .int i1), (2, .int i2)] [] (X8_bad_b84 k21  a0 i1 i2) := by
  refine s_iincK (lv' := [(1, .int (i1 + 1)), (0, .ref a0), (2, .int i2)]) (w := 1) C 1 dX8_bad_84 rfl (by decide) (by decide) rfl ?_
  refine s_sub [1, 0, 2] rfl ?_
  exact X8_bad_b87_s C hF hO hr hm X hk21  a0 (i1 + 1) i2
set_option maxRecDepth 20000 in
theorem X8_bad_b61_s (C : Cx G p R s m args meth c cX8_bad 5 yX8_bad.cls h0 h') (hF : R.frames = 6) (hO : R.locals = 111) (hr : meth.sig.returnType = (some .int)) (hm : meth.name = yX8_bad.name) (X : CxT G l s c h0 []) {k21 : Nat → Int32 → Int32 → M (Nat ⊕ Int32)} (hk21 : ∀ (a0 : Nat) (i1 : Int32) (i2 : Int32), Sm G (QT G rvI below args s h0 r h') p l e R s m args below meth c 5 h0 r h' 21 [(0, .ref a0), (1, .int i1), (2, .int i2)] [] (k21 a0 i1 i2))  (a0 : Nat) (i1 : Int32) (i2 : Int32) (o3 : Option Nat) (s0 : Option Nat) : Sm G (QT G rvI below args s h0 r h') p l e R s m args below meth c 5 h0 r h' 61 [(0, .ref a0), (1, .int i1), (2, .int i2), (3, va_rf o3)] [va_rf s0] (X8_bad_b61 k21  a0 i1 i2 o3 s0) := by
  refine s_ostore (lv' := [(4, va_rf s0), (0, .ref a0), (1, .int i1), (2, .int i2), (3, va_rf o3)]) C dX8_bad_61 (by decide) (by cases o3 <;> rfl) ?_
  refine s_oload_n C 4 dX8_bad_63 rfl rfl ?_
  refine s_ifnull (tgt := 84) C dX8_bad_64 (by decide) (fun hq => ?_) (fun y1 hq => ?_)
  · subst hq
    refine s_sub [1, 2, 3] rfl ?_
    exact X8_bad_b84_s C hF hO hr hm X hk21  a0 i1 i2
  subst hq
  refine s_oload C 0 dX8_bad_67 rfl ?_
  refine s_ifnull (tgt := 84) C dX8_bad_69 (by decide) (fun hq => ?_) (fun y2 hq => ?_)
  · subst hq
    refine s_sub [1, 2, 3] rfl ?_
    exact X8_bad_b84_s C hF hO hr hm X hk21  a0 i1 i2
  subst hq
  refine s_aload_n C 4 dX8_bad_72 rfl rfl ?_
  refine s_aload C 0 dX8_bad_73 rfl ?_
  refine s_gR C ci7 0 (by decide) (Or.inr (Or.inr ⟨_, wd_3_215⟩)) dX8_bad_75 (fun y3 => ?_)
  refine s_invS_i C cy_X8_isBad (Or.inl wd_5_108) wd_5_109 (con_X8_isBad l G y1 y3) rfl rfl (Nat.le_of_ble_eq_true rfl) (by rw [hF]; decide) (by rw [hO]; exact Nat.le_of_ble_eq_true rfl) dX8_bad_78 (fun x4 => ?_)
  refine s_if_eq (tgt := 87) C dX8_bad_81 (by decide) ?_ ?_
  · refine s_sub [1, 2, 3] rfl ?_
    exact X8_bad_b87_s C hF hO hr hm X hk21  a0 i1 i2
  refine s_sub [1, 2, 3] rfl ?_
  exact X8_bad_b84_s C hF hO hr hm X hk21  a0 i1 i2
set_option maxRecDepth 20000 in
theorem X8_bad_b21b_s (C : Cx G p R s m args meth c cX8_bad 5 yX8_bad.cls h0 h') (hF : R.frames = 6) (hO : R.locals = 111) (hr : meth.sig.returnType = (some .int)) (hm : meth.name = yX8_bad.name) (X : CxT G l s c h0 [])  {k21 : Nat → Int32 → Int32 → M (Nat ⊕ Int32)} (hk21 : ∀ (a0 : Nat) (i1 : Int32) (i2 : Int32), Sm G (QT G rvI below args s h0 r h') p l e R s m args below meth c 5 h0 r h' 21 [(0, .ref a0), (1, .int i1), (2, .int i2)] [] (k21 a0 i1 i2)) (a0 : Nat) (i1 : Int32) (i2 : Int32) : Sm G (QT G rvI below args s h0 r h') p l e R s m args below meth c 5 h0 r h' 21 [(0, .ref a0), (1, .int i1), (2, .int i2)] [] (X8_bad_b21b  k21 a0 i1 i2) := by
  refine s_iload_n C 2 dX8_bad_21 rfl rfl ?_
  refine s_aload_n C 0 dX8_bad_22 rfl rfl ?_
  refine s_gR C ci11 5 (by decide) (Or.inl wd_2_93) dX8_bad_23 (fun y1 => ?_)
  refine s_invV_i C ci5 cy_X2_count (Or.inl wd_2_188) rfl wd_2_189 wd_2_190 (con_X2_count l G y1) rfl rfl (Nat.le_of_ble_eq_true rfl) (by rw [hF]; decide) (by rw [hO]; exact Nat.le_of_ble_eq_true rfl) dX8_bad_26 (fun x2 => ?_)
  refine s_icmp_ge (tgt := 93) C dX8_bad_29 (by decide) ?_ ?_
  · refine s_iload_n C 1 dX8_bad_93 rfl rfl ?_
    exact t_iret C hr dX8_bad_94
  refine s_aload_n C 0 dX8_bad_32 rfl rfl ?_
  refine s_gR C ci11 5 (by decide) (Or.inl wd_2_93) dX8_bad_33 (fun y3 => ?_)
  refine s_iload_n C 2 dX8_bad_36 rfl rfl ?_
  refine s_invV_o C ci5 cy_X2_row (Or.inl wd_2_158) rfl wd_2_159 wd_2_160 (con_X2_row l G y3 i2) rfl rfl (Nat.le_of_ble_eq_true rfl) (by rw [hF]; decide) (by rw [hO]; exact Nat.le_of_ble_eq_true rfl) dX8_bad_37 (fun z4 => ?_)
  refine s_ostore_n (lv' := [(3, va_rf z4), (0, .ref a0), (1, .int i1), (2, .int i2)]) C dX8_bad_40 rfl (by decide) rfl ?_
  refine s_oload_n C 0 dX8_bad_41 rfl rfl ?_
  refine s_ifnonnull (tgt := 49) C dX8_bad_42 (by decide) (fun hq => ?_) (fun y5 hq => ?_)
  · subst hq
    refine s_nullO C dX8_bad_45 ?_
    refine s_goto (tgt := 61) C dX8_bad_46 (by decide) ?_
    refine s_sub [1, 2, 3, 0] rfl ?_
    exact X8_bad_b61_s C hF hO hr hm X hk21  a0 i1 i2 none none
  subst hq
  refine s_aload_n C 1 dX8_bad_49 rfl rfl ?_
  refine s_gR C ci11 4 (by decide) (Or.inl wd_2_92) dX8_bad_50 (fun y6 => ?_)
  refine s_aload_n C 0 dX8_bad_53 rfl rfl ?_
  refine s_gI C ci10 1 (by decide) (Or.inr (Or.inr ⟨_, wd_5_57⟩)) dX8_bad_54 (fun x7 => ?_)
  refine s_iconst (v := 0) C dX8_bad_57 (by decide) ?_
  refine s_invV_o C ci6 cy_X3_find (Or.inl wd_5_107) rfl wd_3_176 wd_3_177 (con_X3_find l G y6 x7 0) rfl rfl (Nat.le_of_ble_eq_true rfl) (by rw [hF]; decide) (by rw [hO]; exact Nat.le_of_ble_eq_true rfl) dX8_bad_58 (fun z8 => ?_)
  refine s_sub [1, 2, 3, 0] rfl ?_
  exact X8_bad_b61_s C hF hO hr hm X hk21  a0 i1 i2 (some y5) z8
set_option maxRecDepth 20000 in
theorem X8_bad_b21_s (C : Cx G p R s m args meth c cX8_bad 5 yX8_bad.cls h0 h') (hF : R.frames = 6) (hO : R.locals = 111) (hr : meth.sig.returnType = (some .int)) (hm : meth.name = yX8_bad.name) (X : CxT G l s c h0 [])  (n : Nat) : ∀ (a0 : Nat) (i1 : Int32) (i2 : Int32), Sm G (QT G rvI below args s h0 r h') p l e R s m args below meth c 5 h0 r h' 21 [(0, .ref a0), (1, .int i1), (2, .int i2)] [] (X8_bad_b21  n a0 i1 i2) := by
  induction n with
  | zero => intro a0 i1 i2; exact s_fl
  | succ n ih => intro a0 i1 i2; exact X8_bad_b21b_s C hF hO hr hm X  ih a0 i1 i2
end
set_option maxRecDepth 20000 in
theorem con_X8_bad (l : Launch) (G : Gx) (hl0 : l.stackTraces = false) (a0 : Nat) : ConT G rvI l yX8_bad cX8_bad 5 (some .int) 6 111 [.ref a0] (X8_bad a0) := by
  refine con_ofT (lv := [(0, .ref a0)]) hl0 (by decide) (Nat.le_of_ble_eq_true rfl) rfl (fun p e R s m args below meth c h0 r h' C hF hO hr hm X => ?_)
  refine s_aload_n C 0 dX8_bad_0 rfl rfl ?_
  refine s_gI C ci11 8 (by decide) (Or.inl wd_2_96) dX8_bad_1 (fun x1 => ?_)
  refine s_if_ne (tgt := 17) C dX8_bad_4 (by decide) ?_ ?_
  · refine s_iconst (v := 0) C dX8_bad_17 (by decide) ?_
    refine s_istore_n (lv' := [(1, .int 0), (0, .ref a0)]) C dX8_bad_18 rfl (by decide) rfl ?_
    refine s_iconst (v := 0) C dX8_bad_19 (by decide) ?_
    refine s_istore_n (lv' := [(2, .int 0), (1, .int 0), (0, .ref a0)]) C dX8_bad_20 rfl (by decide) rfl ?_
    refine s_sub [2, 1, 0] rfl ?_
    exact X8_bad_b21_s C hF hO hr hm X  FU a0 0 0
  exact t_throw (k := 1) C X rfl wd_3_119 wd_1_22 (by decide +kernel) str_92 hat_94 dX8_bad_7 dX8_bad_10 dX8_bad_11 dX8_bad_13 dX8_bad_16 (by rw [hF]; decide) (by rw [hO]; exact Nat.le_of_ble_eq_true rfl)
