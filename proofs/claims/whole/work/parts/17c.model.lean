theorem dX9_loneHints_0 : decode cX9_loneHints 0 = .ok (.iconst 0, 1) := by decide +kernel
theorem dX9_loneHints_1 : decode cX9_loneHints 1 = .ok (.istore_n 1, 1) := by decide +kernel
theorem dX9_loneHints_2 : decode cX9_loneHints 2 = .ok (.iload_n 1, 1) := by decide +kernel
theorem dX9_loneHints_3 : decode cX9_loneHints 3 = .ok (.aload_n 0, 1) := by decide +kernel
theorem dX9_loneHints_4 : decode cX9_loneHints 4 = .ok (.getfield 106, 3) := by decide +kernel
theorem dX9_loneHints_7 : decode cX9_loneHints 7 = .ok (.if_icmp .ge 57, 3) := by decide +kernel
theorem dX9_loneHints_10 : decode cX9_loneHints 10 = .ok (.aload_n 0, 1) := by decide +kernel
theorem dX9_loneHints_11 : decode cX9_loneHints 11 = .ok (.getfield 17, 3) := by decide +kernel
theorem dX9_loneHints_14 : decode cX9_loneHints 14 = .ok (.iload_n 1, 1) := by decide +kernel
theorem dX9_loneHints_15 : decode cX9_loneHints 15 = .ok (.iaload, 1) := by decide +kernel
theorem dX9_loneHints_16 : decode cX9_loneHints 16 = .ok (.iconst 1, 1) := by decide +kernel
theorem dX9_loneHints_17 : decode cX9_loneHints 17 = .ok (.if_icmp .ne 21, 3) := by decide +kernel
theorem dX9_loneHints_20 : decode cX9_loneHints 20 = .ok (.aload_n 0, 1) := by decide +kernel
theorem dX9_loneHints_21 : decode cX9_loneHints 21 = .ok (.aload_n 0, 1) := by decide +kernel
theorem dX9_loneHints_22 : decode cX9_loneHints 22 = .ok (.getfield 13, 3) := by decide +kernel
theorem dX9_loneHints_25 : decode cX9_loneHints 25 = .ok (.iload_n 1, 1) := by decide +kernel
theorem dX9_loneHints_26 : decode cX9_loneHints 26 = .ok (.iaload, 1) := by decide +kernel
theorem dX9_loneHints_27 : decode cX9_loneHints 27 = .ok (.iconst 0, 1) := by decide +kernel
theorem dX9_loneHints_28 : decode cX9_loneHints 28 = .ok (.invokevirtual 149, 3) := by decide +kernel
theorem dX9_loneHints_31 : decode cX9_loneHints 31 = .ok (.ifCond .ge 7, 3) := by decide +kernel
theorem dX9_loneHints_34 : decode cX9_loneHints 34 = .ok (.iconst 1, 1) := by decide +kernel
theorem dX9_loneHints_35 : decode cX9_loneHints 35 = .ok (.goto 4, 3) := by decide +kernel
theorem dX9_loneHints_38 : decode cX9_loneHints 38 = .ok (.iconst 0, 1) := by decide +kernel
theorem dX9_loneHints_39 : decode cX9_loneHints 39 = .ok (.istore_n 2, 1) := by decide +kernel
theorem dX9_loneHints_40 : decode cX9_loneHints 40 = .ok (.iload_n 2, 1) := by decide +kernel
theorem dX9_loneHints_41 : decode cX9_loneHints 41 = .ok (.ifCond .eq 17, 3) := by decide +kernel
theorem dX9_loneHints_44 : decode cX9_loneHints 44 = .ok (.aload_n 0, 1) := by decide +kernel
theorem dX9_loneHints_45 : decode cX9_loneHints 45 = .ok (.aload_n 0, 1) := by decide +kernel
theorem dX9_loneHints_46 : decode cX9_loneHints 46 = .ok (.getfield 13, 3) := by decide +kernel
theorem dX9_loneHints_49 : decode cX9_loneHints 49 = .ok (.iload_n 1, 1) := by decide +kernel
theorem dX9_loneHints_50 : decode cX9_loneHints 50 = .ok (.iaload, 1) := by decide +kernel
theorem dX9_loneHints_51 : decode cX9_loneHints 51 = .ok (.iconst 1, 1) := by decide +kernel
theorem dX9_loneHints_52 : decode cX9_loneHints 52 = .ok (.invokevirtual 260, 3) := by decide +kernel
theorem dX9_loneHints_55 : decode cX9_loneHints 55 = .ok (.goto 6, 3) := by decide +kernel
theorem dX9_loneHints_58 : decode cX9_loneHints 58 = .ok (.iinc 1 1, 3) := by decide +kernel
theorem dX9_loneHints_61 : decode cX9_loneHints 61 = .ok (.goto (-59), 3) := by decide +kernel
theorem dX9_loneHints_64 : decode cX9_loneHints 64 = .ok (.return_, 1) := by decide +kernel
def X9_loneHints_b61 (k2 : Nat → Int32 → M Unit)  (a0 : Nat) (i1 : Int32) : M Unit := k2 a0 i1
def X9_loneHints_b39 (k2 : Nat → Int32 → M Unit)  (a0 : Nat) (i1 : Int32) (s0 : Int32) : M Unit := it (s0 = 0) (X9_loneHints_b61 k2  a0 (i1 + 1)) (bd (gR 12 5 a0) (fun y1 => bd (al 22 y1 i1) (fun x2 => bd (ck 12 a0) (fun _ => bd (X9_removes a0 x2 1) (fun _ => X9_loneHints_b61 k2  a0 i1)))))
def X9_loneHints_b38 (k2 : Nat → Int32 → M Unit)  (a0 : Nat) (i1 : Int32) : M Unit := X9_loneHints_b39 k2  a0 i1 0
def X9_loneHints_b2b  (k2 : Nat → Int32 → M Unit) (a0 : Nat) (i1 : Int32) : M Unit := bd (gI 12 8 a0) (fun x1 => it (x1 ≤ i1) (pu ()) (bd (gR 12 6 a0) (fun y2 => bd (al 22 y2 i1) (fun x3 => it (¬ x3 = 1) (X9_loneHints_b38 k2  a0 i1) (bd (gR 12 5 a0) (fun y4 => bd (al 22 y4 i1) (fun x5 => bd (ck 12 a0) (fun _ => bd (X9_fileAt a0 x5 0) (fun x6 => it (0 ≤ x6) (X9_loneHints_b38 k2  a0 i1) (X9_loneHints_b39 k2  a0 i1 1))))))))))
def X9_loneHints_b2  : Nat → Nat → Int32 → M Unit
  | 0 => fun _ _ => fl
  | n + 1 => fun a0 i1 => X9_loneHints_b2b  (X9_loneHints_b2  n) a0 i1
def X9_loneHints (a0 : Nat) : M Unit := X9_loneHints_b2  FU a0 0
section
variable {G : Gx} {p : Program} {l : Launch} {e : Env} {R : Room} {s : State} {m : MethodId} {args : Array Value} {below : List Frame} {meth : Method} {c : Code} {h0 : Hp} {r : Unit} {h' : Hp}
set_option maxRecDepth 20000 in
theorem X9_loneHints_b61_s (C : Cx G p R s m args meth c cX9_loneHints 3 yX9_loneHints.cls h0 h') (hF : R.frames = 3) (hO : R.locals = 72) (hr : meth.sig.returnType = none) (hm : meth.name = yX9_loneHints.name) {k2 : Nat → Int32 → M Unit} (hk2 : ∀ (a0 : Nat) (i1 : Int32), Sm G (QM G rvU below args s h0 r h') p l e R s m args below meth c 3 h0 r h' 2 [(0, .ref a0), (1, .int i1)] [] (k2 a0 i1))  (a0 : Nat) (i1 : Int32) : Sm G (QM G rvU below args s h0 r h') p l e R s m args below meth c 3 h0 r h' 61 [(0, .ref a0), (1, .int i1)] [] (X9_loneHints_b61 k2  a0 i1) := by
  refine s_goto (tgt := 2) C dX9_loneHints_61 (by decide) ?_
  exact hk2 a0 i1
set_option maxRecDepth 20000 in
theorem X9_loneHints_b39_s (C : Cx G p R s m args meth c cX9_loneHints 3 yX9_loneHints.cls h0 h') (hF : R.frames = 3) (hO : R.locals = 72) (hr : meth.sig.returnType = none) (hm : meth.name = yX9_loneHints.name) {k2 : Nat → Int32 → M Unit} (hk2 : ∀ (a0 : Nat) (i1 : Int32), Sm G (QM G rvU below args s h0 r h') p l e R s m args below meth c 3 h0 r h' 2 [(0, .ref a0), (1, .int i1)] [] (k2 a0 i1))  (a0 : Nat) (i1 : Int32) (s0 : Int32) : Sm G (QM G rvU below args s h0 r h') p l e R s m args below meth c 3 h0 r h' 39 [(0, .ref a0), (1, .int i1)] [.int s0] (X9_loneHints_b39 k2  a0 i1 s0) := by
  refine s_istore_n (lv' := [(2, .int s0), (0, .ref a0), (1, .int i1)]) C dX9_loneHints_39 rfl (by decide) rfl ?_
  refine s_iload_n C 0 dX9_loneHints_40 rfl rfl ?_
  refine s_if_eq (tgt := 58) C dX9_loneHints_41 (by decide) ?_ ?_
  · refine s_iincK (lv' := [(1, .int (i1 + 1)), (2, .int s0), (0, .ref a0)]) (w := 1) C 2 dX9_loneHints_58 rfl (by decide) (by decide) rfl ?_
    refine s_sub [2, 0] rfl ?_
    exact X9_loneHints_b61_s C hF hO hr hm hk2  a0 (i1 + 1)
  refine s_aload_n C 1 dX9_loneHints_44 rfl rfl ?_
  refine s_aload_n C 1 dX9_loneHints_45 rfl rfl ?_
  refine s_gR C ci12 5 (by decide) (Or.inl wd_6_120) dX9_loneHints_46 (fun y1 => ?_)
  refine s_iload_n C 2 dX9_loneHints_49 rfl rfl ?_
  refine s_al22 C dX9_loneHints_50 (fun x2 => ?_)
  refine s_iconst (v := 1) C dX9_loneHints_51 (by decide) ?_
  refine s_invV_u C ci12 cy_X9_removes (Or.inl wd_7_184) rfl wd_7_186 wp_52 (con_X9_removes l G a0 x2 1) rfl rfl (Nat.le_of_ble_eq_true rfl) (by rw [hF]; decide) (by rw [hO]; exact Nat.le_of_ble_eq_true rfl) dX9_loneHints_52 ?_
  refine s_goto (tgt := 61) C dX9_loneHints_55 (by decide) ?_
  refine s_sub [1, 2] rfl ?_
  exact X9_loneHints_b61_s C hF hO hr hm hk2  a0 i1
set_option maxRecDepth 20000 in
theorem X9_loneHints_b38_s (C : Cx G p R s m args meth c cX9_loneHints 3 yX9_loneHints.cls h0 h') (hF : R.frames = 3) (hO : R.locals = 72) (hr : meth.sig.returnType = none) (hm : meth.name = yX9_loneHints.name) {k2 : Nat → Int32 → M Unit} (hk2 : ∀ (a0 : Nat) (i1 : Int32), Sm G (QM G rvU below args s h0 r h') p l e R s m args below meth c 3 h0 r h' 2 [(0, .ref a0), (1, .int i1)] [] (k2 a0 i1))  (a0 : Nat) (i1 : Int32) : Sm G (QM G rvU below args s h0 r h') p l e R s m args below meth c 3 h0 r h' 38 [(0, .ref a0), (1, .int i1)] [] (X9_loneHints_b38 k2  a0 i1) := by
  refine s_iconst (v := 0) C dX9_loneHints_38 (by decide) ?_
  exact X9_loneHints_b39_s C hF hO hr hm hk2  a0 i1 0
set_option maxRecDepth 20000 in
theorem X9_loneHints_b2b_s (C : Cx G p R s m args meth c cX9_loneHints 3 yX9_loneHints.cls h0 h') (hF : R.frames = 3) (hO : R.locals = 72) (hr : meth.sig.returnType = none) (hm : meth.name = yX9_loneHints.name)  {k2 : Nat → Int32 → M Unit} (hk2 : ∀ (a0 : Nat) (i1 : Int32), Sm G (QM G rvU below args s h0 r h') p l e R s m args below meth c 3 h0 r h' 2 [(0, .ref a0), (1, .int i1)] [] (k2 a0 i1)) (a0 : Nat) (i1 : Int32) : Sm G (QM G rvU below args s h0 r h') p l e R s m args below meth c 3 h0 r h' 2 [(0, .ref a0), (1, .int i1)] [] (X9_loneHints_b2b  k2 a0 i1) := by
  refine s_iload_n C 1 dX9_loneHints_2 rfl rfl ?_
  refine s_aload_n C 0 dX9_loneHints_3 rfl rfl ?_
  refine s_gI C ci12 8 (by decide) (Or.inl wd_6_123) dX9_loneHints_4 (fun x1 => ?_)
  refine s_icmp_ge (tgt := 64) C dX9_loneHints_7 (by decide) ?_ ?_
  · exact s_vret C hr rfl dX9_loneHints_64
  refine s_aload_n C 0 dX9_loneHints_10 rfl rfl ?_
  refine s_gR C ci12 6 (by decide) (Or.inl wd_6_121) dX9_loneHints_11 (fun y2 => ?_)
  refine s_iload_n C 1 dX9_loneHints_14 rfl rfl ?_
  refine s_al22 C dX9_loneHints_15 (fun x3 => ?_)
  refine s_iconst (v := 1) C dX9_loneHints_16 (by decide) ?_
  refine s_icmp_ne (tgt := 38) C dX9_loneHints_17 (by decide) ?_ ?_
  · exact X9_loneHints_b38_s C hF hO hr hm hk2  a0 i1
  refine s_aload_n C 0 dX9_loneHints_20 rfl rfl ?_
  refine s_aload_n C 0 dX9_loneHints_21 rfl rfl ?_
  refine s_gR C ci12 5 (by decide) (Or.inl wd_6_120) dX9_loneHints_22 (fun y4 => ?_)
  refine s_iload_n C 1 dX9_loneHints_25 rfl rfl ?_
  refine s_al22 C dX9_loneHints_26 (fun x5 => ?_)
  refine s_iconst (v := 0) C dX9_loneHints_27 (by decide) ?_
  refine s_invV_i C ci12 cy_X9_fileAt (Or.inl wd_7_80) rfl wd_7_82 wp_36 (con_X9_fileAt l G a0 x5 0) rfl rfl (Nat.le_of_ble_eq_true rfl) (by rw [hF]; decide) (by rw [hO]; exact Nat.le_of_ble_eq_true rfl) dX9_loneHints_28 (fun x6 => ?_)
  refine s_if_ge (tgt := 38) C dX9_loneHints_31 (by decide) ?_ ?_
  · exact X9_loneHints_b38_s C hF hO hr hm hk2  a0 i1
  refine s_iconst (v := 1) C dX9_loneHints_34 (by decide) ?_
  refine s_goto (tgt := 39) C dX9_loneHints_35 (by decide) ?_
  exact X9_loneHints_b39_s C hF hO hr hm hk2  a0 i1 1
set_option maxRecDepth 20000 in
theorem X9_loneHints_b2_s (C : Cx G p R s m args meth c cX9_loneHints 3 yX9_loneHints.cls h0 h') (hF : R.frames = 3) (hO : R.locals = 72) (hr : meth.sig.returnType = none) (hm : meth.name = yX9_loneHints.name)  (n : Nat) : ∀ (a0 : Nat) (i1 : Int32), Sm G (QM G rvU below args s h0 r h') p l e R s m args below meth c 3 h0 r h' 2 [(0, .ref a0), (1, .int i1)] [] (X9_loneHints_b2  n a0 i1) := by
  induction n with
  | zero => intro a0 i1; exact s_fl
  | succ n ih => intro a0 i1; exact X9_loneHints_b2b_s C hF hO hr hm  ih a0 i1
end
set_option maxRecDepth 20000 in
theorem con_X9_loneHints (l : Launch) (G : Gx) (a0 : Nat) : Con G rvU l yX9_loneHints cX9_loneHints 3 none 3 72 [.ref a0] (X9_loneHints a0) := by
  refine con_of (lv := [(0, .ref a0)]) (by decide) (Nat.le_of_ble_eq_true rfl) rfl (fun p e R s m args below meth c h0 r h' C hF hO hr hm => ?_)
  refine s_iconst (v := 0) C dX9_loneHints_0 (by decide) ?_
  refine s_istore_n (lv' := [(1, .int 0), (0, .ref a0)]) C dX9_loneHints_1 rfl (by decide) rfl ?_
  refine s_sub [1, 0] rfl ?_
  exact X9_loneHints_b2_s C hF hO hr hm  FU a0 0

theorem dX9_isGoodHint_0 : decode cX9_isGoodHint 0 = .ok (.aload_n 0, 1) := by decide +kernel
theorem dX9_isGoodHint_1 : decode cX9_isGoodHint 1 = .ok (.iload_n 1, 1) := by decide +kernel
theorem dX9_isGoodHint_2 : decode cX9_isGoodHint 2 = .ok (.invokevirtual 153, 3) := by decide +kernel
theorem dX9_isGoodHint_5 : decode cX9_isGoodHint 5 = .ok (.istore_n 3, 1) := by decide +kernel
theorem dX9_isGoodHint_6 : decode cX9_isGoodHint 6 = .ok (.iload_n 3, 1) := by decide +kernel
theorem dX9_isGoodHint_7 : decode cX9_isGoodHint 7 = .ok (.aload_n 0, 1) := by decide +kernel
theorem dX9_isGoodHint_8 : decode cX9_isGoodHint 8 = .ok (.getfield 20, 3) := by decide +kernel
theorem dX9_isGoodHint_11 : decode cX9_isGoodHint 11 = .ok (.iload_n 1, 1) := by decide +kernel
theorem dX9_isGoodHint_12 : decode cX9_isGoodHint 12 = .ok (.iaload, 1) := by decide +kernel
theorem dX9_isGoodHint_13 : decode cX9_isGoodHint 13 = .ok (.iadd, 1) := by decide +kernel
theorem dX9_isGoodHint_14 : decode cX9_isGoodHint 14 = .ok (.iconst 4, 1) := by decide +kernel
theorem dX9_isGoodHint_15 : decode cX9_isGoodHint 15 = .ok (.isub, 1) := by decide +kernel
theorem dX9_isGoodHint_16 : decode cX9_isGoodHint 16 = .ok (.istore 4, 2) := by decide +kernel
theorem dX9_isGoodHint_18 : decode cX9_isGoodHint 18 = .ok (.aload_n 0, 1) := by decide +kernel
theorem dX9_isGoodHint_19 : decode cX9_isGoodHint 19 = .ok (.getfield 20, 3) := by decide +kernel
theorem dX9_isGoodHint_22 : decode cX9_isGoodHint 22 = .ok (.iload_n 1, 1) := by decide +kernel
theorem dX9_isGoodHint_23 : decode cX9_isGoodHint 23 = .ok (.iaload, 1) := by decide +kernel
theorem dX9_isGoodHint_24 : decode cX9_isGoodHint 24 = .ok (.bipush 8, 2) := by decide +kernel
theorem dX9_isGoodHint_26 : decode cX9_isGoodHint 26 = .ok (.if_icmp .lt 25, 3) := by decide +kernel
theorem dX9_isGoodHint_29 : decode cX9_isGoodHint 29 = .ok (.aload_n 0, 1) := by decide +kernel
theorem dX9_isGoodHint_30 : decode cX9_isGoodHint 30 = .ok (.getfield 9, 3) := by decide +kernel
theorem dX9_isGoodHint_33 : decode cX9_isGoodHint 33 = .ok (.iload 4, 2) := by decide +kernel
theorem dX9_isGoodHint_35 : decode cX9_isGoodHint 35 = .ok (.invokestatic 197, 3) := by decide +kernel
theorem dX9_isGoodHint_38 : decode cX9_isGoodHint 38 = .ok (.aload_n 0, 1) := by decide +kernel
theorem dX9_isGoodHint_39 : decode cX9_isGoodHint 39 = .ok (.getfield 9, 3) := by decide +kernel
theorem dX9_isGoodHint_42 : decode cX9_isGoodHint 42 = .ok (.iload_n 3, 1) := by decide +kernel
theorem dX9_isGoodHint_43 : decode cX9_isGoodHint 43 = .ok (.iload 4, 2) := by decide +kernel
theorem dX9_isGoodHint_45 : decode cX9_isGoodHint 45 = .ok (.invokestatic 194, 3) := by decide +kernel
theorem dX9_isGoodHint_48 : decode cX9_isGoodHint 48 = .ok (.if_icmp .eq 5, 3) := by decide +kernel
theorem dX9_isGoodHint_51 : decode cX9_isGoodHint 51 = .ok (.iconst 0, 1) := by decide +kernel
theorem dX9_isGoodHint_52 : decode cX9_isGoodHint 52 = .ok (.ireturn, 1) := by decide +kernel
theorem dX9_isGoodHint_53 : decode cX9_isGoodHint 53 = .ok (.iload_n 3, 1) := by decide +kernel
theorem dX9_isGoodHint_54 : decode cX9_isGoodHint 54 = .ok (.iconst 4, 1) := by decide +kernel
theorem dX9_isGoodHint_55 : decode cX9_isGoodHint 55 = .ok (.iadd, 1) := by decide +kernel
theorem dX9_isGoodHint_56 : decode cX9_isGoodHint 56 = .ok (.istore 5, 2) := by decide +kernel
theorem dX9_isGoodHint_58 : decode cX9_isGoodHint 58 = .ok (.iconst 0, 1) := by decide +kernel
theorem dX9_isGoodHint_59 : decode cX9_isGoodHint 59 = .ok (.istore 6, 2) := by decide +kernel
theorem dX9_isGoodHint_61 : decode cX9_isGoodHint 61 = .ok (.iload 5, 2) := by decide +kernel
theorem dX9_isGoodHint_63 : decode cX9_isGoodHint 63 = .ok (.iload 4, 2) := by decide +kernel
theorem dX9_isGoodHint_65 : decode cX9_isGoodHint 65 = .ok (.if_icmp .ge 131, 3) := by decide +kernel
theorem dX9_isGoodHint_68 : decode cX9_isGoodHint 68 = .ok (.iload 4, 2) := by decide +kernel
theorem dX9_isGoodHint_70 : decode cX9_isGoodHint 70 = .ok (.iload 5, 2) := by decide +kernel
theorem dX9_isGoodHint_72 : decode cX9_isGoodHint 72 = .ok (.isub, 1) := by decide +kernel
theorem dX9_isGoodHint_73 : decode cX9_isGoodHint 73 = .ok (.bipush 14, 2) := by decide +kernel
theorem dX9_isGoodHint_75 : decode cX9_isGoodHint 75 = .ok (.if_icmp .ge 5, 3) := by decide +kernel
theorem dX9_isGoodHint_78 : decode cX9_isGoodHint 78 = .ok (.iconst 0, 1) := by decide +kernel
theorem dX9_isGoodHint_79 : decode cX9_isGoodHint 79 = .ok (.ireturn, 1) := by decide +kernel
theorem dX9_isGoodHint_80 : decode cX9_isGoodHint 80 = .ok (.aload_n 0, 1) := by decide +kernel
theorem dX9_isGoodHint_81 : decode cX9_isGoodHint 81 = .ok (.getfield 9, 3) := by decide +kernel
theorem dX9_isGoodHint_84 : decode cX9_isGoodHint 84 = .ok (.iload 5, 2) := by decide +kernel
theorem dX9_isGoodHint_86 : decode cX9_isGoodHint 86 = .ok (.bipush 8, 2) := by decide +kernel
theorem dX9_isGoodHint_88 : decode cX9_isGoodHint 88 = .ok (.iadd, 1) := by decide +kernel
theorem dX9_isGoodHint_89 : decode cX9_isGoodHint 89 = .ok (.invokestatic 201, 3) := by decide +kernel
theorem dX9_isGoodHint_92 : decode cX9_isGoodHint 92 = .ok (.istore 7, 2) := by decide +kernel
theorem dX9_isGoodHint_94 : decode cX9_isGoodHint 94 = .ok (.aload_n 0, 1) := by decide +kernel
theorem dX9_isGoodHint_95 : decode cX9_isGoodHint 95 = .ok (.getfield 9, 3) := by decide +kernel
theorem dX9_isGoodHint_98 : decode cX9_isGoodHint 98 = .ok (.iload 5, 2) := by decide +kernel
theorem dX9_isGoodHint_100 : decode cX9_isGoodHint 100 = .ok (.bipush 10, 2) := by decide +kernel
theorem dX9_isGoodHint_102 : decode cX9_isGoodHint 102 = .ok (.iadd, 1) := by decide +kernel
theorem dX9_isGoodHint_103 : decode cX9_isGoodHint 103 = .ok (.invokestatic 197, 3) := by decide +kernel
theorem dX9_isGoodHint_106 : decode cX9_isGoodHint 106 = .ok (.istore 8, 2) := by decide +kernel
theorem dX9_isGoodHint_108 : decode cX9_isGoodHint 108 = .ok (.aload_n 0, 1) := by decide +kernel
theorem dX9_isGoodHint_109 : decode cX9_isGoodHint 109 = .ok (.getfield 9, 3) := by decide +kernel
theorem dX9_isGoodHint_112 : decode cX9_isGoodHint 112 = .ok (.iload 5, 2) := by decide +kernel
theorem dX9_isGoodHint_114 : decode cX9_isGoodHint 114 = .ok (.iconst 4, 1) := by decide +kernel
theorem dX9_isGoodHint_115 : decode cX9_isGoodHint 115 = .ok (.iadd, 1) := by decide +kernel
theorem dX9_isGoodHint_116 : decode cX9_isGoodHint 116 = .ok (.invokestatic 197, 3) := by decide +kernel
theorem dX9_isGoodHint_119 : decode cX9_isGoodHint 119 = .ok (.istore 9, 2) := by decide +kernel
theorem dX9_isGoodHint_121 : decode cX9_isGoodHint 121 = .ok (.aload_n 0, 1) := by decide +kernel
theorem dX9_isGoodHint_122 : decode cX9_isGoodHint 122 = .ok (.getfield 9, 3) := by decide +kernel
theorem dX9_isGoodHint_125 : decode cX9_isGoodHint 125 = .ok (.iload 5, 2) := by decide +kernel
theorem dX9_isGoodHint_127 : decode cX9_isGoodHint 127 = .ok (.invokestatic 197, 3) := by decide +kernel
theorem dX9_isGoodHint_130 : decode cX9_isGoodHint 130 = .ok (.iload 7, 2) := by decide +kernel
theorem dX9_isGoodHint_132 : decode cX9_isGoodHint 132 = .ok (.iload 8, 2) := by decide +kernel
theorem dX9_isGoodHint_134 : decode cX9_isGoodHint 134 = .ok (.invokestatic 263, 3) := by decide +kernel
theorem dX9_isGoodHint_137 : decode cX9_isGoodHint 137 = .ok (.ifCond .eq 16, 3) := by decide +kernel
theorem dX9_isGoodHint_140 : decode cX9_isGoodHint 140 = .ok (.iload 4, 2) := by decide +kernel
theorem dX9_isGoodHint_142 : decode cX9_isGoodHint 142 = .ok (.iload 5, 2) := by decide +kernel
theorem dX9_isGoodHint_144 : decode cX9_isGoodHint 144 = .ok (.isub, 1) := by decide +kernel
theorem dX9_isGoodHint_145 : decode cX9_isGoodHint 145 = .ok (.bipush 14, 2) := by decide +kernel
theorem dX9_isGoodHint_147 : decode cX9_isGoodHint 147 = .ok (.iload 7, 2) := by decide +kernel
theorem dX9_isGoodHint_149 : decode cX9_isGoodHint 149 = .ok (.iadd, 1) := by decide +kernel
theorem dX9_isGoodHint_150 : decode cX9_isGoodHint 150 = .ok (.if_icmp .ge 5, 3) := by decide +kernel
theorem dX9_isGoodHint_153 : decode cX9_isGoodHint 153 = .ok (.iconst 0, 1) := by decide +kernel
theorem dX9_isGoodHint_154 : decode cX9_isGoodHint 154 = .ok (.ireturn, 1) := by decide +kernel
theorem dX9_isGoodHint_155 : decode cX9_isGoodHint 155 = .ok (.iload 9, 2) := by decide +kernel
theorem dX9_isGoodHint_157 : decode cX9_isGoodHint 157 = .ok (.ifCond .lt 21, 3) := by decide +kernel
theorem dX9_isGoodHint_160 : decode cX9_isGoodHint 160 = .ok (.iload 9, 2) := by decide +kernel
theorem dX9_isGoodHint_162 : decode cX9_isGoodHint 162 = .ok (.i2l, 1) := by decide +kernel
theorem dX9_isGoodHint_163 : decode cX9_isGoodHint 163 = .ok (.iload 7, 2) := by decide +kernel
theorem dX9_isGoodHint_165 : decode cX9_isGoodHint 165 = .ok (.iload 8, 2) := by decide +kernel
theorem dX9_isGoodHint_167 : decode cX9_isGoodHint 167 = .ok (.invokestatic 185, 3) := by decide +kernel
theorem dX9_isGoodHint_170 : decode cX9_isGoodHint 170 = .ok (.i2l, 1) := by decide +kernel
theorem dX9_isGoodHint_171 : decode cX9_isGoodHint 171 = .ok (.ladd, 1) := by decide +kernel
theorem dX9_isGoodHint_172 : decode cX9_isGoodHint 172 = .ok (.iload_n 2, 1) := by decide +kernel
theorem dX9_isGoodHint_173 : decode cX9_isGoodHint 173 = .ok (.i2l, 1) := by decide +kernel
theorem dX9_isGoodHint_174 : decode cX9_isGoodHint 174 = .ok (.lcmp, 1) := by decide +kernel
theorem dX9_isGoodHint_175 : decode cX9_isGoodHint 175 = .ok (.ifCond .le 5, 3) := by decide +kernel
theorem dX9_isGoodHint_178 : decode cX9_isGoodHint 178 = .ok (.iconst 0, 1) := by decide +kernel
theorem dX9_isGoodHint_179 : decode cX9_isGoodHint 179 = .ok (.ireturn, 1) := by decide +kernel
theorem dX9_isGoodHint_180 : decode cX9_isGoodHint 180 = .ok (.iinc 6 1, 3) := by decide +kernel
theorem dX9_isGoodHint_183 : decode cX9_isGoodHint 183 = .ok (.iload 5, 2) := by decide +kernel
theorem dX9_isGoodHint_185 : decode cX9_isGoodHint 185 = .ok (.bipush 14, 2) := by decide +kernel
theorem dX9_isGoodHint_187 : decode cX9_isGoodHint 187 = .ok (.iload 7, 2) := by decide +kernel
theorem dX9_isGoodHint_189 : decode cX9_isGoodHint 189 = .ok (.iadd, 1) := by decide +kernel
theorem dX9_isGoodHint_190 : decode cX9_isGoodHint 190 = .ok (.iadd, 1) := by decide +kernel
theorem dX9_isGoodHint_191 : decode cX9_isGoodHint 191 = .ok (.istore 5, 2) := by decide +kernel
theorem dX9_isGoodHint_193 : decode cX9_isGoodHint 193 = .ok (.goto (-132), 3) := by decide +kernel
theorem dX9_isGoodHint_196 : decode cX9_isGoodHint 196 = .ok (.iload 6, 2) := by decide +kernel
theorem dX9_isGoodHint_198 : decode cX9_isGoodHint 198 = .ok (.aload_n 0, 1) := by decide +kernel
theorem dX9_isGoodHint_199 : decode cX9_isGoodHint 199 = .ok (.getfield 9, 3) := by decide +kernel
theorem dX9_isGoodHint_202 : decode cX9_isGoodHint 202 = .ok (.iload_n 3, 1) := by decide +kernel
theorem dX9_isGoodHint_203 : decode cX9_isGoodHint 203 = .ok (.invokestatic 197, 3) := by decide +kernel
theorem dX9_isGoodHint_206 : decode cX9_isGoodHint 206 = .ok (.if_icmp .ne 7, 3) := by decide +kernel
theorem dX9_isGoodHint_209 : decode cX9_isGoodHint 209 = .ok (.iconst 1, 1) := by decide +kernel
theorem dX9_isGoodHint_210 : decode cX9_isGoodHint 210 = .ok (.goto 4, 3) := by decide +kernel
theorem dX9_isGoodHint_213 : decode cX9_isGoodHint 213 = .ok (.iconst 0, 1) := by decide +kernel
theorem dX9_isGoodHint_214 : decode cX9_isGoodHint 214 = .ok (.ireturn, 1) := by decide +kernel
def X9_isGoodHint_b61b  (k61 : Nat → Int32 → Int32 → Int32 → Int32 → Int32 → M Int32) (a0 : Nat) (i2 : Int32) (i3 : Int32) (i4 : Int32) (i5 : Int32) (i6 : Int32) : M Int32 := it (i4 ≤ i5) (bd (gR 12 3 a0) (fun y1 => bd (X9_number4 y1 i3) (fun x2 => it (¬ i6 = x2) (pu 0) (pu 1)))) (it (14 ≤ (i4 - i5)) (bd (gR 12 3 a0) (fun y3 => bd (X9_number2 y3 (i5 + 8)) (fun x4 => bd (gR 12 3 a0) (fun y5 => bd (X9_number4 y5 (i5 + 10)) (fun x6 => bd (gR 12 3 a0) (fun y7 => bd (X9_number4 y7 (i5 + 4)) (fun x8 => bd (gR 12 3 a0) (fun y9 => bd (X9_number4 y9 i5) (fun x10 => bd (X9_isTold x10 x4 x6) (fun x11 => it (x11 = 0) (pu 0) (it ((14 + x4) ≤ (i4 - i5)) (it (x8 < 0) (pu 0) (bd (X9_bytesOf x4 x6) (fun x12 => it ((lg_cmp (((x8 : Int32).toInt64) + ((x12 : Int32).toInt64)) ((i2 : Int32).toInt64)) ≤ 0) (bd (pu (i5 + (14 + x4))) (fun x13 => k61 a0 i2 i3 i4 x13 (i6 + 1))) (pu 0)))) (pu 0)))))))))))) (pu 0))
def X9_isGoodHint_b61  : Nat → Nat → Int32 → Int32 → Int32 → Int32 → Int32 → M Int32
  | 0 => fun _ _ _ _ _ _ => fl
  | n + 1 => fun a0 i2 i3 i4 i5 i6 => X9_isGoodHint_b61b  (X9_isGoodHint_b61  n) a0 i2 i3 i4 i5 i6
def X9_isGoodHint (a0 : Nat) (i1 : Int32) (i2 : Int32) : M Int32 := bd (ck 12 a0) (fun _ => bd (X9_startOf a0 i1) (fun x1 => bd (gR 12 7 a0) (fun y2 => bd (al 22 y2 i1) (fun x3 => bd (pu ((x1 + x3) - 4)) (fun x4 => bd (gR 12 7 a0) (fun y5 => bd (al 22 y5 i1) (fun x6 => it (x6 < 8) (pu 0) (bd (gR 12 3 a0) (fun y7 => bd (X9_number4 y7 x4) (fun x8 => bd (gR 12 3 a0) (fun y9 => bd (X9_sum y9 x1 x4) (fun x10 => it (x8 = x10) (bd (pu (x1 + 4)) (fun x11 => X9_isGoodHint_b61  FU a0 i2 x1 x4 x11 0)) (pu 0)))))))))))))
section
variable {G : Gx} {p : Program} {l : Launch} {e : Env} {R : Room} {s : State} {m : MethodId} {args : Array Value} {below : List Frame} {meth : Method} {c : Code} {h0 : Hp} {r : Int32} {h' : Hp}
set_option maxRecDepth 20000 in
theorem X9_isGoodHint_b61b_s (C : Cx G p R s m args meth c cX9_isGoodHint 10 yX9_isGoodHint.cls h0 h') (hF : R.frames = 2) (hO : R.locals = 51) (hr : meth.sig.returnType = (some .boolean)) (hm : meth.name = yX9_isGoodHint.name)  {k61 : Nat → Int32 → Int32 → Int32 → Int32 → Int32 → M Int32} (hk61 : ∀ (a0 : Nat) (i2 : Int32) (i3 : Int32) (i4 : Int32) (i5 : Int32) (i6 : Int32), Sm G (QM G rvI below args s h0 r h') p l e R s m args below meth c 10 h0 r h' 61 [(0, .ref a0), (2, .int i2), (3, .int i3), (4, .int i4), (5, .int i5), (6, .int i6)] [] (k61 a0 i2 i3 i4 i5 i6)) (a0 : Nat) (i2 : Int32) (i3 : Int32) (i4 : Int32) (i5 : Int32) (i6 : Int32) : Sm G (QM G rvI below args s h0 r h') p l e R s m args below meth c 10 h0 r h' 61 [(0, .ref a0), (2, .int i2), (3, .int i3), (4, .int i4), (5, .int i5), (6, .int i6)] [] (X9_isGoodHint_b61b  k61 a0 i2 i3 i4 i5 i6) := by
  refine s_iload C 4 dX9_isGoodHint_61 rfl ?_
  refine s_iload C 3 dX9_isGoodHint_63 rfl ?_
  refine s_icmp_ge (tgt := 196) C dX9_isGoodHint_65 (by decide) ?_ ?_
  · refine s_iload C 5 dX9_isGoodHint_196 rfl ?_
    refine s_aload_n C 0 dX9_isGoodHint_198 rfl rfl ?_
    refine s_gR C ci12 3 (by decide) (Or.inl wd_6_118) dX9_isGoodHint_199 (fun y1 => ?_)
    refine s_iload_n C 2 dX9_isGoodHint_202 rfl rfl ?_
    refine s_invS_i C cy_X9_number4 (Or.inl wd_7_143) wd_7_144 (con_X9_number4 l G y1 i3) rfl rfl (Nat.le_of_ble_eq_true rfl) (by rw [hF]; decide) (by rw [hO]; exact Nat.le_of_ble_eq_true rfl) dX9_isGoodHint_203 (fun x2 => ?_)
    refine s_icmp_ne (tgt := 213) C dX9_isGoodHint_206 (by decide) ?_ ?_
    · refine s_iconst (v := 0) C dX9_isGoodHint_213 (by decide) ?_
      exact s_zret C hr rfl (Or.inl rfl) dX9_isGoodHint_214
    refine s_iconst (v := 1) C dX9_isGoodHint_209 (by decide) ?_
    refine s_goto (tgt := 214) C dX9_isGoodHint_210 (by decide) ?_
    exact s_zret C hr rfl (Or.inr rfl) dX9_isGoodHint_214
  refine s_iload C 3 dX9_isGoodHint_68 rfl ?_
  refine s_iload C 4 dX9_isGoodHint_70 rfl ?_
  refine s_isub C dX9_isGoodHint_72 ?_
  refine s_bipush (v := 14) C dX9_isGoodHint_73 (by decide) ?_
  refine s_icmp_ge (tgt := 80) C dX9_isGoodHint_75 (by decide) ?_ ?_
  · refine s_aload_n C 0 dX9_isGoodHint_80 rfl rfl ?_
    refine s_gR C ci12 3 (by decide) (Or.inl wd_6_118) dX9_isGoodHint_81 (fun y3 => ?_)
    refine s_iload C 4 dX9_isGoodHint_84 rfl ?_
    refine s_bipush (v := 8) C dX9_isGoodHint_86 (by decide) ?_
    refine s_iadd C dX9_isGoodHint_88 ?_
    refine s_invS_i C cy_X9_number2 (Or.inl wd_7_146) wd_7_147 (con_X9_number2 l G y3 (i5 + 8)) rfl rfl (Nat.le_of_ble_eq_true rfl) (by rw [hF]; decide) (by rw [hO]; exact Nat.le_of_ble_eq_true rfl) dX9_isGoodHint_89 (fun x4 => ?_)
    refine s_istore (lv' := [(7, .int x4), (0, .ref a0), (2, .int i2), (3, .int i3), (4, .int i4), (5, .int i5), (6, .int i6)]) C dX9_isGoodHint_92 (by decide) rfl ?_
    refine s_aload_n C 1 dX9_isGoodHint_94 rfl rfl ?_
    refine s_gR C ci12 3 (by decide) (Or.inl wd_6_118) dX9_isGoodHint_95 (fun y5 => ?_)
    refine s_iload C 5 dX9_isGoodHint_98 rfl ?_
    refine s_bipush (v := 10) C dX9_isGoodHint_100 (by decide) ?_
    refine s_iadd C dX9_isGoodHint_102 ?_
    refine s_invS_i C cy_X9_number4 (Or.inl wd_7_143) wd_7_144 (con_X9_number4 l G y5 (i5 + 10)) rfl rfl (Nat.le_of_ble_eq_true rfl) (by rw [hF]; decide) (by rw [hO]; exact Nat.le_of_ble_eq_true rfl) dX9_isGoodHint_103 (fun x6 => ?_)
    refine s_istore (lv' := [(8, .int x6), (7, .int x4), (0, .ref a0), (2, .int i2), (3, .int i3), (4, .int i4), (5, .int i5), (6, .int i6)]) C dX9_isGoodHint_106 (by decide) rfl ?_
    refine s_aload_n C 2 dX9_isGoodHint_108 rfl rfl ?_
    refine s_gR C ci12 3 (by decide) (Or.inl wd_6_118) dX9_isGoodHint_109 (fun y7 => ?_)
    refine s_iload C 6 dX9_isGoodHint_112 rfl ?_
    refine s_iconst (v := 4) C dX9_isGoodHint_114 (by decide) ?_
    refine s_iadd C dX9_isGoodHint_115 ?_
    refine s_invS_i C cy_X9_number4 (Or.inl wd_7_143) wd_7_144 (con_X9_number4 l G y7 (i5 + 4)) rfl rfl (Nat.le_of_ble_eq_true rfl) (by rw [hF]; decide) (by rw [hO]; exact Nat.le_of_ble_eq_true rfl) dX9_isGoodHint_116 (fun x8 => ?_)
    refine s_istore (lv' := [(9, .int x8), (8, .int x6), (7, .int x4), (0, .ref a0), (2, .int i2), (3, .int i3), (4, .int i4), (5, .int i5), (6, .int i6)]) C dX9_isGoodHint_119 (by decide) rfl ?_
    refine s_aload_n C 3 dX9_isGoodHint_121 rfl rfl ?_
    refine s_gR C ci12 3 (by decide) (Or.inl wd_6_118) dX9_isGoodHint_122 (fun y9 => ?_)
    refine s_iload C 7 dX9_isGoodHint_125 rfl ?_
    refine s_invS_i C cy_X9_number4 (Or.inl wd_7_143) wd_7_144 (con_X9_number4 l G y9 i5) rfl rfl (Nat.le_of_ble_eq_true rfl) (by rw [hF]; decide) (by rw [hO]; exact Nat.le_of_ble_eq_true rfl) dX9_isGoodHint_127 (fun x10 => ?_)
    refine s_iload C 2 dX9_isGoodHint_130 rfl ?_
    refine s_iload C 1 dX9_isGoodHint_132 rfl ?_
    refine s_invS_i C cy_X9_isTold (Or.inl wd_7_196) wd_7_197 (con_X9_isTold l G x10 x4 x6) rfl rfl (Nat.le_of_ble_eq_true rfl) (by rw [hF]; decide) (by rw [hO]; exact Nat.le_of_ble_eq_true rfl) dX9_isGoodHint_134 (fun x11 => ?_)
    refine s_if_eq (tgt := 153) C dX9_isGoodHint_137 (by decide) ?_ ?_
    · refine s_iconst (v := 0) C dX9_isGoodHint_153 (by decide) ?_
      exact s_zret C hr rfl (Or.inl rfl) dX9_isGoodHint_154
    refine s_iload C 6 dX9_isGoodHint_140 rfl ?_
    refine s_iload C 7 dX9_isGoodHint_142 rfl ?_
    refine s_isub C dX9_isGoodHint_144 ?_
    refine s_bipush (v := 14) C dX9_isGoodHint_145 (by decide) ?_
    refine s_iload C 2 dX9_isGoodHint_147 rfl ?_
    refine s_iadd C dX9_isGoodHint_149 ?_
    refine s_icmp_ge (tgt := 155) C dX9_isGoodHint_150 (by decide) ?_ ?_
    · refine s_iload C 0 dX9_isGoodHint_155 rfl ?_
      refine s_if_lt (tgt := 178) C dX9_isGoodHint_157 (by decide) ?_ ?_
      · refine s_iconst (v := 0) C dX9_isGoodHint_178 (by decide) ?_
        exact s_zret C hr rfl (Or.inl rfl) dX9_isGoodHint_179
      refine s_iload C 0 dX9_isGoodHint_160 rfl ?_
      refine s_i2l C dX9_isGoodHint_162 ?_
      refine s_iload C 2 dX9_isGoodHint_163 rfl ?_
      refine s_iload C 1 dX9_isGoodHint_165 rfl ?_
      refine s_invS_i C cy_X9_bytesOf (Or.inl wd_7_55) wd_7_56 (con_X9_bytesOf l G x4 x6) rfl rfl (Nat.le_of_ble_eq_true rfl) (by rw [hF]; decide) (by rw [hO]; exact Nat.le_of_ble_eq_true rfl) dX9_isGoodHint_167 (fun x12 => ?_)
      refine s_i2l C dX9_isGoodHint_170 ?_
      refine s_ladd C dX9_isGoodHint_171 ?_
      refine s_iload_n C 4 dX9_isGoodHint_172 rfl rfl ?_
      refine s_i2l C dX9_isGoodHint_173 ?_
      refine s_lcmp C dX9_isGoodHint_174 ?_
      refine s_if_le (tgt := 180) C dX9_isGoodHint_175 (by decide) ?_ ?_
      · refine s_iincK (lv' := [(6, .int (i6 + 1)), (9, .int x8), (8, .int x6), (7, .int x4), (0, .ref a0), (2, .int i2), (3, .int i3), (4, .int i4), (5, .int i5)]) (w := 1) C 8 dX9_isGoodHint_180 rfl (by decide) (by decide) rfl ?_
        refine s_iload C 8 dX9_isGoodHint_183 rfl ?_
        refine s_bipush (v := 14) C dX9_isGoodHint_185 (by decide) ?_
        refine s_iload C 3 dX9_isGoodHint_187 rfl ?_
        refine s_iadd C dX9_isGoodHint_189 ?_
        refine s_iadd C dX9_isGoodHint_190 ?_
        refine s_let (fun x13 => ?_)
        refine s_istore (lv' := [(5, .int x13), (6, .int (i6 + 1)), (9, .int x8), (8, .int x6), (7, .int x4), (0, .ref a0), (2, .int i2), (3, .int i3), (4, .int i4)]) C dX9_isGoodHint_191 (by decide) rfl ?_
        refine s_goto (tgt := 61) C dX9_isGoodHint_193 (by decide) ?_
        refine s_sub [5, 6, 7, 8, 0, 1] rfl ?_
        exact hk61 a0 i2 i3 i4 x13 (i6 + 1)
      refine s_iconst (v := 0) C dX9_isGoodHint_178 (by decide) ?_
      exact s_zret C hr rfl (Or.inl rfl) dX9_isGoodHint_179
    refine s_iconst (v := 0) C dX9_isGoodHint_153 (by decide) ?_
    exact s_zret C hr rfl (Or.inl rfl) dX9_isGoodHint_154
  refine s_iconst (v := 0) C dX9_isGoodHint_78 (by decide) ?_
  exact s_zret C hr rfl (Or.inl rfl) dX9_isGoodHint_79
set_option maxRecDepth 20000 in
theorem X9_isGoodHint_b61_s (C : Cx G p R s m args meth c cX9_isGoodHint 10 yX9_isGoodHint.cls h0 h') (hF : R.frames = 2) (hO : R.locals = 51) (hr : meth.sig.returnType = (some .boolean)) (hm : meth.name = yX9_isGoodHint.name)  (n : Nat) : ∀ (a0 : Nat) (i2 : Int32) (i3 : Int32) (i4 : Int32) (i5 : Int32) (i6 : Int32), Sm G (QM G rvI below args s h0 r h') p l e R s m args below meth c 10 h0 r h' 61 [(0, .ref a0), (2, .int i2), (3, .int i3), (4, .int i4), (5, .int i5), (6, .int i6)] [] (X9_isGoodHint_b61  n a0 i2 i3 i4 i5 i6) := by
  induction n with
  | zero => intro a0 i2 i3 i4 i5 i6; exact s_fl
  | succ n ih => intro a0 i2 i3 i4 i5 i6; exact X9_isGoodHint_b61b_s C hF hO hr hm  ih a0 i2 i3 i4 i5 i6
end
set_option maxRecDepth 20000 in
theorem con_X9_isGoodHint (l : Launch) (G : Gx) (a0 : Nat) (i1 : Int32) (i2 : Int32) : Con G rvI l yX9_isGoodHint cX9_isGoodHint 10 (some .boolean) 2 51 [.ref a0, .int i1, .int i2] (X9_isGoodHint a0 i1 i2) := by
  refine con_of (lv := [(0, .ref a0), (1, .int i1), (2, .int i2)]) (by decide) (Nat.le_of_ble_eq_true rfl) rfl (fun p e R s m args below meth c h0 r h' C hF hO hr hm => ?_)
  refine s_aload_n C 0 dX9_isGoodHint_0 rfl rfl ?_
  refine s_iload_n C 1 dX9_isGoodHint_1 rfl rfl ?_
  refine s_invV_i C ci12 cy_X9_startOf (Or.inl wd_7_96) rfl wd_7_98 wp_39 (con_X9_startOf l G a0 i1) rfl rfl (Nat.le_of_ble_eq_true rfl) (by rw [hF]; decide) (by rw [hO]; exact Nat.le_of_ble_eq_true rfl) dX9_isGoodHint_2 (fun x1 => ?_)
  refine s_istore_n (lv' := [(3, .int x1), (0, .ref a0), (1, .int i1), (2, .int i2)]) C dX9_isGoodHint_5 rfl (by decide) rfl ?_
  refine s_iload_n C 0 dX9_isGoodHint_6 rfl rfl ?_
  refine s_aload_n C 1 dX9_isGoodHint_7 rfl rfl ?_
  refine s_gR C ci12 7 (by decide) (Or.inl wd_6_122) dX9_isGoodHint_8 (fun y2 => ?_)
  refine s_iload_n C 2 dX9_isGoodHint_11 rfl rfl ?_
  refine s_al22 C dX9_isGoodHint_12 (fun x3 => ?_)
  refine s_iadd C dX9_isGoodHint_13 ?_
  refine s_iconst (v := 4) C dX9_isGoodHint_14 (by decide) ?_
  refine s_isub C dX9_isGoodHint_15 ?_
  refine s_let (fun x4 => ?_)
  refine s_istore (lv' := [(4, .int x4), (3, .int x1), (0, .ref a0), (1, .int i1), (2, .int i2)]) C dX9_isGoodHint_16 (by decide) rfl ?_
  refine s_aload_n C 2 dX9_isGoodHint_18 rfl rfl ?_
  refine s_gR C ci12 7 (by decide) (Or.inl wd_6_122) dX9_isGoodHint_19 (fun y5 => ?_)
  refine s_iload_n C 3 dX9_isGoodHint_22 rfl rfl ?_
  refine s_al22 C dX9_isGoodHint_23 (fun x6 => ?_)
  refine s_bipush (v := 8) C dX9_isGoodHint_24 (by decide) ?_
  refine s_icmp_lt (tgt := 51) C dX9_isGoodHint_26 (by decide) ?_ ?_
  · refine s_iconst (v := 0) C dX9_isGoodHint_51 (by decide) ?_
    exact s_zret C hr rfl (Or.inl rfl) dX9_isGoodHint_52
  refine s_aload_n C 2 dX9_isGoodHint_29 rfl rfl ?_
  refine s_gR C ci12 3 (by decide) (Or.inl wd_6_118) dX9_isGoodHint_30 (fun y7 => ?_)
  refine s_iload C 0 dX9_isGoodHint_33 rfl ?_
  refine s_invS_i C cy_X9_number4 (Or.inl wd_7_143) wd_7_144 (con_X9_number4 l G y7 x4) rfl rfl (Nat.le_of_ble_eq_true rfl) (by rw [hF]; decide) (by rw [hO]; exact Nat.le_of_ble_eq_true rfl) dX9_isGoodHint_35 (fun x8 => ?_)
  refine s_aload_n C 2 dX9_isGoodHint_38 rfl rfl ?_
  refine s_gR C ci12 3 (by decide) (Or.inl wd_6_118) dX9_isGoodHint_39 (fun y9 => ?_)
  refine s_iload_n C 1 dX9_isGoodHint_42 rfl rfl ?_
  refine s_iload C 0 dX9_isGoodHint_43 rfl ?_
  refine s_invS_i C cy_X9_sum (Or.inl wd_7_88) wd_7_89 (con_X9_sum l G y9 x1 x4) rfl rfl (Nat.le_of_ble_eq_true rfl) (by rw [hF]; decide) (by rw [hO]; exact Nat.le_of_ble_eq_true rfl) dX9_isGoodHint_45 (fun x10 => ?_)
  refine s_icmp_eq (tgt := 53) C dX9_isGoodHint_48 (by decide) ?_ ?_
  · refine s_iload_n C 1 dX9_isGoodHint_53 rfl rfl ?_
    refine s_iconst (v := 4) C dX9_isGoodHint_54 (by decide) ?_
    refine s_iadd C dX9_isGoodHint_55 ?_
    refine s_let (fun x11 => ?_)
    refine s_istore (lv' := [(5, .int x11), (4, .int x4), (3, .int x1), (0, .ref a0), (1, .int i1), (2, .int i2)]) C dX9_isGoodHint_56 (by decide) rfl ?_
    refine s_iconst (v := 0) C dX9_isGoodHint_58 (by decide) ?_
    refine s_istore (lv' := [(6, .int 0), (5, .int x11), (4, .int x4), (3, .int x1), (0, .ref a0), (1, .int i1), (2, .int i2)]) C dX9_isGoodHint_59 (by decide) rfl ?_
    refine s_sub [4, 6, 3, 2, 1, 0] rfl ?_
    exact X9_isGoodHint_b61_s C hF hO hr hm  FU a0 i2 x1 x4 x11 0
  refine s_iconst (v := 0) C dX9_isGoodHint_51 (by decide) ?_
  exact s_zret C hr rfl (Or.inl rfl) dX9_isGoodHint_52

theorem dX9_readsHint_0 : decode cX9_readsHint 0 = .ok (.aload_n 0, 1) := by decide +kernel
theorem dX9_readsHint_1 : decode cX9_readsHint 1 = .ok (.getfield 13, 3) := by decide +kernel
theorem dX9_readsHint_4 : decode cX9_readsHint 4 = .ok (.iload_n 1, 1) := by decide +kernel
theorem dX9_readsHint_5 : decode cX9_readsHint 5 = .ok (.iaload, 1) := by decide +kernel
theorem dX9_readsHint_6 : decode cX9_readsHint 6 = .ok (.istore_n 2, 1) := by decide +kernel
theorem dX9_readsHint_7 : decode cX9_readsHint 7 = .ok (.aload_n 0, 1) := by decide +kernel
theorem dX9_readsHint_8 : decode cX9_readsHint 8 = .ok (.iload_n 1, 1) := by decide +kernel
theorem dX9_readsHint_9 : decode cX9_readsHint 9 = .ok (.invokevirtual 153, 3) := by decide +kernel
theorem dX9_readsHint_12 : decode cX9_readsHint 12 = .ok (.istore_n 3, 1) := by decide +kernel
theorem dX9_readsHint_13 : decode cX9_readsHint 13 = .ok (.iload_n 3, 1) := by decide +kernel
theorem dX9_readsHint_14 : decode cX9_readsHint 14 = .ok (.aload_n 0, 1) := by decide +kernel
theorem dX9_readsHint_15 : decode cX9_readsHint 15 = .ok (.getfield 20, 3) := by decide +kernel
theorem dX9_readsHint_18 : decode cX9_readsHint 18 = .ok (.iload_n 1, 1) := by decide +kernel
theorem dX9_readsHint_19 : decode cX9_readsHint 19 = .ok (.iaload, 1) := by decide +kernel
theorem dX9_readsHint_20 : decode cX9_readsHint 20 = .ok (.iadd, 1) := by decide +kernel
theorem dX9_readsHint_21 : decode cX9_readsHint 21 = .ok (.iconst 4, 1) := by decide +kernel
theorem dX9_readsHint_22 : decode cX9_readsHint 22 = .ok (.isub, 1) := by decide +kernel
theorem dX9_readsHint_23 : decode cX9_readsHint 23 = .ok (.istore 4, 2) := by decide +kernel
theorem dX9_readsHint_25 : decode cX9_readsHint 25 = .ok (.iload_n 3, 1) := by decide +kernel
theorem dX9_readsHint_26 : decode cX9_readsHint 26 = .ok (.iconst 4, 1) := by decide +kernel
theorem dX9_readsHint_27 : decode cX9_readsHint 27 = .ok (.iadd, 1) := by decide +kernel
theorem dX9_readsHint_28 : decode cX9_readsHint 28 = .ok (.istore 5, 2) := by decide +kernel
theorem dX9_readsHint_30 : decode cX9_readsHint 30 = .ok (.iload 5, 2) := by decide +kernel
theorem dX9_readsHint_32 : decode cX9_readsHint 32 = .ok (.iload 4, 2) := by decide +kernel
theorem dX9_readsHint_34 : decode cX9_readsHint 34 = .ok (.if_icmp .ge 110, 3) := by decide +kernel
theorem dX9_readsHint_37 : decode cX9_readsHint 37 = .ok (.aload_n 0, 1) := by decide +kernel
theorem dX9_readsHint_38 : decode cX9_readsHint 38 = .ok (.getfield 9, 3) := by decide +kernel
theorem dX9_readsHint_41 : decode cX9_readsHint 41 = .ok (.iload 5, 2) := by decide +kernel
theorem dX9_readsHint_43 : decode cX9_readsHint 43 = .ok (.bipush 8, 2) := by decide +kernel
theorem dX9_readsHint_45 : decode cX9_readsHint 45 = .ok (.iadd, 1) := by decide +kernel
theorem dX9_readsHint_46 : decode cX9_readsHint 46 = .ok (.invokestatic 201, 3) := by decide +kernel
theorem dX9_readsHint_49 : decode cX9_readsHint 49 = .ok (.istore 6, 2) := by decide +kernel
theorem dX9_readsHint_51 : decode cX9_readsHint 51 = .ok (.aload_n 0, 1) := by decide +kernel
theorem dX9_readsHint_52 : decode cX9_readsHint 52 = .ok (.aload_n 0, 1) := by decide +kernel
theorem dX9_readsHint_53 : decode cX9_readsHint 53 = .ok (.getfield 9, 3) := by decide +kernel
theorem dX9_readsHint_56 : decode cX9_readsHint 56 = .ok (.iload 5, 2) := by decide +kernel
theorem dX9_readsHint_58 : decode cX9_readsHint 58 = .ok (.bipush 14, 2) := by decide +kernel
theorem dX9_readsHint_60 : decode cX9_readsHint 60 = .ok (.iadd, 1) := by decide +kernel
theorem dX9_readsHint_61 : decode cX9_readsHint 61 = .ok (.iload 6, 2) := by decide +kernel
theorem dX9_readsHint_63 : decode cX9_readsHint 63 = .ok (.iload_n 2, 1) := by decide +kernel
theorem dX9_readsHint_64 : decode cX9_readsHint 64 = .ok (.aload_n 0, 1) := by decide +kernel
theorem dX9_readsHint_65 : decode cX9_readsHint 65 = .ok (.getfield 9, 3) := by decide +kernel
theorem dX9_readsHint_68 : decode cX9_readsHint 68 = .ok (.iload 5, 2) := by decide +kernel
theorem dX9_readsHint_70 : decode cX9_readsHint 70 = .ok (.iconst 4, 1) := by decide +kernel
theorem dX9_readsHint_71 : decode cX9_readsHint 71 = .ok (.iadd, 1) := by decide +kernel
theorem dX9_readsHint_72 : decode cX9_readsHint 72 = .ok (.invokestatic 197, 3) := by decide +kernel
theorem dX9_readsHint_75 : decode cX9_readsHint 75 = .ok (.aload_n 0, 1) := by decide +kernel
theorem dX9_readsHint_76 : decode cX9_readsHint 76 = .ok (.getfield 9, 3) := by decide +kernel
theorem dX9_readsHint_79 : decode cX9_readsHint 79 = .ok (.iload 5, 2) := by decide +kernel
theorem dX9_readsHint_81 : decode cX9_readsHint 81 = .ok (.bipush 10, 2) := by decide +kernel
theorem dX9_readsHint_83 : decode cX9_readsHint 83 = .ok (.iadd, 1) := by decide +kernel
theorem dX9_readsHint_84 : decode cX9_readsHint 84 = .ok (.invokestatic 197, 3) := by decide +kernel
theorem dX9_readsHint_87 : decode cX9_readsHint 87 = .ok (.aload_n 0, 1) := by decide +kernel
theorem dX9_readsHint_88 : decode cX9_readsHint 88 = .ok (.getfield 9, 3) := by decide +kernel
theorem dX9_readsHint_91 : decode cX9_readsHint 91 = .ok (.iload 5, 2) := by decide +kernel
theorem dX9_readsHint_93 : decode cX9_readsHint 93 = .ok (.invokestatic 197, 3) := by decide +kernel
theorem dX9_readsHint_96 : decode cX9_readsHint 96 = .ok (.invokevirtual 267, 3) := by decide +kernel
theorem dX9_readsHint_99 : decode cX9_readsHint 99 = .ok (.aload_n 0, 1) := by decide +kernel
theorem dX9_readsHint_100 : decode cX9_readsHint 100 = .ok (.dup, 1) := by decide +kernel
theorem dX9_readsHint_101 : decode cX9_readsHint 101 = .ok (.getfield 115, 3) := by decide +kernel
theorem dX9_readsHint_104 : decode cX9_readsHint 104 = .ok (.iconst 1, 1) := by decide +kernel
theorem dX9_readsHint_105 : decode cX9_readsHint 105 = .ok (.iadd, 1) := by decide +kernel
theorem dX9_readsHint_106 : decode cX9_readsHint 106 = .ok (.putfield 115, 3) := by decide +kernel
theorem dX9_readsHint_109 : decode cX9_readsHint 109 = .ok (.aload_n 0, 1) := by decide +kernel
theorem dX9_readsHint_110 : decode cX9_readsHint 110 = .ok (.aload_n 0, 1) := by decide +kernel
theorem dX9_readsHint_111 : decode cX9_readsHint 111 = .ok (.getfield 134, 3) := by decide +kernel
theorem dX9_readsHint_114 : decode cX9_readsHint 114 = .ok (.aload_n 0, 1) := by decide +kernel
theorem dX9_readsHint_115 : decode cX9_readsHint 115 = .ok (.getfield 9, 3) := by decide +kernel
theorem dX9_readsHint_118 : decode cX9_readsHint 118 = .ok (.iload 5, 2) := by decide +kernel
theorem dX9_readsHint_120 : decode cX9_readsHint 120 = .ok (.invokestatic 197, 3) := by decide +kernel
theorem dX9_readsHint_123 : decode cX9_readsHint 123 = .ok (.iconst 1, 1) := by decide +kernel
theorem dX9_readsHint_124 : decode cX9_readsHint 124 = .ok (.iadd, 1) := by decide +kernel
theorem dX9_readsHint_125 : decode cX9_readsHint 125 = .ok (.invokestatic 164, 3) := by decide +kernel
theorem dX9_readsHint_128 : decode cX9_readsHint 128 = .ok (.putfield 134, 3) := by decide +kernel
theorem dX9_readsHint_131 : decode cX9_readsHint 131 = .ok (.iload 5, 2) := by decide +kernel
theorem dX9_readsHint_133 : decode cX9_readsHint 133 = .ok (.bipush 14, 2) := by decide +kernel
theorem dX9_readsHint_135 : decode cX9_readsHint 135 = .ok (.iload 6, 2) := by decide +kernel
theorem dX9_readsHint_137 : decode cX9_readsHint 137 = .ok (.iadd, 1) := by decide +kernel
theorem dX9_readsHint_138 : decode cX9_readsHint 138 = .ok (.iadd, 1) := by decide +kernel
theorem dX9_readsHint_139 : decode cX9_readsHint 139 = .ok (.istore 5, 2) := by decide +kernel
theorem dX9_readsHint_141 : decode cX9_readsHint 141 = .ok (.goto (-111), 3) := by decide +kernel
theorem dX9_readsHint_144 : decode cX9_readsHint 144 = .ok (.return_, 1) := by decide +kernel
def X9_readsHint_b30b  (k30 : Nat → Int32 → Int32 → Int32 → M Unit) (a0 : Nat) (i2 : Int32) (i4 : Int32) (i5 : Int32) : M Unit := it (i4 ≤ i5) (pu ()) (bd (gR 12 3 a0) (fun y1 => bd (X9_number2 y1 (i5 + 8)) (fun x2 => bd (gR 12 3 a0) (fun y3 => bd (gR 12 3 a0) (fun y4 => bd (X9_number4 y4 (i5 + 4)) (fun x5 => bd (gR 12 3 a0) (fun y6 => bd (X9_number4 y6 (i5 + 10)) (fun x7 => bd (gR 12 3 a0) (fun y8 => bd (X9_number4 y8 i5) (fun x9 => bd (ck 12 a0) (fun _ => bd (X9_counts a0 y3 (i5 + 14) x2 i2 x5 x7 x9) (fun _ => bd (gI 12 19 a0) (fun x10 => bd (pV 12 19 a0 (.int (x10 + 1))) (fun _ => bd (gI 12 25 a0) (fun x11 => bd (gR 12 3 a0) (fun y12 => bd (X9_number4 y12 i5) (fun x13 => bd (pV 12 25 a0 (.int (imx x11 (x13 + 1)))) (fun _ => bd (pu (i5 + (14 + x2))) (fun x14 => k30 a0 i2 i4 x14)))))))))))))))))))
def X9_readsHint_b30  : Nat → Nat → Int32 → Int32 → Int32 → M Unit
  | 0 => fun _ _ _ _ => fl
  | n + 1 => fun a0 i2 i4 i5 => X9_readsHint_b30b  (X9_readsHint_b30  n) a0 i2 i4 i5
def X9_readsHint (a0 : Nat) (i1 : Int32) : M Unit := bd (gR 12 5 a0) (fun y1 => bd (al 22 y1 i1) (fun x2 => bd (ck 12 a0) (fun _ => bd (X9_startOf a0 i1) (fun x3 => bd (gR 12 7 a0) (fun y4 => bd (al 22 y4 i1) (fun x5 => bd (pu ((x3 + x5) - 4)) (fun x6 => bd (pu (x3 + 4)) (fun x7 => X9_readsHint_b30  FU a0 x2 x6 x7))))))))
section
variable {G : Gx} {p : Program} {l : Launch} {e : Env} {R : Room} {s : State} {m : MethodId} {args : Array Value} {below : List Frame} {meth : Method} {c : Code} {h0 : Hp} {r : Unit} {h' : Hp}
set_option maxRecDepth 20000 in
theorem X9_readsHint_b30b_s (C : Cx G p R s m args meth c cX9_readsHint 7 yX9_readsHint.cls h0 h') (hF : R.frames = 4) (hO : R.locals = 108) (hr : meth.sig.returnType = none) (hm : meth.name = yX9_readsHint.name)  {k30 : Nat → Int32 → Int32 → Int32 → M Unit} (hk30 : ∀ (a0 : Nat) (i2 : Int32) (i4 : Int32) (i5 : Int32), Sm G (QM G rvU below args s h0 r h') p l e R s m args below meth c 7 h0 r h' 30 [(0, .ref a0), (2, .int i2), (4, .int i4), (5, .int i5)] [] (k30 a0 i2 i4 i5)) (a0 : Nat) (i2 : Int32) (i4 : Int32) (i5 : Int32) : Sm G (QM G rvU below args s h0 r h') p l e R s m args below meth c 7 h0 r h' 30 [(0, .ref a0), (2, .int i2), (4, .int i4), (5, .int i5)] [] (X9_readsHint_b30b  k30 a0 i2 i4 i5) := by
  refine s_iload C 3 dX9_readsHint_30 rfl ?_
  refine s_iload C 2 dX9_readsHint_32 rfl ?_
  refine s_icmp_ge (tgt := 144) C dX9_readsHint_34 (by decide) ?_ ?_
  · exact s_vret C hr rfl dX9_readsHint_144
  refine s_aload_n C 0 dX9_readsHint_37 rfl rfl ?_
  refine s_gR C ci12 3 (by decide) (Or.inl wd_6_118) dX9_readsHint_38 (fun y1 => ?_)
  refine s_iload C 3 dX9_readsHint_41 rfl ?_
  refine s_bipush (v := 8) C dX9_readsHint_43 (by decide) ?_
  refine s_iadd C dX9_readsHint_45 ?_
  refine s_invS_i C cy_X9_number2 (Or.inl wd_7_146) wd_7_147 (con_X9_number2 l G y1 (i5 + 8)) rfl rfl (Nat.le_of_ble_eq_true rfl) (by rw [hF]; decide) (by rw [hO]; exact Nat.le_of_ble_eq_true rfl) dX9_readsHint_46 (fun x2 => ?_)
  refine s_istore (lv' := [(6, .int x2), (0, .ref a0), (2, .int i2), (4, .int i4), (5, .int i5)]) C dX9_readsHint_49 (by decide) rfl ?_
  refine s_aload_n C 1 dX9_readsHint_51 rfl rfl ?_
  refine s_aload_n C 1 dX9_readsHint_52 rfl rfl ?_
  refine s_gR C ci12 3 (by decide) (Or.inl wd_6_118) dX9_readsHint_53 (fun y3 => ?_)
  refine s_iload C 4 dX9_readsHint_56 rfl ?_
  refine s_bipush (v := 14) C dX9_readsHint_58 (by decide) ?_
  refine s_iadd C dX9_readsHint_60 ?_
  refine s_iload C 0 dX9_readsHint_61 rfl ?_
  refine s_iload_n C 2 dX9_readsHint_63 rfl rfl ?_
  refine s_aload_n C 1 dX9_readsHint_64 rfl rfl ?_
  refine s_gR C ci12 3 (by decide) (Or.inl wd_6_118) dX9_readsHint_65 (fun y4 => ?_)
  refine s_iload C 4 dX9_readsHint_68 rfl ?_
  refine s_iconst (v := 4) C dX9_readsHint_70 (by decide) ?_
  refine s_iadd C dX9_readsHint_71 ?_
  refine s_invS_i C cy_X9_number4 (Or.inl wd_7_143) wd_7_144 (con_X9_number4 l G y4 (i5 + 4)) rfl rfl (Nat.le_of_ble_eq_true rfl) (by rw [hF]; decide) (by rw [hO]; exact Nat.le_of_ble_eq_true rfl) dX9_readsHint_72 (fun x5 => ?_)
  refine s_aload_n C 1 dX9_readsHint_75 rfl rfl ?_
  refine s_gR C ci12 3 (by decide) (Or.inl wd_6_118) dX9_readsHint_76 (fun y6 => ?_)
  refine s_iload C 4 dX9_readsHint_79 rfl ?_
  refine s_bipush (v := 10) C dX9_readsHint_81 (by decide) ?_
  refine s_iadd C dX9_readsHint_83 ?_
  refine s_invS_i C cy_X9_number4 (Or.inl wd_7_143) wd_7_144 (con_X9_number4 l G y6 (i5 + 10)) rfl rfl (Nat.le_of_ble_eq_true rfl) (by rw [hF]; decide) (by rw [hO]; exact Nat.le_of_ble_eq_true rfl) dX9_readsHint_84 (fun x7 => ?_)
  refine s_aload_n C 1 dX9_readsHint_87 rfl rfl ?_
  refine s_gR C ci12 3 (by decide) (Or.inl wd_6_118) dX9_readsHint_88 (fun y8 => ?_)
  refine s_iload C 4 dX9_readsHint_91 rfl ?_
  refine s_invS_i C cy_X9_number4 (Or.inl wd_7_143) wd_7_144 (con_X9_number4 l G y8 i5) rfl rfl (Nat.le_of_ble_eq_true rfl) (by rw [hF]; decide) (by rw [hO]; exact Nat.le_of_ble_eq_true rfl) dX9_readsHint_93 (fun x9 => ?_)
  refine s_invV_u C ci12 cy_X9_counts (Or.inl wd_7_203) rfl wd_7_205 wp_56 (con_X9_counts l G a0 y3 (i5 + 14) x2 i2 x5 x7 x9) rfl rfl (Nat.le_of_ble_eq_true rfl) (by rw [hF]; decide) (by rw [hO]; exact Nat.le_of_ble_eq_true rfl) dX9_readsHint_96 ?_
  refine s_aload_n C 1 dX9_readsHint_99 rfl rfl ?_
  refine s_dup C dX9_readsHint_100 rfl ?_
  refine s_gI C ci12 19 (by decide) (Or.inl wd_6_134) dX9_readsHint_101 (fun x10 => ?_)
  refine s_iconst (v := 1) C dX9_readsHint_104 (by decide) ?_
  refine s_iadd C dX9_readsHint_105 ?_
  refine s_pV C ci12 19 (by decide) rfl (Or.inl wd_6_134) dX9_readsHint_106 rfl rfl ?_
  refine s_aload_n C 1 dX9_readsHint_109 rfl rfl ?_
  refine s_aload_n C 1 dX9_readsHint_110 rfl rfl ?_
  refine s_gI C ci12 25 (by decide) (Or.inl wd_6_140) dX9_readsHint_111 (fun x11 => ?_)
  refine s_aload_n C 1 dX9_readsHint_114 rfl rfl ?_
  refine s_gR C ci12 3 (by decide) (Or.inl wd_6_118) dX9_readsHint_115 (fun y12 => ?_)
  refine s_iload C 4 dX9_readsHint_118 rfl ?_
  refine s_invS_i C cy_X9_number4 (Or.inl wd_7_143) wd_7_144 (con_X9_number4 l G y12 i5) rfl rfl (Nat.le_of_ble_eq_true rfl) (by rw [hF]; decide) (by rw [hO]; exact Nat.le_of_ble_eq_true rfl) dX9_readsHint_120 (fun x13 => ?_)
  refine s_iconst (v := 1) C dX9_readsHint_123 (by decide) ?_
  refine s_iadd C dX9_readsHint_124 ?_
  refine s_mmax C wd_7_58 wd_2_18 wd_1_14 wd_2_19 (by rw [hF]; decide) (by rw [hO]; exact Nat.le_of_ble_eq_true rfl) dX9_readsHint_125 ?_
  refine s_pV C ci12 25 (by decide) rfl (Or.inl wd_6_140) dX9_readsHint_128 rfl rfl ?_
  refine s_iload C 4 dX9_readsHint_131 rfl ?_
  refine s_bipush (v := 14) C dX9_readsHint_133 (by decide) ?_
  refine s_iload C 0 dX9_readsHint_135 rfl ?_
  refine s_iadd C dX9_readsHint_137 ?_
  refine s_iadd C dX9_readsHint_138 ?_
  refine s_let (fun x14 => ?_)
  refine s_istore (lv' := [(5, .int x14), (6, .int x2), (0, .ref a0), (2, .int i2), (4, .int i4)]) C dX9_readsHint_139 (by decide) rfl ?_
  refine s_goto (tgt := 30) C dX9_readsHint_141 (by decide) ?_
  refine s_sub [2, 3, 4, 0] rfl ?_
  exact hk30 a0 i2 i4 x14
set_option maxRecDepth 20000 in
theorem X9_readsHint_b30_s (C : Cx G p R s m args meth c cX9_readsHint 7 yX9_readsHint.cls h0 h') (hF : R.frames = 4) (hO : R.locals = 108) (hr : meth.sig.returnType = none) (hm : meth.name = yX9_readsHint.name)  (n : Nat) : ∀ (a0 : Nat) (i2 : Int32) (i4 : Int32) (i5 : Int32), Sm G (QM G rvU below args s h0 r h') p l e R s m args below meth c 7 h0 r h' 30 [(0, .ref a0), (2, .int i2), (4, .int i4), (5, .int i5)] [] (X9_readsHint_b30  n a0 i2 i4 i5) := by
  induction n with
  | zero => intro a0 i2 i4 i5; exact s_fl
  | succ n ih => intro a0 i2 i4 i5; exact X9_readsHint_b30b_s C hF hO hr hm  ih a0 i2 i4 i5
end
set_option maxRecDepth 20000 in
theorem con_X9_readsHint (l : Launch) (G : Gx) (a0 : Nat) (i1 : Int32) : Con G rvU l yX9_readsHint cX9_readsHint 7 none 4 108 [.ref a0, .int i1] (X9_readsHint a0 i1) := by
  refine con_of (lv := [(0, .ref a0), (1, .int i1)]) (by decide) (Nat.le_of_ble_eq_true rfl) rfl (fun p e R s m args below meth c h0 r h' C hF hO hr hm => ?_)
  refine s_aload_n C 0 dX9_readsHint_0 rfl rfl ?_
  refine s_gR C ci12 5 (by decide) (Or.inl wd_6_120) dX9_readsHint_1 (fun y1 => ?_)
  refine s_iload_n C 1 dX9_readsHint_4 rfl rfl ?_
  refine s_al22 C dX9_readsHint_5 (fun x2 => ?_)
  refine s_istore_n (lv' := [(2, .int x2), (0, .ref a0), (1, .int i1)]) C dX9_readsHint_6 rfl (by decide) rfl ?_
  refine s_aload_n C 1 dX9_readsHint_7 rfl rfl ?_
  refine s_iload_n C 2 dX9_readsHint_8 rfl rfl ?_
  refine s_invV_i C ci12 cy_X9_startOf (Or.inl wd_7_96) rfl wd_7_98 wp_39 (con_X9_startOf l G a0 i1) rfl rfl (Nat.le_of_ble_eq_true rfl) (by rw [hF]; decide) (by rw [hO]; exact Nat.le_of_ble_eq_true rfl) dX9_readsHint_9 (fun x3 => ?_)
  refine s_istore_n (lv' := [(3, .int x3), (2, .int x2), (0, .ref a0), (1, .int i1)]) C dX9_readsHint_12 rfl (by decide) rfl ?_
  refine s_iload_n C 0 dX9_readsHint_13 rfl rfl ?_
  refine s_aload_n C 2 dX9_readsHint_14 rfl rfl ?_
  refine s_gR C ci12 7 (by decide) (Or.inl wd_6_122) dX9_readsHint_15 (fun y4 => ?_)
  refine s_iload_n C 3 dX9_readsHint_18 rfl rfl ?_
  refine s_al22 C dX9_readsHint_19 (fun x5 => ?_)
  refine s_iadd C dX9_readsHint_20 ?_
  refine s_iconst (v := 4) C dX9_readsHint_21 (by decide) ?_
  refine s_isub C dX9_readsHint_22 ?_
  refine s_let (fun x6 => ?_)
  refine s_istore (lv' := [(4, .int x6), (3, .int x3), (2, .int x2), (0, .ref a0), (1, .int i1)]) C dX9_readsHint_23 (by decide) rfl ?_
  refine s_iload_n C 1 dX9_readsHint_25 rfl rfl ?_
  refine s_iconst (v := 4) C dX9_readsHint_26 (by decide) ?_
  refine s_iadd C dX9_readsHint_27 ?_
  refine s_let (fun x7 => ?_)
  refine s_istore (lv' := [(5, .int x7), (4, .int x6), (3, .int x3), (2, .int x2), (0, .ref a0), (1, .int i1)]) C dX9_readsHint_28 (by decide) rfl ?_
  refine s_sub [4, 3, 1, 0] rfl ?_
  exact X9_readsHint_b30_s C hF hO hr hm  FU a0 x2 x6 x7

theorem dX9_wholeRecord_0 : decode cX9_wholeRecord 0 = .ok (.iload_n 2, 1) := by decide +kernel
theorem dX9_wholeRecord_1 : decode cX9_wholeRecord 1 = .ok (.bipush 14, 2) := by decide +kernel
theorem dX9_wholeRecord_3 : decode cX9_wholeRecord 3 = .ok (.if_icmp .ge 5, 3) := by decide +kernel
theorem dX9_wholeRecord_6 : decode cX9_wholeRecord 6 = .ok (.iconst 0, 1) := by decide +kernel
theorem dX9_wholeRecord_7 : decode cX9_wholeRecord 7 = .ok (.ireturn, 1) := by decide +kernel
theorem dX9_wholeRecord_8 : decode cX9_wholeRecord 8 = .ok (.aload_n 0, 1) := by decide +kernel
theorem dX9_wholeRecord_9 : decode cX9_wholeRecord 9 = .ok (.getfield 9, 3) := by decide +kernel
theorem dX9_wholeRecord_12 : decode cX9_wholeRecord 12 = .ok (.iload_n 1, 1) := by decide +kernel
theorem dX9_wholeRecord_13 : decode cX9_wholeRecord 13 = .ok (.bipush 8, 2) := by decide +kernel
theorem dX9_wholeRecord_15 : decode cX9_wholeRecord 15 = .ok (.iadd, 1) := by decide +kernel
theorem dX9_wholeRecord_16 : decode cX9_wholeRecord 16 = .ok (.invokestatic 201, 3) := by decide +kernel
theorem dX9_wholeRecord_19 : decode cX9_wholeRecord 19 = .ok (.istore_n 3, 1) := by decide +kernel
theorem dX9_wholeRecord_20 : decode cX9_wholeRecord 20 = .ok (.aload_n 0, 1) := by decide +kernel
theorem dX9_wholeRecord_21 : decode cX9_wholeRecord 21 = .ok (.getfield 9, 3) := by decide +kernel
theorem dX9_wholeRecord_24 : decode cX9_wholeRecord 24 = .ok (.iload_n 1, 1) := by decide +kernel
theorem dX9_wholeRecord_25 : decode cX9_wholeRecord 25 = .ok (.bipush 10, 2) := by decide +kernel
theorem dX9_wholeRecord_27 : decode cX9_wholeRecord 27 = .ok (.iadd, 1) := by decide +kernel
theorem dX9_wholeRecord_28 : decode cX9_wholeRecord 28 = .ok (.invokestatic 197, 3) := by decide +kernel
theorem dX9_wholeRecord_31 : decode cX9_wholeRecord 31 = .ok (.istore 4, 2) := by decide +kernel
theorem dX9_wholeRecord_33 : decode cX9_wholeRecord 33 = .ok (.aload_n 0, 1) := by decide +kernel
theorem dX9_wholeRecord_34 : decode cX9_wholeRecord 34 = .ok (.getfield 9, 3) := by decide +kernel
theorem dX9_wholeRecord_37 : decode cX9_wholeRecord 37 = .ok (.iload_n 1, 1) := by decide +kernel
theorem dX9_wholeRecord_38 : decode cX9_wholeRecord 38 = .ok (.iconst 4, 1) := by decide +kernel
theorem dX9_wholeRecord_39 : decode cX9_wholeRecord 39 = .ok (.iadd, 1) := by decide +kernel
theorem dX9_wholeRecord_40 : decode cX9_wholeRecord 40 = .ok (.invokestatic 197, 3) := by decide +kernel
theorem dX9_wholeRecord_43 : decode cX9_wholeRecord 43 = .ok (.iload_n 3, 1) := by decide +kernel
theorem dX9_wholeRecord_44 : decode cX9_wholeRecord 44 = .ok (.iload 4, 2) := by decide +kernel
theorem dX9_wholeRecord_46 : decode cX9_wholeRecord 46 = .ok (.invokestatic 263, 3) := by decide +kernel
theorem dX9_wholeRecord_49 : decode cX9_wholeRecord 49 = .ok (.ifCond .ne 5, 3) := by decide +kernel
theorem dX9_wholeRecord_52 : decode cX9_wholeRecord 52 = .ok (.iconst 0, 1) := by decide +kernel
theorem dX9_wholeRecord_53 : decode cX9_wholeRecord 53 = .ok (.ireturn, 1) := by decide +kernel
theorem dX9_wholeRecord_54 : decode cX9_wholeRecord 54 = .ok (.iload_n 3, 1) := by decide +kernel
theorem dX9_wholeRecord_55 : decode cX9_wholeRecord 55 = .ok (.iload 4, 2) := by decide +kernel
theorem dX9_wholeRecord_57 : decode cX9_wholeRecord 57 = .ok (.invokestatic 185, 3) := by decide +kernel
theorem dX9_wholeRecord_60 : decode cX9_wholeRecord 60 = .ok (.istore 5, 2) := by decide +kernel
theorem dX9_wholeRecord_62 : decode cX9_wholeRecord 62 = .ok (.iload 5, 2) := by decide +kernel
theorem dX9_wholeRecord_64 : decode cX9_wholeRecord 64 = .ok (.iload_n 2, 1) := by decide +kernel
theorem dX9_wholeRecord_65 : decode cX9_wholeRecord 65 = .ok (.if_icmp .gt 33, 3) := by decide +kernel
theorem dX9_wholeRecord_68 : decode cX9_wholeRecord 68 = .ok (.aload_n 0, 1) := by decide +kernel
theorem dX9_wholeRecord_69 : decode cX9_wholeRecord 69 = .ok (.getfield 9, 3) := by decide +kernel
theorem dX9_wholeRecord_72 : decode cX9_wholeRecord 72 = .ok (.iload_n 1, 1) := by decide +kernel
theorem dX9_wholeRecord_73 : decode cX9_wholeRecord 73 = .ok (.iconst 4, 1) := by decide +kernel
theorem dX9_wholeRecord_74 : decode cX9_wholeRecord 74 = .ok (.iadd, 1) := by decide +kernel
theorem dX9_wholeRecord_75 : decode cX9_wholeRecord 75 = .ok (.iload_n 1, 1) := by decide +kernel
theorem dX9_wholeRecord_76 : decode cX9_wholeRecord 76 = .ok (.iload 5, 2) := by decide +kernel
theorem dX9_wholeRecord_78 : decode cX9_wholeRecord 78 = .ok (.iadd, 1) := by decide +kernel
theorem dX9_wholeRecord_79 : decode cX9_wholeRecord 79 = .ok (.invokestatic 194, 3) := by decide +kernel
theorem dX9_wholeRecord_82 : decode cX9_wholeRecord 82 = .ok (.aload_n 0, 1) := by decide +kernel
theorem dX9_wholeRecord_83 : decode cX9_wholeRecord 83 = .ok (.getfield 9, 3) := by decide +kernel
theorem dX9_wholeRecord_86 : decode cX9_wholeRecord 86 = .ok (.iload_n 1, 1) := by decide +kernel
theorem dX9_wholeRecord_87 : decode cX9_wholeRecord 87 = .ok (.invokestatic 197, 3) := by decide +kernel
theorem dX9_wholeRecord_90 : decode cX9_wholeRecord 90 = .ok (.if_icmp .ne 8, 3) := by decide +kernel
theorem dX9_wholeRecord_93 : decode cX9_wholeRecord 93 = .ok (.iload 5, 2) := by decide +kernel
theorem dX9_wholeRecord_95 : decode cX9_wholeRecord 95 = .ok (.goto 4, 3) := by decide +kernel
theorem dX9_wholeRecord_98 : decode cX9_wholeRecord 98 = .ok (.iconst 0, 1) := by decide +kernel
theorem dX9_wholeRecord_99 : decode cX9_wholeRecord 99 = .ok (.ireturn, 1) := by decide +kernel
def X9_wholeRecord (a0 : Nat) (i1 : Int32) (i2 : Int32) : M Int32 := it (14 ≤ i2) (bd (gR 12 3 a0) (fun y1 => bd (X9_number2 y1 (i1 + 8)) (fun x2 => bd (gR 12 3 a0) (fun y3 => bd (X9_number4 y3 (i1 + 10)) (fun x4 => bd (gR 12 3 a0) (fun y5 => bd (X9_number4 y5 (i1 + 4)) (fun x6 => bd (X9_isTold x6 x2 x4) (fun x7 => it (¬ x7 = 0) (bd (X9_bytesOf x2 x4) (fun x8 => it (i2 < x8) (pu 0) (bd (gR 12 3 a0) (fun y9 => bd (X9_sum y9 (i1 + 4) (i1 + x8)) (fun x10 => bd (gR 12 3 a0) (fun y11 => bd (X9_number4 y11 i1) (fun x12 => it (¬ x10 = x12) (pu 0) (pu x8)))))))) (pu 0))))))))) (pu 0)
section
variable {G : Gx} {p : Program} {l : Launch} {e : Env} {R : Room} {s : State} {m : MethodId} {args : Array Value} {below : List Frame} {meth : Method} {c : Code} {h0 : Hp} {r : Int32} {h' : Hp}
end
set_option maxRecDepth 20000 in
theorem con_X9_wholeRecord (l : Launch) (G : Gx) (a0 : Nat) (i1 : Int32) (i2 : Int32) : Con G rvI l yX9_wholeRecord cX9_wholeRecord 6 (some .int) 2 51 [.ref a0, .int i1, .int i2] (X9_wholeRecord a0 i1 i2) := by
  refine con_of (lv := [(0, .ref a0), (1, .int i1), (2, .int i2)]) (by decide) (Nat.le_of_ble_eq_true rfl) rfl (fun p e R s m args below meth c h0 r h' C hF hO hr hm => ?_)
  refine s_iload_n C 2 dX9_wholeRecord_0 rfl rfl ?_
  refine s_bipush (v := 14) C dX9_wholeRecord_1 (by decide) ?_
  refine s_icmp_ge (tgt := 8) C dX9_wholeRecord_3 (by decide) ?_ ?_
  · refine s_aload_n C 0 dX9_wholeRecord_8 rfl rfl ?_
    refine s_gR C ci12 3 (by decide) (Or.inl wd_6_118) dX9_wholeRecord_9 (fun y1 => ?_)
    refine s_iload_n C 1 dX9_wholeRecord_12 rfl rfl ?_
    refine s_bipush (v := 8) C dX9_wholeRecord_13 (by decide) ?_
    refine s_iadd C dX9_wholeRecord_15 ?_
    refine s_invS_i C cy_X9_number2 (Or.inl wd_7_146) wd_7_147 (con_X9_number2 l G y1 (i1 + 8)) rfl rfl (Nat.le_of_ble_eq_true rfl) (by rw [hF]; decide) (by rw [hO]; exact Nat.le_of_ble_eq_true rfl) dX9_wholeRecord_16 (fun x2 => ?_)
    refine s_istore_n (lv' := [(3, .int x2), (0, .ref a0), (1, .int i1), (2, .int i2)]) C dX9_wholeRecord_19 rfl (by decide) rfl ?_
    refine s_aload_n C 1 dX9_wholeRecord_20 rfl rfl ?_
    refine s_gR C ci12 3 (by decide) (Or.inl wd_6_118) dX9_wholeRecord_21 (fun y3 => ?_)
    refine s_iload_n C 2 dX9_wholeRecord_24 rfl rfl ?_
    refine s_bipush (v := 10) C dX9_wholeRecord_25 (by decide) ?_
    refine s_iadd C dX9_wholeRecord_27 ?_
    refine s_invS_i C cy_X9_number4 (Or.inl wd_7_143) wd_7_144 (con_X9_number4 l G y3 (i1 + 10)) rfl rfl (Nat.le_of_ble_eq_true rfl) (by rw [hF]; decide) (by rw [hO]; exact Nat.le_of_ble_eq_true rfl) dX9_wholeRecord_28 (fun x4 => ?_)
    refine s_istore (lv' := [(4, .int x4), (3, .int x2), (0, .ref a0), (1, .int i1), (2, .int i2)]) C dX9_wholeRecord_31 (by decide) rfl ?_
    refine s_aload_n C 2 dX9_wholeRecord_33 rfl rfl ?_
    refine s_gR C ci12 3 (by decide) (Or.inl wd_6_118) dX9_wholeRecord_34 (fun y5 => ?_)
    refine s_iload_n C 3 dX9_wholeRecord_37 rfl rfl ?_
    refine s_iconst (v := 4) C dX9_wholeRecord_38 (by decide) ?_
    refine s_iadd C dX9_wholeRecord_39 ?_
    refine s_invS_i C cy_X9_number4 (Or.inl wd_7_143) wd_7_144 (con_X9_number4 l G y5 (i1 + 4)) rfl rfl (Nat.le_of_ble_eq_true rfl) (by rw [hF]; decide) (by rw [hO]; exact Nat.le_of_ble_eq_true rfl) dX9_wholeRecord_40 (fun x6 => ?_)
    refine s_iload_n C 1 dX9_wholeRecord_43 rfl rfl ?_
    refine s_iload C 0 dX9_wholeRecord_44 rfl ?_
    refine s_invS_i C cy_X9_isTold (Or.inl wd_7_196) wd_7_197 (con_X9_isTold l G x6 x2 x4) rfl rfl (Nat.le_of_ble_eq_true rfl) (by rw [hF]; decide) (by rw [hO]; exact Nat.le_of_ble_eq_true rfl) dX9_wholeRecord_46 (fun x7 => ?_)
    refine s_if_ne (tgt := 54) C dX9_wholeRecord_49 (by decide) ?_ ?_
    · refine s_iload_n C 1 dX9_wholeRecord_54 rfl rfl ?_
      refine s_iload C 0 dX9_wholeRecord_55 rfl ?_
      refine s_invS_i C cy_X9_bytesOf (Or.inl wd_7_55) wd_7_56 (con_X9_bytesOf l G x2 x4) rfl rfl (Nat.le_of_ble_eq_true rfl) (by rw [hF]; decide) (by rw [hO]; exact Nat.le_of_ble_eq_true rfl) dX9_wholeRecord_57 (fun x8 => ?_)
      refine s_istore (lv' := [(5, .int x8), (4, .int x4), (3, .int x2), (0, .ref a0), (1, .int i1), (2, .int i2)]) C dX9_wholeRecord_60 (by decide) rfl ?_
      refine s_iload C 0 dX9_wholeRecord_62 rfl ?_
      refine s_iload_n C 5 dX9_wholeRecord_64 rfl rfl ?_
      refine s_icmp_gt (tgt := 98) C dX9_wholeRecord_65 (by decide) ?_ ?_
      · refine s_iconst (v := 0) C dX9_wholeRecord_98 (by decide) ?_
        exact s_iret C hr rfl dX9_wholeRecord_99
      refine s_aload_n C 3 dX9_wholeRecord_68 rfl rfl ?_
      refine s_gR C ci12 3 (by decide) (Or.inl wd_6_118) dX9_wholeRecord_69 (fun y9 => ?_)
      refine s_iload_n C 4 dX9_wholeRecord_72 rfl rfl ?_
      refine s_iconst (v := 4) C dX9_wholeRecord_73 (by decide) ?_
      refine s_iadd C dX9_wholeRecord_74 ?_
      refine s_iload_n C 4 dX9_wholeRecord_75 rfl rfl ?_
      refine s_iload C 0 dX9_wholeRecord_76 rfl ?_
      refine s_iadd C dX9_wholeRecord_78 ?_
      refine s_invS_i C cy_X9_sum (Or.inl wd_7_88) wd_7_89 (con_X9_sum l G y9 (i1 + 4) (i1 + x8)) rfl rfl (Nat.le_of_ble_eq_true rfl) (by rw [hF]; decide) (by rw [hO]; exact Nat.le_of_ble_eq_true rfl) dX9_wholeRecord_79 (fun x10 => ?_)
      refine s_aload_n C 3 dX9_wholeRecord_82 rfl rfl ?_
      refine s_gR C ci12 3 (by decide) (Or.inl wd_6_118) dX9_wholeRecord_83 (fun y11 => ?_)
      refine s_iload_n C 4 dX9_wholeRecord_86 rfl rfl ?_
      refine s_invS_i C cy_X9_number4 (Or.inl wd_7_143) wd_7_144 (con_X9_number4 l G y11 i1) rfl rfl (Nat.le_of_ble_eq_true rfl) (by rw [hF]; decide) (by rw [hO]; exact Nat.le_of_ble_eq_true rfl) dX9_wholeRecord_87 (fun x12 => ?_)
      refine s_icmp_ne (tgt := 98) C dX9_wholeRecord_90 (by decide) ?_ ?_
      · refine s_iconst (v := 0) C dX9_wholeRecord_98 (by decide) ?_
        exact s_iret C hr rfl dX9_wholeRecord_99
      refine s_iload C 0 dX9_wholeRecord_93 rfl ?_
      refine s_goto (tgt := 99) C dX9_wholeRecord_95 (by decide) ?_
      exact s_iret C hr rfl dX9_wholeRecord_99
    refine s_iconst (v := 0) C dX9_wholeRecord_52 (by decide) ?_
    exact s_iret C hr rfl dX9_wholeRecord_53
  refine s_iconst (v := 0) C dX9_wholeRecord_6 (by decide) ?_
  exact s_iret C hr rfl dX9_wholeRecord_7

theorem dX9_readsData_0 : decode cX9_readsData 0 = .ok (.aload_n 0, 1) := by decide +kernel
theorem dX9_readsData_1 : decode cX9_readsData 1 = .ok (.iload_n 1, 1) := by decide +kernel
theorem dX9_readsData_2 : decode cX9_readsData 2 = .ok (.invokevirtual 153, 3) := by decide +kernel
theorem dX9_readsData_5 : decode cX9_readsData 5 = .ok (.istore_n 2, 1) := by decide +kernel
theorem dX9_readsData_6 : decode cX9_readsData 6 = .ok (.iconst 0, 1) := by decide +kernel
theorem dX9_readsData_7 : decode cX9_readsData 7 = .ok (.istore_n 3, 1) := by decide +kernel
theorem dX9_readsData_8 : decode cX9_readsData 8 = .ok (.aload_n 0, 1) := by decide +kernel
theorem dX9_readsData_9 : decode cX9_readsData 9 = .ok (.iload_n 2, 1) := by decide +kernel
theorem dX9_readsData_10 : decode cX9_readsData 10 = .ok (.aload_n 0, 1) := by decide +kernel
theorem dX9_readsData_11 : decode cX9_readsData 11 = .ok (.getfield 20, 3) := by decide +kernel
theorem dX9_readsData_14 : decode cX9_readsData 14 = .ok (.iload_n 1, 1) := by decide +kernel
theorem dX9_readsData_15 : decode cX9_readsData 15 = .ok (.iaload, 1) := by decide +kernel
theorem dX9_readsData_16 : decode cX9_readsData 16 = .ok (.invokevirtual 270, 3) := by decide +kernel
theorem dX9_readsData_19 : decode cX9_readsData 19 = .ok (.istore 4, 2) := by decide +kernel
theorem dX9_readsData_21 : decode cX9_readsData 21 = .ok (.iload 4, 2) := by decide +kernel
theorem dX9_readsData_23 : decode cX9_readsData 23 = .ok (.ifCond .le 122, 3) := by decide +kernel
theorem dX9_readsData_26 : decode cX9_readsData 26 = .ok (.aload_n 0, 1) := by decide +kernel
theorem dX9_readsData_27 : decode cX9_readsData 27 = .ok (.aload_n 0, 1) := by decide +kernel
theorem dX9_readsData_28 : decode cX9_readsData 28 = .ok (.getfield 9, 3) := by decide +kernel
theorem dX9_readsData_31 : decode cX9_readsData 31 = .ok (.iload_n 2, 1) := by decide +kernel
theorem dX9_readsData_32 : decode cX9_readsData 32 = .ok (.iload_n 3, 1) := by decide +kernel
theorem dX9_readsData_33 : decode cX9_readsData 33 = .ok (.iadd, 1) := by decide +kernel
theorem dX9_readsData_34 : decode cX9_readsData 34 = .ok (.bipush 14, 2) := by decide +kernel
theorem dX9_readsData_36 : decode cX9_readsData 36 = .ok (.iadd, 1) := by decide +kernel
theorem dX9_readsData_37 : decode cX9_readsData 37 = .ok (.aload_n 0, 1) := by decide +kernel
theorem dX9_readsData_38 : decode cX9_readsData 38 = .ok (.getfield 9, 3) := by decide +kernel
theorem dX9_readsData_41 : decode cX9_readsData 41 = .ok (.iload_n 2, 1) := by decide +kernel
theorem dX9_readsData_42 : decode cX9_readsData 42 = .ok (.iload_n 3, 1) := by decide +kernel
theorem dX9_readsData_43 : decode cX9_readsData 43 = .ok (.iadd, 1) := by decide +kernel
theorem dX9_readsData_44 : decode cX9_readsData 44 = .ok (.bipush 8, 2) := by decide +kernel
theorem dX9_readsData_46 : decode cX9_readsData 46 = .ok (.iadd, 1) := by decide +kernel
theorem dX9_readsData_47 : decode cX9_readsData 47 = .ok (.invokestatic 201, 3) := by decide +kernel
theorem dX9_readsData_50 : decode cX9_readsData 50 = .ok (.aload_n 0, 1) := by decide +kernel
theorem dX9_readsData_51 : decode cX9_readsData 51 = .ok (.getfield 13, 3) := by decide +kernel
theorem dX9_readsData_54 : decode cX9_readsData 54 = .ok (.iload_n 1, 1) := by decide +kernel
theorem dX9_readsData_55 : decode cX9_readsData 55 = .ok (.iaload, 1) := by decide +kernel
theorem dX9_readsData_56 : decode cX9_readsData 56 = .ok (.iload_n 3, 1) := by decide +kernel
theorem dX9_readsData_57 : decode cX9_readsData 57 = .ok (.aload_n 0, 1) := by decide +kernel
theorem dX9_readsData_58 : decode cX9_readsData 58 = .ok (.getfield 9, 3) := by decide +kernel
theorem dX9_readsData_61 : decode cX9_readsData 61 = .ok (.iload_n 2, 1) := by decide +kernel
theorem dX9_readsData_62 : decode cX9_readsData 62 = .ok (.iload_n 3, 1) := by decide +kernel
theorem dX9_readsData_63 : decode cX9_readsData 63 = .ok (.iadd, 1) := by decide +kernel
theorem dX9_readsData_64 : decode cX9_readsData 64 = .ok (.bipush 10, 2) := by decide +kernel
theorem dX9_readsData_66 : decode cX9_readsData 66 = .ok (.iadd, 1) := by decide +kernel
theorem dX9_readsData_67 : decode cX9_readsData 67 = .ok (.invokestatic 197, 3) := by decide +kernel
theorem dX9_readsData_70 : decode cX9_readsData 70 = .ok (.aload_n 0, 1) := by decide +kernel
theorem dX9_readsData_71 : decode cX9_readsData 71 = .ok (.getfield 9, 3) := by decide +kernel
theorem dX9_readsData_74 : decode cX9_readsData 74 = .ok (.iload_n 2, 1) := by decide +kernel
theorem dX9_readsData_75 : decode cX9_readsData 75 = .ok (.iload_n 3, 1) := by decide +kernel
theorem dX9_readsData_76 : decode cX9_readsData 76 = .ok (.iadd, 1) := by decide +kernel
theorem dX9_readsData_77 : decode cX9_readsData 77 = .ok (.iconst 4, 1) := by decide +kernel
theorem dX9_readsData_78 : decode cX9_readsData 78 = .ok (.iadd, 1) := by decide +kernel
theorem dX9_readsData_79 : decode cX9_readsData 79 = .ok (.invokestatic 197, 3) := by decide +kernel
theorem dX9_readsData_82 : decode cX9_readsData 82 = .ok (.invokevirtual 267, 3) := by decide +kernel
theorem dX9_readsData_85 : decode cX9_readsData 85 = .ok (.aload_n 0, 1) := by decide +kernel
theorem dX9_readsData_86 : decode cX9_readsData 86 = .ok (.dup, 1) := by decide +kernel
theorem dX9_readsData_87 : decode cX9_readsData 87 = .ok (.getfield 118, 3) := by decide +kernel
theorem dX9_readsData_90 : decode cX9_readsData 90 = .ok (.iconst 1, 1) := by decide +kernel
theorem dX9_readsData_91 : decode cX9_readsData 91 = .ok (.iadd, 1) := by decide +kernel
theorem dX9_readsData_92 : decode cX9_readsData 92 = .ok (.putfield 118, 3) := by decide +kernel
theorem dX9_readsData_95 : decode cX9_readsData 95 = .ok (.aload_n 0, 1) := by decide +kernel
theorem dX9_readsData_96 : decode cX9_readsData 96 = .ok (.aload_n 0, 1) := by decide +kernel
theorem dX9_readsData_97 : decode cX9_readsData 97 = .ok (.getfield 134, 3) := by decide +kernel
theorem dX9_readsData_100 : decode cX9_readsData 100 = .ok (.aload_n 0, 1) := by decide +kernel
theorem dX9_readsData_101 : decode cX9_readsData 101 = .ok (.getfield 9, 3) := by decide +kernel
theorem dX9_readsData_104 : decode cX9_readsData 104 = .ok (.iload_n 2, 1) := by decide +kernel
theorem dX9_readsData_105 : decode cX9_readsData 105 = .ok (.iload_n 3, 1) := by decide +kernel
theorem dX9_readsData_106 : decode cX9_readsData 106 = .ok (.iadd, 1) := by decide +kernel
theorem dX9_readsData_107 : decode cX9_readsData 107 = .ok (.iconst 4, 1) := by decide +kernel
theorem dX9_readsData_108 : decode cX9_readsData 108 = .ok (.iadd, 1) := by decide +kernel
theorem dX9_readsData_109 : decode cX9_readsData 109 = .ok (.invokestatic 197, 3) := by decide +kernel
theorem dX9_readsData_112 : decode cX9_readsData 112 = .ok (.iconst 1, 1) := by decide +kernel
theorem dX9_readsData_113 : decode cX9_readsData 113 = .ok (.iadd, 1) := by decide +kernel
theorem dX9_readsData_114 : decode cX9_readsData 114 = .ok (.invokestatic 164, 3) := by decide +kernel
theorem dX9_readsData_117 : decode cX9_readsData 117 = .ok (.putfield 134, 3) := by decide +kernel
theorem dX9_readsData_120 : decode cX9_readsData 120 = .ok (.iload_n 3, 1) := by decide +kernel
theorem dX9_readsData_121 : decode cX9_readsData 121 = .ok (.iload 4, 2) := by decide +kernel
theorem dX9_readsData_123 : decode cX9_readsData 123 = .ok (.iadd, 1) := by decide +kernel
theorem dX9_readsData_124 : decode cX9_readsData 124 = .ok (.istore_n 3, 1) := by decide +kernel
theorem dX9_readsData_125 : decode cX9_readsData 125 = .ok (.aload_n 0, 1) := by decide +kernel
theorem dX9_readsData_126 : decode cX9_readsData 126 = .ok (.iload_n 2, 1) := by decide +kernel
theorem dX9_readsData_127 : decode cX9_readsData 127 = .ok (.iload_n 3, 1) := by decide +kernel
theorem dX9_readsData_128 : decode cX9_readsData 128 = .ok (.iadd, 1) := by decide +kernel
theorem dX9_readsData_129 : decode cX9_readsData 129 = .ok (.aload_n 0, 1) := by decide +kernel
theorem dX9_readsData_130 : decode cX9_readsData 130 = .ok (.getfield 20, 3) := by decide +kernel
theorem dX9_readsData_133 : decode cX9_readsData 133 = .ok (.iload_n 1, 1) := by decide +kernel
theorem dX9_readsData_134 : decode cX9_readsData 134 = .ok (.iaload, 1) := by decide +kernel
theorem dX9_readsData_135 : decode cX9_readsData 135 = .ok (.iload_n 3, 1) := by decide +kernel
theorem dX9_readsData_136 : decode cX9_readsData 136 = .ok (.isub, 1) := by decide +kernel
theorem dX9_readsData_137 : decode cX9_readsData 137 = .ok (.invokevirtual 270, 3) := by decide +kernel
theorem dX9_readsData_140 : decode cX9_readsData 140 = .ok (.istore 4, 2) := by decide +kernel
theorem dX9_readsData_142 : decode cX9_readsData 142 = .ok (.goto (-121), 3) := by decide +kernel
theorem dX9_readsData_145 : decode cX9_readsData 145 = .ok (.aload_n 0, 1) := by decide +kernel
theorem dX9_readsData_146 : decode cX9_readsData 146 = .ok (.getfield 20, 3) := by decide +kernel
theorem dX9_readsData_149 : decode cX9_readsData 149 = .ok (.iload_n 1, 1) := by decide +kernel
theorem dX9_readsData_150 : decode cX9_readsData 150 = .ok (.iaload, 1) := by decide +kernel
theorem dX9_readsData_151 : decode cX9_readsData 151 = .ok (.iload_n 3, 1) := by decide +kernel
theorem dX9_readsData_152 : decode cX9_readsData 152 = .ok (.isub, 1) := by decide +kernel
theorem dX9_readsData_153 : decode cX9_readsData 153 = .ok (.istore 5, 2) := by decide +kernel
theorem dX9_readsData_155 : decode cX9_readsData 155 = .ok (.aload_n 0, 1) := by decide +kernel
theorem dX9_readsData_156 : decode cX9_readsData 156 = .ok (.dup, 1) := by decide +kernel
theorem dX9_readsData_157 : decode cX9_readsData 157 = .ok (.getfield 121, 3) := by decide +kernel
theorem dX9_readsData_160 : decode cX9_readsData 160 = .ok (.iload 5, 2) := by decide +kernel
theorem dX9_readsData_162 : decode cX9_readsData 162 = .ok (.iadd, 1) := by decide +kernel
theorem dX9_readsData_163 : decode cX9_readsData 163 = .ok (.putfield 121, 3) := by decide +kernel
theorem dX9_readsData_166 : decode cX9_readsData 166 = .ok (.iload_n 3, 1) := by decide +kernel
theorem dX9_readsData_167 : decode cX9_readsData 167 = .ok (.ifCond .ne 17, 3) := by decide +kernel
theorem dX9_readsData_170 : decode cX9_readsData 170 = .ok (.aload_n 0, 1) := by decide +kernel
theorem dX9_readsData_171 : decode cX9_readsData 171 = .ok (.aload_n 0, 1) := by decide +kernel
theorem dX9_readsData_172 : decode cX9_readsData 172 = .ok (.getfield 13, 3) := by decide +kernel
theorem dX9_readsData_175 : decode cX9_readsData 175 = .ok (.iload_n 1, 1) := by decide +kernel
theorem dX9_readsData_176 : decode cX9_readsData 176 = .ok (.iaload, 1) := by decide +kernel
theorem dX9_readsData_177 : decode cX9_readsData 177 = .ok (.iconst 0, 1) := by decide +kernel
theorem dX9_readsData_178 : decode cX9_readsData 178 = .ok (.invokevirtual 260, 3) := by decide +kernel
theorem dX9_readsData_181 : decode cX9_readsData 181 = .ok (.goto 10, 3) := by decide +kernel
theorem dX9_readsData_184 : decode cX9_readsData 184 = .ok (.aload_n 0, 1) := by decide +kernel
theorem dX9_readsData_185 : decode cX9_readsData 185 = .ok (.iload_n 1, 1) := by decide +kernel
theorem dX9_readsData_186 : decode cX9_readsData 186 = .ok (.iload 5, 2) := by decide +kernel
theorem dX9_readsData_188 : decode cX9_readsData 188 = .ok (.invokevirtual 160, 3) := by decide +kernel
theorem dX9_readsData_191 : decode cX9_readsData 191 = .ok (.return_, 1) := by decide +kernel
def X9_readsData_b21b  (k21 : Nat → Int32 → Int32 → Int32 → Int32 → M Unit) (a0 : Nat) (i1 : Int32) (i2 : Int32) (i3 : Int32) (i4 : Int32) : M Unit := it (i4 ≤ 0) (bd (gR 12 7 a0) (fun y1 => bd (al 22 y1 i1) (fun x2 => bd (pu (x2 - i3)) (fun x3 => bd (gI 12 21 a0) (fun x4 => bd (pV 12 21 a0 (.int (x4 + x3))) (fun _ => it (¬ i3 = 0) (bd (ck 12 a0) (fun _ => bd (X9_loses a0 i1 x3) (fun _ => pu ()))) (bd (gR 12 5 a0) (fun y5 => bd (al 22 y5 i1) (fun x6 => bd (ck 12 a0) (fun _ => bd (X9_removes a0 x6 0) (fun _ => pu ()))))))))))) (bd (gR 12 3 a0) (fun y7 => bd (gR 12 3 a0) (fun y8 => bd (X9_number2 y8 ((i2 + i3) + 8)) (fun x9 => bd (gR 12 5 a0) (fun y10 => bd (al 22 y10 i1) (fun x11 => bd (gR 12 3 a0) (fun y12 => bd (X9_number4 y12 ((i2 + i3) + 10)) (fun x13 => bd (gR 12 3 a0) (fun y14 => bd (X9_number4 y14 ((i2 + i3) + 4)) (fun x15 => bd (ck 12 a0) (fun _ => bd (X9_counts a0 y7 ((i2 + i3) + 14) x9 x11 i3 x13 x15) (fun _ => bd (gI 12 20 a0) (fun x16 => bd (pV 12 20 a0 (.int (x16 + 1))) (fun _ => bd (gI 12 25 a0) (fun x17 => bd (gR 12 3 a0) (fun y18 => bd (X9_number4 y18 ((i2 + i3) + 4)) (fun x19 => bd (pV 12 25 a0 (.int (imx x17 (x19 + 1)))) (fun _ => bd (pu (i3 + i4)) (fun x20 => bd (gR 12 7 a0) (fun y21 => bd (al 22 y21 i1) (fun x22 => bd (ck 12 a0) (fun _ => bd (X9_wholeRecord a0 (i2 + x20) (x22 - x20)) (fun x23 => k21 a0 i1 i2 x20 x23)))))))))))))))))))))))
def X9_readsData_b21  : Nat → Nat → Int32 → Int32 → Int32 → Int32 → M Unit
  | 0 => fun _ _ _ _ _ => fl
  | n + 1 => fun a0 i1 i2 i3 i4 => X9_readsData_b21b  (X9_readsData_b21  n) a0 i1 i2 i3 i4
def X9_readsData (a0 : Nat) (i1 : Int32) : M Unit := bd (ck 12 a0) (fun _ => bd (X9_startOf a0 i1) (fun x1 => bd (gR 12 7 a0) (fun y2 => bd (al 22 y2 i1) (fun x3 => bd (ck 12 a0) (fun _ => bd (X9_wholeRecord a0 x1 x3) (fun x4 => X9_readsData_b21  FU a0 i1 x1 0 x4))))))
section
variable {G : Gx} {p : Program} {l : Launch} {e : Env} {R : Room} {s : State} {m : MethodId} {args : Array Value} {below : List Frame} {meth : Method} {c : Code} {h0 : Hp} {r : Unit} {h' : Hp}
set_option maxRecDepth 20000 in
theorem X9_readsData_b21b_s (C : Cx G p R s m args meth c cX9_readsData 6 yX9_readsData.cls h0 h') (hF : R.frames = 4) (hO : R.locals = 108) (hr : meth.sig.returnType = none) (hm : meth.name = yX9_readsData.name)  {k21 : Nat → Int32 → Int32 → Int32 → Int32 → M Unit} (hk21 : ∀ (a0 : Nat) (i1 : Int32) (i2 : Int32) (i3 : Int32) (i4 : Int32), Sm G (QM G rvU below args s h0 r h') p l e R s m args below meth c 6 h0 r h' 21 [(0, .ref a0), (1, .int i1), (2, .int i2), (3, .int i3), (4, .int i4)] [] (k21 a0 i1 i2 i3 i4)) (a0 : Nat) (i1 : Int32) (i2 : Int32) (i3 : Int32) (i4 : Int32) : Sm G (QM G rvU below args s h0 r h') p l e R s m args below meth c 6 h0 r h' 21 [(0, .ref a0), (1, .int i1), (2, .int i2), (3, .int i3), (4, .int i4)] [] (X9_readsData_b21b  k21 a0 i1 i2 i3 i4) := by
  refine s_iload C 4 dX9_readsData_21 rfl ?_
  refine s_if_le (tgt := 145) C dX9_readsData_23 (by decide) ?_ ?_
  · refine s_aload_n C 0 dX9_readsData_145 rfl rfl ?_
    refine s_gR C ci12 7 (by decide) (Or.inl wd_6_122) dX9_readsData_146 (fun y1 => ?_)
    refine s_iload_n C 1 dX9_readsData_149 rfl rfl ?_
    refine s_al22 C dX9_readsData_150 (fun x2 => ?_)
    refine s_iload_n C 3 dX9_readsData_151 rfl rfl ?_
    refine s_isub C dX9_readsData_152 ?_
    refine s_let (fun x3 => ?_)
    refine s_istore (lv' := [(5, .int x3), (0, .ref a0), (1, .int i1), (2, .int i2), (3, .int i3), (4, .int i4)]) C dX9_readsData_153 (by decide) rfl ?_
    refine s_aload_n C 1 dX9_readsData_155 rfl rfl ?_
    refine s_dup C dX9_readsData_156 rfl ?_
    refine s_gI C ci12 21 (by decide) (Or.inl wd_6_136) dX9_readsData_157 (fun x4 => ?_)
    refine s_iload C 0 dX9_readsData_160 rfl ?_
    refine s_iadd C dX9_readsData_162 ?_
    refine s_pV C ci12 21 (by decide) rfl (Or.inl wd_6_136) dX9_readsData_163 rfl rfl ?_
    refine s_iload_n C 4 dX9_readsData_166 rfl rfl ?_
    refine s_if_ne (tgt := 184) C dX9_readsData_167 (by decide) ?_ ?_
    · refine s_aload_n C 1 dX9_readsData_184 rfl rfl ?_
      refine s_iload_n C 2 dX9_readsData_185 rfl rfl ?_
      refine s_iload C 0 dX9_readsData_186 rfl ?_
      refine s_invV_u C ci12 cy_X9_loses (Or.inl wd_7_166) rfl wd_7_168 wp_49 (con_X9_loses l G a0 i1 x3) rfl rfl (Nat.le_of_ble_eq_true rfl) (by rw [hF]; decide) (by rw [hO]; exact Nat.le_of_ble_eq_true rfl) dX9_readsData_188 ?_
      exact s_vret C hr rfl dX9_readsData_191
    refine s_aload_n C 1 dX9_readsData_170 rfl rfl ?_
    refine s_aload_n C 1 dX9_readsData_171 rfl rfl ?_
    refine s_gR C ci12 5 (by decide) (Or.inl wd_6_120) dX9_readsData_172 (fun y5 => ?_)
    refine s_iload_n C 2 dX9_readsData_175 rfl rfl ?_
    refine s_al22 C dX9_readsData_176 (fun x6 => ?_)
    refine s_iconst (v := 0) C dX9_readsData_177 (by decide) ?_
    refine s_invV_u C ci12 cy_X9_removes (Or.inl wd_7_184) rfl wd_7_186 wp_52 (con_X9_removes l G a0 x6 0) rfl rfl (Nat.le_of_ble_eq_true rfl) (by rw [hF]; decide) (by rw [hO]; exact Nat.le_of_ble_eq_true rfl) dX9_readsData_178 ?_
    refine s_goto (tgt := 191) C dX9_readsData_181 (by decide) ?_
    exact s_vret C hr rfl dX9_readsData_191
  refine s_aload_n C 0 dX9_readsData_26 rfl rfl ?_
  refine s_aload_n C 0 dX9_readsData_27 rfl rfl ?_
  refine s_gR C ci12 3 (by decide) (Or.inl wd_6_118) dX9_readsData_28 (fun y7 => ?_)
  refine s_iload_n C 2 dX9_readsData_31 rfl rfl ?_
  refine s_iload_n C 3 dX9_readsData_32 rfl rfl ?_
  refine s_iadd C dX9_readsData_33 ?_
  refine s_bipush (v := 14) C dX9_readsData_34 (by decide) ?_
  refine s_iadd C dX9_readsData_36 ?_
  refine s_aload_n C 0 dX9_readsData_37 rfl rfl ?_
  refine s_gR C ci12 3 (by decide) (Or.inl wd_6_118) dX9_readsData_38 (fun y8 => ?_)
  refine s_iload_n C 2 dX9_readsData_41 rfl rfl ?_
  refine s_iload_n C 3 dX9_readsData_42 rfl rfl ?_
  refine s_iadd C dX9_readsData_43 ?_
  refine s_bipush (v := 8) C dX9_readsData_44 (by decide) ?_
  refine s_iadd C dX9_readsData_46 ?_
  refine s_invS_i C cy_X9_number2 (Or.inl wd_7_146) wd_7_147 (con_X9_number2 l G y8 ((i2 + i3) + 8)) rfl rfl (Nat.le_of_ble_eq_true rfl) (by rw [hF]; decide) (by rw [hO]; exact Nat.le_of_ble_eq_true rfl) dX9_readsData_47 (fun x9 => ?_)
  refine s_aload_n C 0 dX9_readsData_50 rfl rfl ?_
  refine s_gR C ci12 5 (by decide) (Or.inl wd_6_120) dX9_readsData_51 (fun y10 => ?_)
  refine s_iload_n C 1 dX9_readsData_54 rfl rfl ?_
  refine s_al22 C dX9_readsData_55 (fun x11 => ?_)
  refine s_iload_n C 3 dX9_readsData_56 rfl rfl ?_
  refine s_aload_n C 0 dX9_readsData_57 rfl rfl ?_
  refine s_gR C ci12 3 (by decide) (Or.inl wd_6_118) dX9_readsData_58 (fun y12 => ?_)
  refine s_iload_n C 2 dX9_readsData_61 rfl rfl ?_
  refine s_iload_n C 3 dX9_readsData_62 rfl rfl ?_
  refine s_iadd C dX9_readsData_63 ?_
  refine s_bipush (v := 10) C dX9_readsData_64 (by decide) ?_
  refine s_iadd C dX9_readsData_66 ?_
  refine s_invS_i C cy_X9_number4 (Or.inl wd_7_143) wd_7_144 (con_X9_number4 l G y12 ((i2 + i3) + 10)) rfl rfl (Nat.le_of_ble_eq_true rfl) (by rw [hF]; decide) (by rw [hO]; exact Nat.le_of_ble_eq_true rfl) dX9_readsData_67 (fun x13 => ?_)
  refine s_aload_n C 0 dX9_readsData_70 rfl rfl ?_
  refine s_gR C ci12 3 (by decide) (Or.inl wd_6_118) dX9_readsData_71 (fun y14 => ?_)
  refine s_iload_n C 2 dX9_readsData_74 rfl rfl ?_
  refine s_iload_n C 3 dX9_readsData_75 rfl rfl ?_
  refine s_iadd C dX9_readsData_76 ?_
  refine s_iconst (v := 4) C dX9_readsData_77 (by decide) ?_
  refine s_iadd C dX9_readsData_78 ?_
  refine s_invS_i C cy_X9_number4 (Or.inl wd_7_143) wd_7_144 (con_X9_number4 l G y14 ((i2 + i3) + 4)) rfl rfl (Nat.le_of_ble_eq_true rfl) (by rw [hF]; decide) (by rw [hO]; exact Nat.le_of_ble_eq_true rfl) dX9_readsData_79 (fun x15 => ?_)
  refine s_invV_u C ci12 cy_X9_counts (Or.inl wd_7_203) rfl wd_7_205 wp_56 (con_X9_counts l G a0 y7 ((i2 + i3) + 14) x9 x11 i3 x13 x15) rfl rfl (Nat.le_of_ble_eq_true rfl) (by rw [hF]; decide) (by rw [hO]; exact Nat.le_of_ble_eq_true rfl) dX9_readsData_82 ?_
  refine s_aload_n C 0 dX9_readsData_85 rfl rfl ?_
  refine s_dup C dX9_readsData_86 rfl ?_
  refine s_gI C ci12 20 (by decide) (Or.inl wd_6_135) dX9_readsData_87 (fun x16 => ?_)
  refine s_iconst (v := 1) C dX9_readsData_90 (by decide) ?_
  refine s_iadd C dX9_readsData_91 ?_
  refine s_pV C ci12 20 (by decide) rfl (Or.inl wd_6_135) dX9_readsData_92 rfl rfl ?_
  refine s_aload_n C 0 dX9_readsData_95 rfl rfl ?_
  refine s_aload_n C 0 dX9_readsData_96 rfl rfl ?_
  refine s_gI C ci12 25 (by decide) (Or.inl wd_6_140) dX9_readsData_97 (fun x17 => ?_)
  refine s_aload_n C 0 dX9_readsData_100 rfl rfl ?_
  refine s_gR C ci12 3 (by decide) (Or.inl wd_6_118) dX9_readsData_101 (fun y18 => ?_)
  refine s_iload_n C 2 dX9_readsData_104 rfl rfl ?_
  refine s_iload_n C 3 dX9_readsData_105 rfl rfl ?_
  refine s_iadd C dX9_readsData_106 ?_
  refine s_iconst (v := 4) C dX9_readsData_107 (by decide) ?_
  refine s_iadd C dX9_readsData_108 ?_
  refine s_invS_i C cy_X9_number4 (Or.inl wd_7_143) wd_7_144 (con_X9_number4 l G y18 ((i2 + i3) + 4)) rfl rfl (Nat.le_of_ble_eq_true rfl) (by rw [hF]; decide) (by rw [hO]; exact Nat.le_of_ble_eq_true rfl) dX9_readsData_109 (fun x19 => ?_)
  refine s_iconst (v := 1) C dX9_readsData_112 (by decide) ?_
  refine s_iadd C dX9_readsData_113 ?_
  refine s_mmax C wd_7_58 wd_2_18 wd_1_14 wd_2_19 (by rw [hF]; decide) (by rw [hO]; exact Nat.le_of_ble_eq_true rfl) dX9_readsData_114 ?_
  refine s_pV C ci12 25 (by decide) rfl (Or.inl wd_6_140) dX9_readsData_117 rfl rfl ?_
  refine s_iload_n C 3 dX9_readsData_120 rfl rfl ?_
  refine s_iload C 4 dX9_readsData_121 rfl ?_
  refine s_iadd C dX9_readsData_123 ?_
  refine s_let (fun x20 => ?_)
  refine s_istore_n (lv' := [(3, .int x20), (0, .ref a0), (1, .int i1), (2, .int i2), (4, .int i4)]) C dX9_readsData_124 rfl (by decide) rfl ?_
  refine s_aload_n C 1 dX9_readsData_125 rfl rfl ?_
  refine s_iload_n C 3 dX9_readsData_126 rfl rfl ?_
  refine s_iload_n C 0 dX9_readsData_127 rfl rfl ?_
  refine s_iadd C dX9_readsData_128 ?_
  refine s_aload_n C 1 dX9_readsData_129 rfl rfl ?_
  refine s_gR C ci12 7 (by decide) (Or.inl wd_6_122) dX9_readsData_130 (fun y21 => ?_)
  refine s_iload_n C 2 dX9_readsData_133 rfl rfl ?_
  refine s_al22 C dX9_readsData_134 (fun x22 => ?_)
  refine s_iload_n C 0 dX9_readsData_135 rfl rfl ?_
  refine s_isub C dX9_readsData_136 ?_
  refine s_invV_i C ci12 cy_X9_wholeRecord (Or.inl wd_7_211) rfl wd_7_213 wp_58 (con_X9_wholeRecord l G a0 (i2 + x20) (x22 - x20)) rfl rfl (Nat.le_of_ble_eq_true rfl) (by rw [hF]; decide) (by rw [hO]; exact Nat.le_of_ble_eq_true rfl) dX9_readsData_137 (fun x23 => ?_)
  refine s_istore (lv' := [(4, .int x23), (3, .int x20), (0, .ref a0), (1, .int i1), (2, .int i2)]) C dX9_readsData_140 (by decide) rfl ?_
  refine s_goto (tgt := 21) C dX9_readsData_142 (by decide) ?_
  refine s_sub [2, 3, 4, 1, 0] rfl ?_
  exact hk21 a0 i1 i2 x20 x23
set_option maxRecDepth 20000 in
theorem X9_readsData_b21_s (C : Cx G p R s m args meth c cX9_readsData 6 yX9_readsData.cls h0 h') (hF : R.frames = 4) (hO : R.locals = 108) (hr : meth.sig.returnType = none) (hm : meth.name = yX9_readsData.name)  (n : Nat) : ∀ (a0 : Nat) (i1 : Int32) (i2 : Int32) (i3 : Int32) (i4 : Int32), Sm G (QM G rvU below args s h0 r h') p l e R s m args below meth c 6 h0 r h' 21 [(0, .ref a0), (1, .int i1), (2, .int i2), (3, .int i3), (4, .int i4)] [] (X9_readsData_b21  n a0 i1 i2 i3 i4) := by
  induction n with
  | zero => intro a0 i1 i2 i3 i4; exact s_fl
  | succ n ih => intro a0 i1 i2 i3 i4; exact X9_readsData_b21b_s C hF hO hr hm  ih a0 i1 i2 i3 i4
end
set_option maxRecDepth 20000 in
theorem con_X9_readsData (l : Launch) (G : Gx) (a0 : Nat) (i1 : Int32) : Con G rvU l yX9_readsData cX9_readsData 6 none 4 108 [.ref a0, .int i1] (X9_readsData a0 i1) := by
  refine con_of (lv := [(0, .ref a0), (1, .int i1)]) (by decide) (Nat.le_of_ble_eq_true rfl) rfl (fun p e R s m args below meth c h0 r h' C hF hO hr hm => ?_)
  refine s_aload_n C 0 dX9_readsData_0 rfl rfl ?_
  refine s_iload_n C 1 dX9_readsData_1 rfl rfl ?_
  refine s_invV_i C ci12 cy_X9_startOf (Or.inl wd_7_96) rfl wd_7_98 wp_39 (con_X9_startOf l G a0 i1) rfl rfl (Nat.le_of_ble_eq_true rfl) (by rw [hF]; decide) (by rw [hO]; exact Nat.le_of_ble_eq_true rfl) dX9_readsData_2 (fun x1 => ?_)
  refine s_istore_n (lv' := [(2, .int x1), (0, .ref a0), (1, .int i1)]) C dX9_readsData_5 rfl (by decide) rfl ?_
  refine s_iconst (v := 0) C dX9_readsData_6 (by decide) ?_
  refine s_istore_n (lv' := [(3, .int 0), (2, .int x1), (0, .ref a0), (1, .int i1)]) C dX9_readsData_7 rfl (by decide) rfl ?_
  refine s_aload_n C 2 dX9_readsData_8 rfl rfl ?_
  refine s_iload_n C 1 dX9_readsData_9 rfl rfl ?_
  refine s_aload_n C 2 dX9_readsData_10 rfl rfl ?_
  refine s_gR C ci12 7 (by decide) (Or.inl wd_6_122) dX9_readsData_11 (fun y2 => ?_)
  refine s_iload_n C 3 dX9_readsData_14 rfl rfl ?_
  refine s_al22 C dX9_readsData_15 (fun x3 => ?_)
  refine s_invV_i C ci12 cy_X9_wholeRecord (Or.inl wd_7_211) rfl wd_7_213 wp_58 (con_X9_wholeRecord l G a0 x1 x3) rfl rfl (Nat.le_of_ble_eq_true rfl) (by rw [hF]; decide) (by rw [hO]; exact Nat.le_of_ble_eq_true rfl) dX9_readsData_16 (fun x4 => ?_)
  refine s_istore (lv' := [(4, .int x4), (3, .int 0), (2, .int x1), (0, .ref a0), (1, .int i1)]) C dX9_readsData_19 (by decide) rfl ?_
  refine s_sub [3, 4, 2, 1, 0] rfl ?_
  exact X9_readsData_b21_s C hF hO hr hm  FU a0 i1 x1 0 x4

theorem dX9_open_0 : decode cX9_open 0 = .ok (.aload_n 0, 1) := by decide +kernel
theorem dX9_open_1 : decode cX9_open 1 = .ok (.aload_n 0, 1) := by decide +kernel
theorem dX9_open_2 : decode cX9_open 2 = .ok (.getfield 127, 3) := by decide +kernel
theorem dX9_open_5 : decode cX9_open 5 = .ok (.ifCond .eq 7, 3) := by decide +kernel
theorem dX9_open_8 : decode cX9_open 8 = .ok (.iconst 1, 1) := by decide +kernel
theorem dX9_open_9 : decode cX9_open 9 = .ok (.goto 4, 3) := by decide +kernel
theorem dX9_open_12 : decode cX9_open 12 = .ok (.iconst 0, 1) := by decide +kernel
theorem dX9_open_13 : decode cX9_open 13 = .ok (.putfield 93, 3) := by decide +kernel
theorem dX9_open_16 : decode cX9_open 16 = .ok (.aload_n 0, 1) := by decide +kernel
theorem dX9_open_17 : decode cX9_open 17 = .ok (.getfield 93, 3) := by decide +kernel
theorem dX9_open_20 : decode cX9_open 20 = .ok (.ifCond .le 5, 3) := by decide +kernel
theorem dX9_open_23 : decode cX9_open 23 = .ok (.iconst 0, 1) := by decide +kernel
theorem dX9_open_24 : decode cX9_open 24 = .ok (.ireturn, 1) := by decide +kernel
theorem dX9_open_25 : decode cX9_open 25 = .ok (.aload_n 0, 1) := by decide +kernel
theorem dX9_open_26 : decode cX9_open 26 = .ok (.iconst 0, 1) := by decide +kernel
theorem dX9_open_27 : decode cX9_open 27 = .ok (.putfield 115, 3) := by decide +kernel
theorem dX9_open_30 : decode cX9_open 30 = .ok (.aload_n 0, 1) := by decide +kernel
theorem dX9_open_31 : decode cX9_open 31 = .ok (.iconst 0, 1) := by decide +kernel
theorem dX9_open_32 : decode cX9_open 32 = .ok (.putfield 118, 3) := by decide +kernel
theorem dX9_open_35 : decode cX9_open 35 = .ok (.aload_n 0, 1) := by decide +kernel
theorem dX9_open_36 : decode cX9_open 36 = .ok (.iconst 0, 1) := by decide +kernel
theorem dX9_open_37 : decode cX9_open 37 = .ok (.putfield 121, 3) := by decide +kernel
theorem dX9_open_40 : decode cX9_open 40 = .ok (.aload_n 0, 1) := by decide +kernel
theorem dX9_open_41 : decode cX9_open 41 = .ok (.iconst 0, 1) := by decide +kernel
theorem dX9_open_42 : decode cX9_open 42 = .ok (.putfield 124, 3) := by decide +kernel
theorem dX9_open_45 : decode cX9_open 45 = .ok (.aload_n 0, 1) := by decide +kernel
theorem dX9_open_46 : decode cX9_open 46 = .ok (.iconst 1, 1) := by decide +kernel
theorem dX9_open_47 : decode cX9_open 47 = .ok (.putfield 131, 3) := by decide +kernel
theorem dX9_open_50 : decode cX9_open 50 = .ok (.iconst 0, 1) := by decide +kernel
theorem dX9_open_51 : decode cX9_open 51 = .ok (.istore_n 1, 1) := by decide +kernel
theorem dX9_open_52 : decode cX9_open 52 = .ok (.iload_n 1, 1) := by decide +kernel
theorem dX9_open_53 : decode cX9_open 53 = .ok (.aload_n 0, 1) := by decide +kernel
theorem dX9_open_54 : decode cX9_open 54 = .ok (.getfield 106, 3) := by decide +kernel
theorem dX9_open_57 : decode cX9_open 57 = .ok (.if_icmp .ge 28, 3) := by decide +kernel
theorem dX9_open_60 : decode cX9_open 60 = .ok (.aload_n 0, 1) := by decide +kernel
theorem dX9_open_61 : decode cX9_open 61 = .ok (.aload_n 0, 1) := by decide +kernel
theorem dX9_open_62 : decode cX9_open 62 = .ok (.getfield 131, 3) := by decide +kernel
theorem dX9_open_65 : decode cX9_open 65 = .ok (.aload_n 0, 1) := by decide +kernel
theorem dX9_open_66 : decode cX9_open 66 = .ok (.getfield 13, 3) := by decide +kernel
theorem dX9_open_69 : decode cX9_open 69 = .ok (.iload_n 1, 1) := by decide +kernel
theorem dX9_open_70 : decode cX9_open 70 = .ok (.iaload, 1) := by decide +kernel
theorem dX9_open_71 : decode cX9_open 71 = .ok (.iconst 1, 1) := by decide +kernel
theorem dX9_open_72 : decode cX9_open 72 = .ok (.iadd, 1) := by decide +kernel
theorem dX9_open_73 : decode cX9_open 73 = .ok (.invokestatic 164, 3) := by decide +kernel
theorem dX9_open_76 : decode cX9_open 76 = .ok (.putfield 131, 3) := by decide +kernel
theorem dX9_open_79 : decode cX9_open 79 = .ok (.iinc 1 1, 3) := by decide +kernel
theorem dX9_open_82 : decode cX9_open 82 = .ok (.goto (-30), 3) := by decide +kernel
theorem dX9_open_85 : decode cX9_open 85 = .ok (.aload_n 0, 1) := by decide +kernel
theorem dX9_open_86 : decode cX9_open 86 = .ok (.invokevirtual 273, 3) := by decide +kernel
theorem dX9_open_89 : decode cX9_open 89 = .ok (.aload_n 0, 1) := by decide +kernel
theorem dX9_open_90 : decode cX9_open 90 = .ok (.invokevirtual 276, 3) := by decide +kernel
theorem dX9_open_93 : decode cX9_open 93 = .ok (.aload_n 0, 1) := by decide +kernel
theorem dX9_open_94 : decode cX9_open 94 = .ok (.iconst 0, 1) := by decide +kernel
theorem dX9_open_95 : decode cX9_open 95 = .ok (.putfield 140, 3) := by decide +kernel
theorem dX9_open_98 : decode cX9_open 98 = .ok (.aload_n 0, 1) := by decide +kernel
theorem dX9_open_99 : decode cX9_open 99 = .ok (.iconst 1, 1) := by decide +kernel
theorem dX9_open_100 : decode cX9_open 100 = .ok (.putfield 134, 3) := by decide +kernel
theorem dX9_open_103 : decode cX9_open 103 = .ok (.iconst 0, 1) := by decide +kernel
theorem dX9_open_104 : decode cX9_open 104 = .ok (.istore_n 1, 1) := by decide +kernel
theorem dX9_open_105 : decode cX9_open 105 = .ok (.iload_n 1, 1) := by decide +kernel
theorem dX9_open_106 : decode cX9_open 106 = .ok (.aload_n 0, 1) := by decide +kernel
theorem dX9_open_107 : decode cX9_open 107 = .ok (.getfield 106, 3) := by decide +kernel
theorem dX9_open_110 : decode cX9_open 110 = .ok (.if_icmp .ge 85, 3) := by decide +kernel
theorem dX9_open_113 : decode cX9_open 113 = .ok (.aload_n 0, 1) := by decide +kernel
theorem dX9_open_114 : decode cX9_open 114 = .ok (.getfield 13, 3) := by decide +kernel
theorem dX9_open_117 : decode cX9_open 117 = .ok (.iload_n 1, 1) := by decide +kernel
theorem dX9_open_118 : decode cX9_open 118 = .ok (.iaload, 1) := by decide +kernel
theorem dX9_open_119 : decode cX9_open 119 = .ok (.istore_n 2, 1) := by decide +kernel
theorem dX9_open_120 : decode cX9_open 120 = .ok (.aload_n 0, 1) := by decide +kernel
theorem dX9_open_121 : decode cX9_open 121 = .ok (.iload_n 2, 1) := by decide +kernel
theorem dX9_open_122 : decode cX9_open 122 = .ok (.iconst 1, 1) := by decide +kernel
theorem dX9_open_123 : decode cX9_open 123 = .ok (.invokevirtual 149, 3) := by decide +kernel
theorem dX9_open_126 : decode cX9_open 126 = .ok (.istore_n 3, 1) := by decide +kernel
theorem dX9_open_127 : decode cX9_open 127 = .ok (.iload_n 3, 1) := by decide +kernel
theorem dX9_open_128 : decode cX9_open 128 = .ok (.ifCond .lt 25, 3) := by decide +kernel
theorem dX9_open_131 : decode cX9_open 131 = .ok (.aload_n 0, 1) := by decide +kernel
theorem dX9_open_132 : decode cX9_open 132 = .ok (.iload_n 3, 1) := by decide +kernel
theorem dX9_open_133 : decode cX9_open 133 = .ok (.aload_n 0, 1) := by decide +kernel
theorem dX9_open_134 : decode cX9_open 134 = .ok (.getfield 20, 3) := by decide +kernel
theorem dX9_open_137 : decode cX9_open 137 = .ok (.iload_n 1, 1) := by decide +kernel
theorem dX9_open_138 : decode cX9_open 138 = .ok (.iaload, 1) := by decide +kernel
theorem dX9_open_139 : decode cX9_open 139 = .ok (.invokevirtual 279, 3) := by decide +kernel
theorem dX9_open_142 : decode cX9_open 142 = .ok (.ifCond .eq 11, 3) := by decide +kernel
theorem dX9_open_145 : decode cX9_open 145 = .ok (.aload_n 0, 1) := by decide +kernel
theorem dX9_open_146 : decode cX9_open 146 = .ok (.iload_n 3, 1) := by decide +kernel
theorem dX9_open_147 : decode cX9_open 147 = .ok (.invokevirtual 283, 3) := by decide +kernel
theorem dX9_open_150 : decode cX9_open 150 = .ok (.goto 18, 3) := by decide +kernel
theorem dX9_open_153 : decode cX9_open 153 = .ok (.iload_n 3, 1) := by decide +kernel
theorem dX9_open_154 : decode cX9_open 154 = .ok (.ifCond .lt 9, 3) := by decide +kernel
theorem dX9_open_157 : decode cX9_open 157 = .ok (.aload_n 0, 1) := by decide +kernel
theorem dX9_open_158 : decode cX9_open 158 = .ok (.iload_n 2, 1) := by decide +kernel
theorem dX9_open_159 : decode cX9_open 159 = .ok (.iconst 1, 1) := by decide +kernel
theorem dX9_open_160 : decode cX9_open 160 = .ok (.invokevirtual 260, 3) := by decide +kernel
theorem dX9_open_163 : decode cX9_open 163 = .ok (.aload_n 0, 1) := by decide +kernel
theorem dX9_open_164 : decode cX9_open 164 = .ok (.iload_n 1, 1) := by decide +kernel
theorem dX9_open_165 : decode cX9_open 165 = .ok (.invokevirtual 286, 3) := by decide +kernel
theorem dX9_open_168 : decode cX9_open 168 = .ok (.iload_n 1, 1) := by decide +kernel
theorem dX9_open_169 : decode cX9_open 169 = .ok (.aload_n 0, 1) := by decide +kernel
theorem dX9_open_170 : decode cX9_open 170 = .ok (.getfield 106, 3) := by decide +kernel
theorem dX9_open_173 : decode cX9_open 173 = .ok (.if_icmp .ge 19, 3) := by decide +kernel
theorem dX9_open_176 : decode cX9_open 176 = .ok (.aload_n 0, 1) := by decide +kernel
theorem dX9_open_177 : decode cX9_open 177 = .ok (.getfield 13, 3) := by decide +kernel
theorem dX9_open_180 : decode cX9_open 180 = .ok (.iload_n 1, 1) := by decide +kernel
theorem dX9_open_181 : decode cX9_open 181 = .ok (.iaload, 1) := by decide +kernel
theorem dX9_open_182 : decode cX9_open 182 = .ok (.iload_n 2, 1) := by decide +kernel
theorem dX9_open_183 : decode cX9_open 183 = .ok (.if_icmp .ne 9, 3) := by decide +kernel
theorem dX9_open_186 : decode cX9_open 186 = .ok (.iinc 1 1, 3) := by decide +kernel
theorem dX9_open_189 : decode cX9_open 189 = .ok (.goto (-21), 3) := by decide +kernel
theorem dX9_open_192 : decode cX9_open 192 = .ok (.goto (-87), 3) := by decide +kernel
theorem dX9_open_195 : decode cX9_open 195 = .ok (.aload_n 0, 1) := by decide +kernel
theorem dX9_open_196 : decode cX9_open 196 = .ok (.getfield 140, 3) := by decide +kernel
theorem dX9_open_199 : decode cX9_open 199 = .ok (.iconst 1, 1) := by decide +kernel
theorem dX9_open_200 : decode cX9_open 200 = .ok (.isub, 1) := by decide +kernel
theorem dX9_open_201 : decode cX9_open 201 = .ok (.istore_n 2, 1) := by decide +kernel
theorem dX9_open_202 : decode cX9_open 202 = .ok (.iload_n 2, 1) := by decide +kernel
theorem dX9_open_203 : decode cX9_open 203 = .ok (.ifCond .lt 23, 3) := by decide +kernel
theorem dX9_open_206 : decode cX9_open 206 = .ok (.aload_n 0, 1) := by decide +kernel
theorem dX9_open_207 : decode cX9_open 207 = .ok (.getfield 53, 3) := by decide +kernel
theorem dX9_open_210 : decode cX9_open 210 = .ok (.iload_n 2, 1) := by decide +kernel
theorem dX9_open_211 : decode cX9_open 211 = .ok (.iaload, 1) := by decide +kernel
theorem dX9_open_212 : decode cX9_open 212 = .ok (.ifCond .ge 8, 3) := by decide +kernel
theorem dX9_open_215 : decode cX9_open 215 = .ok (.aload_n 0, 1) := by decide +kernel
theorem dX9_open_216 : decode cX9_open 216 = .ok (.iload_n 2, 1) := by decide +kernel
theorem dX9_open_217 : decode cX9_open 217 = .ok (.invokevirtual 233, 3) := by decide +kernel
theorem dX9_open_220 : decode cX9_open 220 = .ok (.iinc 2 (-1), 3) := by decide +kernel
theorem dX9_open_223 : decode cX9_open 223 = .ok (.goto (-21), 3) := by decide +kernel
theorem dX9_open_226 : decode cX9_open 226 = .ok (.aload_n 0, 1) := by decide +kernel
theorem dX9_open_227 : decode cX9_open 227 = .ok (.iconst (-1), 1) := by decide +kernel
theorem dX9_open_228 : decode cX9_open 228 = .ok (.putfield 137, 3) := by decide +kernel
theorem dX9_open_231 : decode cX9_open 231 = .ok (.aload_n 0, 1) := by decide +kernel
theorem dX9_open_232 : decode cX9_open 232 = .ok (.iconst 0, 1) := by decide +kernel
theorem dX9_open_233 : decode cX9_open 233 = .ok (.putfield 143, 3) := by decide +kernel
theorem dX9_open_236 : decode cX9_open 236 = .ok (.aload_n 0, 1) := by decide +kernel
theorem dX9_open_237 : decode cX9_open 237 = .ok (.iconst (-1), 1) := by decide +kernel
theorem dX9_open_238 : decode cX9_open 238 = .ok (.putfield 146, 3) := by decide +kernel
theorem dX9_open_241 : decode cX9_open 241 = .ok (.aload_n 0, 1) := by decide +kernel
theorem dX9_open_242 : decode cX9_open 242 = .ok (.iconst 1, 1) := by decide +kernel
theorem dX9_open_243 : decode cX9_open 243 = .ok (.putfield 127, 3) := by decide +kernel
theorem dX9_open_246 : decode cX9_open 246 = .ok (.aload_n 0, 1) := by decide +kernel
theorem dX9_open_247 : decode cX9_open 247 = .ok (.getfield 140, 3) := by decide +kernel
theorem dX9_open_250 : decode cX9_open 250 = .ok (.ireturn, 1) := by decide +kernel
def X9_open_b220 (k202 : Nat → Int32 → M Int32)  (a0 : Nat) (i2 : Int32) : M Int32 := k202 a0 (i2 + (-1))
def X9_open_b202b  (k202 : Nat → Int32 → M Int32) (a0 : Nat) (i2 : Int32) : M Int32 := it (i2 < 0) (bd (pV 12 26 a0 (.int (-1))) (fun _ => bd (pV 12 34 a0 (.int 0)) (fun _ => bd (pV 12 35 a0 (.int (-1))) (fun _ => bd (pZ 12 23 a0 1) (fun _ => bd (gI 12 33 a0) (fun x1 => pu x1)))))) (bd (gR 12 31 a0) (fun y2 => bd (al 22 y2 i2) (fun x3 => it (0 ≤ x3) (X9_open_b220 k202  a0 i2) (bd (ck 12 a0) (fun _ => bd (X9_untold a0 i2) (fun _ => X9_open_b220 k202  a0 i2))))))
def X9_open_b202  : Nat → Nat → Int32 → M Int32
  | 0 => fun _ _ => fl
  | n + 1 => fun a0 i2 => X9_open_b202b  (X9_open_b202  n) a0 i2
def X9_open_b192 (k105 : Nat → Int32 → M Int32)  (a0 : Nat) (i1 : Int32) : M Int32 := k105 a0 i1
def X9_open_b168b (k105 : Nat → Int32 → M Int32) (k168 : Nat → Int32 → Int32 → M Int32) (a0 : Nat) (i1 : Int32) (i2 : Int32) : M Int32 := bd (gI 12 8 a0) (fun x1 => it (x1 ≤ i1) (X9_open_b192 k105  a0 i1) (bd (gR 12 5 a0) (fun y2 => bd (al 22 y2 i1) (fun x3 => it (¬ x3 = i2) (X9_open_b192 k105  a0 i1) (k168 a0 (i1 + 1) i2)))))
def X9_open_b168 (k105 : Nat → Int32 → M Int32) : Nat → Nat → Int32 → Int32 → M Int32
  | 0 => fun _ _ _ => fl
  | n + 1 => fun a0 i1 i2 => X9_open_b168b k105 (X9_open_b168 k105 n) a0 i1 i2
def X9_open_b163 (k105 : Nat → Int32 → M Int32)  (a0 : Nat) (i1 : Int32) (i2 : Int32) : M Int32 := bd (ck 12 a0) (fun _ => bd (X9_readsData a0 i1) (fun _ => X9_open_b168 k105 FU a0 i1 i2))
def X9_open_b153 (k105 : Nat → Int32 → M Int32)  (a0 : Nat) (i1 : Int32) (i2 : Int32) (i3 : Int32) : M Int32 := it (i3 < 0) (X9_open_b163 k105  a0 i1 i2) (bd (ck 12 a0) (fun _ => bd (X9_removes a0 i2 1) (fun _ => X9_open_b163 k105  a0 i1 i2)))
def X9_open_b105b  (k105 : Nat → Int32 → M Int32) (a0 : Nat) (i1 : Int32) : M Int32 := bd (gI 12 8 a0) (fun x1 => it (x1 ≤ i1) (bd (gI 12 33 a0) (fun x2 => bd (pu (x2 - 1)) (fun x3 => X9_open_b202  FU a0 x3))) (bd (gR 12 5 a0) (fun y4 => bd (al 22 y4 i1) (fun x5 => bd (ck 12 a0) (fun _ => bd (X9_fileAt a0 x5 1) (fun x6 => it (x6 < 0) (X9_open_b153 k105  a0 i1 x5 x6) (bd (gR 12 7 a0) (fun y7 => bd (al 22 y7 i1) (fun x8 => bd (ck 12 a0) (fun _ => bd (X9_isGoodHint a0 x6 x8) (fun x9 => it (x9 = 0) (X9_open_b153 k105  a0 i1 x5 x6) (bd (ck 12 a0) (fun _ => bd (X9_readsHint a0 x6) (fun _ => X9_open_b168 k105 FU a0 i1 x5))))))))))))))
def X9_open_b105  : Nat → Nat → Int32 → M Int32
  | 0 => fun _ _ => fl
  | n + 1 => fun a0 i1 => X9_open_b105b  (X9_open_b105  n) a0 i1
def X9_open_b52b  (k52 : Nat → Int32 → M Int32) (a0 : Nat) (i1 : Int32) : M Int32 := bd (gI 12 8 a0) (fun x1 => it (x1 ≤ i1) (bd (ck 12 a0) (fun _ => bd (X9_marks a0) (fun _ => bd (ck 12 a0) (fun _ => bd (X9_loneHints a0) (fun _ => bd (pV 12 33 a0 (.int 0)) (fun _ => bd (pV 12 25 a0 (.int 1)) (fun _ => X9_open_b105  FU a0 0))))))) (bd (gI 12 24 a0) (fun x2 => bd (gR 12 5 a0) (fun y3 => bd (al 22 y3 i1) (fun x4 => bd (pV 12 24 a0 (.int (imx x2 (x4 + 1)))) (fun _ => k52 a0 (i1 + 1)))))))
def X9_open_b52  : Nat → Nat → Int32 → M Int32
  | 0 => fun _ _ => fl
  | n + 1 => fun a0 i1 => X9_open_b52b  (X9_open_b52  n) a0 i1
def X9_open_b13   (a0 : Nat) (s0 : Int32) (s1 : Nat) : M Int32 := bd (pV 12 0 s1 (.int s0)) (fun _ => bd (gI 12 0 a0) (fun x1 => it (x1 ≤ 0) (bd (pV 12 19 a0 (.int 0)) (fun _ => bd (pV 12 20 a0 (.int 0)) (fun _ => bd (pV 12 21 a0 (.int 0)) (fun _ => bd (pV 12 22 a0 (.int 0)) (fun _ => bd (pV 12 24 a0 (.int 1)) (fun _ => X9_open_b52  FU a0 0)))))) (pu 0)))
def X9_open (a0 : Nat) : M Int32 := bd (gI 12 23 a0) (fun x1 => it (x1 = 0) (X9_open_b13   a0 0 a0) (X9_open_b13   a0 1 a0))
section
variable {G : Gx} {p : Program} {l : Launch} {e : Env} {R : Room} {s : State} {m : MethodId} {args : Array Value} {below : List Frame} {meth : Method} {c : Code} {h0 : Hp} {r : Int32} {h' : Hp}
set_option maxRecDepth 20000 in
theorem X9_open_b220_s (C : Cx G p R s m args meth c cX9_open 4 yX9_open.cls h0 h') (hF : R.frames = 5) (hO : R.locals = 134) (hr : meth.sig.returnType = (some .int)) (hm : meth.name = yX9_open.name) {k202 : Nat → Int32 → M Int32} (hk202 : ∀ (a0 : Nat) (i2 : Int32), Sm G (QM G rvI below args s h0 r h') p l e R s m args below meth c 4 h0 r h' 202 [(0, .ref a0), (2, .int i2)] [] (k202 a0 i2))  (a0 : Nat) (i2 : Int32) : Sm G (QM G rvI below args s h0 r h') p l e R s m args below meth c 4 h0 r h' 220 [(0, .ref a0), (2, .int i2)] [] (X9_open_b220 k202  a0 i2) := by
  refine s_iincK (lv' := [(2, .int (i2 + (-1))), (0, .ref a0)]) (w := (-1)) C 1 dX9_open_220 rfl (by decide) (by decide) rfl ?_
  refine s_goto (tgt := 202) C dX9_open_223 (by decide) ?_
  refine s_sub [1, 0] rfl ?_
  exact hk202 a0 (i2 + (-1))
set_option maxRecDepth 20000 in
theorem X9_open_b202b_s (C : Cx G p R s m args meth c cX9_open 4 yX9_open.cls h0 h') (hF : R.frames = 5) (hO : R.locals = 134) (hr : meth.sig.returnType = (some .int)) (hm : meth.name = yX9_open.name)  {k202 : Nat → Int32 → M Int32} (hk202 : ∀ (a0 : Nat) (i2 : Int32), Sm G (QM G rvI below args s h0 r h') p l e R s m args below meth c 4 h0 r h' 202 [(0, .ref a0), (2, .int i2)] [] (k202 a0 i2)) (a0 : Nat) (i2 : Int32) : Sm G (QM G rvI below args s h0 r h') p l e R s m args below meth c 4 h0 r h' 202 [(0, .ref a0), (2, .int i2)] [] (X9_open_b202b  k202 a0 i2) := by
  refine s_iload_n C 1 dX9_open_202 rfl rfl ?_
  refine s_if_lt (tgt := 226) C dX9_open_203 (by decide) ?_ ?_
  · refine s_aload_n C 0 dX9_open_226 rfl rfl ?_
    refine s_iconst (v := (-1)) C dX9_open_227 (by decide) ?_
    refine s_pV C ci12 26 (by decide) rfl (Or.inl wd_6_141) dX9_open_228 rfl rfl ?_
    refine s_aload_n C 0 dX9_open_231 rfl rfl ?_
    refine s_iconst (v := 0) C dX9_open_232 (by decide) ?_
    refine s_pV C ci12 34 (by decide) rfl (Or.inl wd_6_149) dX9_open_233 rfl rfl ?_
    refine s_aload_n C 0 dX9_open_236 rfl rfl ?_
    refine s_iconst (v := (-1)) C dX9_open_237 (by decide) ?_
    refine s_pV C ci12 35 (by decide) rfl (Or.inl wd_6_150) dX9_open_238 rfl rfl ?_
    refine s_aload_n C 0 dX9_open_241 rfl rfl ?_
    refine s_iconst (v := 1) C dX9_open_242 (by decide) ?_
    refine s_pZ C ci12 23 (by decide) rfl rfl (Or.inl wd_6_138) dX9_open_243 ?_
    refine s_aload_n C 0 dX9_open_246 rfl rfl ?_
    refine s_gI C ci12 33 (by decide) (Or.inl wd_6_148) dX9_open_247 (fun x1 => ?_)
    exact s_iret C hr rfl dX9_open_250
  refine s_aload_n C 0 dX9_open_206 rfl rfl ?_
  refine s_gR C ci12 31 (by decide) (Or.inl wd_6_146) dX9_open_207 (fun y2 => ?_)
  refine s_iload_n C 1 dX9_open_210 rfl rfl ?_
  refine s_al22 C dX9_open_211 (fun x3 => ?_)
  refine s_if_ge (tgt := 220) C dX9_open_212 (by decide) ?_ ?_
  · exact X9_open_b220_s C hF hO hr hm hk202  a0 i2
  refine s_aload_n C 0 dX9_open_215 rfl rfl ?_
  refine s_iload_n C 1 dX9_open_216 rfl rfl ?_
  refine s_invV_u C ci12 cy_X9_untold (Or.inl wd_7_119) rfl wd_7_121 wp_44 (con_X9_untold l G a0 i2) rfl rfl (Nat.le_of_ble_eq_true rfl) (by rw [hF]; decide) (by rw [hO]; exact Nat.le_of_ble_eq_true rfl) dX9_open_217 ?_
  exact X9_open_b220_s C hF hO hr hm hk202  a0 i2
set_option maxRecDepth 20000 in
theorem X9_open_b202_s (C : Cx G p R s m args meth c cX9_open 4 yX9_open.cls h0 h') (hF : R.frames = 5) (hO : R.locals = 134) (hr : meth.sig.returnType = (some .int)) (hm : meth.name = yX9_open.name)  (n : Nat) : ∀ (a0 : Nat) (i2 : Int32), Sm G (QM G rvI below args s h0 r h') p l e R s m args below meth c 4 h0 r h' 202 [(0, .ref a0), (2, .int i2)] [] (X9_open_b202  n a0 i2) := by
  induction n with
  | zero => intro a0 i2; exact s_fl
  | succ n ih => intro a0 i2; exact X9_open_b202b_s C hF hO hr hm  ih a0 i2
set_option maxRecDepth 20000 in
theorem X9_open_b192_s (C : Cx G p R s m args meth c cX9_open 4 yX9_open.cls h0 h') (hF : R.frames = 5) (hO : R.locals = 134) (hr : meth.sig.returnType = (some .int)) (hm : meth.name = yX9_open.name) {k105 : Nat → Int32 → M Int32} (hk105 : ∀ (a0 : Nat) (i1 : Int32), Sm G (QM G rvI below args s h0 r h') p l e R s m args below meth c 4 h0 r h' 105 [(0, .ref a0), (1, .int i1)] [] (k105 a0 i1))  (a0 : Nat) (i1 : Int32) : Sm G (QM G rvI below args s h0 r h') p l e R s m args below meth c 4 h0 r h' 192 [(0, .ref a0), (1, .int i1)] [] (X9_open_b192 k105  a0 i1) := by
  refine s_goto (tgt := 105) C dX9_open_192 (by decide) ?_
  exact hk105 a0 i1
set_option maxRecDepth 20000 in
theorem X9_open_b168b_s (C : Cx G p R s m args meth c cX9_open 4 yX9_open.cls h0 h') (hF : R.frames = 5) (hO : R.locals = 134) (hr : meth.sig.returnType = (some .int)) (hm : meth.name = yX9_open.name) {k105 : Nat → Int32 → M Int32} (hk105 : ∀ (a0 : Nat) (i1 : Int32), Sm G (QM G rvI below args s h0 r h') p l e R s m args below meth c 4 h0 r h' 105 [(0, .ref a0), (1, .int i1)] [] (k105 a0 i1)) {k168 : Nat → Int32 → Int32 → M Int32} (hk168 : ∀ (a0 : Nat) (i1 : Int32) (i2 : Int32), Sm G (QM G rvI below args s h0 r h') p l e R s m args below meth c 4 h0 r h' 168 [(0, .ref a0), (1, .int i1), (2, .int i2)] [] (k168 a0 i1 i2)) (a0 : Nat) (i1 : Int32) (i2 : Int32) : Sm G (QM G rvI below args s h0 r h') p l e R s m args below meth c 4 h0 r h' 168 [(0, .ref a0), (1, .int i1), (2, .int i2)] [] (X9_open_b168b k105 k168 a0 i1 i2) := by
  refine s_iload_n C 1 dX9_open_168 rfl rfl ?_
  refine s_aload_n C 0 dX9_open_169 rfl rfl ?_
  refine s_gI C ci12 8 (by decide) (Or.inl wd_6_123) dX9_open_170 (fun x1 => ?_)
  refine s_icmp_ge (tgt := 192) C dX9_open_173 (by decide) ?_ ?_
  · refine s_sub [0, 1] rfl ?_
    exact X9_open_b192_s C hF hO hr hm hk105  a0 i1
  refine s_aload_n C 0 dX9_open_176 rfl rfl ?_
  refine s_gR C ci12 5 (by decide) (Or.inl wd_6_120) dX9_open_177 (fun y2 => ?_)
  refine s_iload_n C 1 dX9_open_180 rfl rfl ?_
  refine s_al22 C dX9_open_181 (fun x3 => ?_)
  refine s_iload_n C 2 dX9_open_182 rfl rfl ?_
  refine s_icmp_ne (tgt := 192) C dX9_open_183 (by decide) ?_ ?_
  · refine s_sub [0, 1] rfl ?_
    exact X9_open_b192_s C hF hO hr hm hk105  a0 i1
  refine s_iincK (lv' := [(1, .int (i1 + 1)), (0, .ref a0), (2, .int i2)]) (w := 1) C 1 dX9_open_186 rfl (by decide) (by decide) rfl ?_
  refine s_goto (tgt := 168) C dX9_open_189 (by decide) ?_
  refine s_sub [1, 0, 2] rfl ?_
  exact hk168 a0 (i1 + 1) i2
set_option maxRecDepth 20000 in
theorem X9_open_b168_s (C : Cx G p R s m args meth c cX9_open 4 yX9_open.cls h0 h') (hF : R.frames = 5) (hO : R.locals = 134) (hr : meth.sig.returnType = (some .int)) (hm : meth.name = yX9_open.name) {k105 : Nat → Int32 → M Int32} (hk105 : ∀ (a0 : Nat) (i1 : Int32), Sm G (QM G rvI below args s h0 r h') p l e R s m args below meth c 4 h0 r h' 105 [(0, .ref a0), (1, .int i1)] [] (k105 a0 i1)) (n : Nat) : ∀ (a0 : Nat) (i1 : Int32) (i2 : Int32), Sm G (QM G rvI below args s h0 r h') p l e R s m args below meth c 4 h0 r h' 168 [(0, .ref a0), (1, .int i1), (2, .int i2)] [] (X9_open_b168 k105 n a0 i1 i2) := by
  induction n with
  | zero => intro a0 i1 i2; exact s_fl
  | succ n ih => intro a0 i1 i2; exact X9_open_b168b_s C hF hO hr hm hk105 ih a0 i1 i2
set_option maxRecDepth 20000 in
theorem X9_open_b163_s (C : Cx G p R s m args meth c cX9_open 4 yX9_open.cls h0 h') (hF : R.frames = 5) (hO : R.locals = 134) (hr : meth.sig.returnType = (some .int)) (hm : meth.name = yX9_open.name) {k105 : Nat → Int32 → M Int32} (hk105 : ∀ (a0 : Nat) (i1 : Int32), Sm G (QM G rvI below args s h0 r h') p l e R s m args below meth c 4 h0 r h' 105 [(0, .ref a0), (1, .int i1)] [] (k105 a0 i1))  (a0 : Nat) (i1 : Int32) (i2 : Int32) : Sm G (QM G rvI below args s h0 r h') p l e R s m args below meth c 4 h0 r h' 163 [(0, .ref a0), (1, .int i1), (2, .int i2)] [] (X9_open_b163 k105  a0 i1 i2) := by
  refine s_aload_n C 0 dX9_open_163 rfl rfl ?_
  refine s_iload_n C 1 dX9_open_164 rfl rfl ?_
  refine s_invV_u C ci12 cy_X9_readsData (Or.inl wd_7_207) rfl wd_7_209 wp_57 (con_X9_readsData l G a0 i1) rfl rfl (Nat.le_of_ble_eq_true rfl) (by rw [hF]; decide) (by rw [hO]; exact Nat.le_of_ble_eq_true rfl) dX9_open_165 ?_
  exact X9_open_b168_s C hF hO hr hm hk105 FU a0 i1 i2
set_option maxRecDepth 20000 in
theorem X9_open_b153_s (C : Cx G p R s m args meth c cX9_open 4 yX9_open.cls h0 h') (hF : R.frames = 5) (hO : R.locals = 134) (hr : meth.sig.returnType = (some .int)) (hm : meth.name = yX9_open.name) {k105 : Nat → Int32 → M Int32} (hk105 : ∀ (a0 : Nat) (i1 : Int32), Sm G (QM G rvI below args s h0 r h') p l e R s m args below meth c 4 h0 r h' 105 [(0, .ref a0), (1, .int i1)] [] (k105 a0 i1))  (a0 : Nat) (i1 : Int32) (i2 : Int32) (i3 : Int32) : Sm G (QM G rvI below args s h0 r h') p l e R s m args below meth c 4 h0 r h' 153 [(0, .ref a0), (1, .int i1), (2, .int i2), (3, .int i3)] [] (X9_open_b153 k105  a0 i1 i2 i3) := by
  refine s_iload_n C 3 dX9_open_153 rfl rfl ?_
  refine s_if_lt (tgt := 163) C dX9_open_154 (by decide) ?_ ?_
  · refine s_sub [0, 1, 2] rfl ?_
    exact X9_open_b163_s C hF hO hr hm hk105  a0 i1 i2
  refine s_aload_n C 0 dX9_open_157 rfl rfl ?_
  refine s_iload_n C 2 dX9_open_158 rfl rfl ?_
  refine s_iconst (v := 1) C dX9_open_159 (by decide) ?_
  refine s_invV_u C ci12 cy_X9_removes (Or.inl wd_7_184) rfl wd_7_186 wp_52 (con_X9_removes l G a0 i2 1) rfl rfl (Nat.le_of_ble_eq_true rfl) (by rw [hF]; decide) (by rw [hO]; exact Nat.le_of_ble_eq_true rfl) dX9_open_160 ?_
  refine s_sub [0, 1, 2] rfl ?_
  exact X9_open_b163_s C hF hO hr hm hk105  a0 i1 i2
set_option maxRecDepth 20000 in
theorem X9_open_b105b_s (C : Cx G p R s m args meth c cX9_open 4 yX9_open.cls h0 h') (hF : R.frames = 5) (hO : R.locals = 134) (hr : meth.sig.returnType = (some .int)) (hm : meth.name = yX9_open.name)  {k105 : Nat → Int32 → M Int32} (hk105 : ∀ (a0 : Nat) (i1 : Int32), Sm G (QM G rvI below args s h0 r h') p l e R s m args below meth c 4 h0 r h' 105 [(0, .ref a0), (1, .int i1)] [] (k105 a0 i1)) (a0 : Nat) (i1 : Int32) : Sm G (QM G rvI below args s h0 r h') p l e R s m args below meth c 4 h0 r h' 105 [(0, .ref a0), (1, .int i1)] [] (X9_open_b105b  k105 a0 i1) := by
  refine s_iload_n C 1 dX9_open_105 rfl rfl ?_
  refine s_aload_n C 0 dX9_open_106 rfl rfl ?_
  refine s_gI C ci12 8 (by decide) (Or.inl wd_6_123) dX9_open_107 (fun x1 => ?_)
  refine s_icmp_ge (tgt := 195) C dX9_open_110 (by decide) ?_ ?_
  · refine s_aload_n C 0 dX9_open_195 rfl rfl ?_
    refine s_gI C ci12 33 (by decide) (Or.inl wd_6_148) dX9_open_196 (fun x2 => ?_)
    refine s_iconst (v := 1) C dX9_open_199 (by decide) ?_
    refine s_isub C dX9_open_200 ?_
    refine s_let (fun x3 => ?_)
    refine s_istore_n (lv' := [(2, .int x3), (0, .ref a0), (1, .int i1)]) C dX9_open_201 rfl (by decide) rfl ?_
    refine s_sub [1, 0] rfl ?_
    exact X9_open_b202_s C hF hO hr hm  FU a0 x3
  refine s_aload_n C 0 dX9_open_113 rfl rfl ?_
  refine s_gR C ci12 5 (by decide) (Or.inl wd_6_120) dX9_open_114 (fun y4 => ?_)
  refine s_iload_n C 1 dX9_open_117 rfl rfl ?_
  refine s_al22 C dX9_open_118 (fun x5 => ?_)
  refine s_istore_n (lv' := [(2, .int x5), (0, .ref a0), (1, .int i1)]) C dX9_open_119 rfl (by decide) rfl ?_
  refine s_aload_n C 1 dX9_open_120 rfl rfl ?_
  refine s_iload_n C 0 dX9_open_121 rfl rfl ?_
  refine s_iconst (v := 1) C dX9_open_122 (by decide) ?_
  refine s_invV_i C ci12 cy_X9_fileAt (Or.inl wd_7_80) rfl wd_7_82 wp_36 (con_X9_fileAt l G a0 x5 1) rfl rfl (Nat.le_of_ble_eq_true rfl) (by rw [hF]; decide) (by rw [hO]; exact Nat.le_of_ble_eq_true rfl) dX9_open_123 (fun x6 => ?_)
  refine s_istore_n (lv' := [(3, .int x6), (2, .int x5), (0, .ref a0), (1, .int i1)]) C dX9_open_126 rfl (by decide) rfl ?_
  refine s_iload_n C 0 dX9_open_127 rfl rfl ?_
  refine s_if_lt (tgt := 153) C dX9_open_128 (by decide) ?_ ?_
  · refine s_sub [2, 3, 1, 0] rfl ?_
    exact X9_open_b153_s C hF hO hr hm hk105  a0 i1 x5 x6
  refine s_aload_n C 2 dX9_open_131 rfl rfl ?_
  refine s_iload_n C 0 dX9_open_132 rfl rfl ?_
  refine s_aload_n C 2 dX9_open_133 rfl rfl ?_
  refine s_gR C ci12 7 (by decide) (Or.inl wd_6_122) dX9_open_134 (fun y7 => ?_)
  refine s_iload_n C 3 dX9_open_137 rfl rfl ?_
  refine s_al22 C dX9_open_138 (fun x8 => ?_)
  refine s_invV_i C ci12 cy_X9_isGoodHint (Or.inl wd_7_192) rfl wd_7_194 wp_54 (con_X9_isGoodHint l G a0 x6 x8) rfl rfl (Nat.le_of_ble_eq_true rfl) (by rw [hF]; decide) (by rw [hO]; exact Nat.le_of_ble_eq_true rfl) dX9_open_139 (fun x9 => ?_)
  refine s_if_eq (tgt := 153) C dX9_open_142 (by decide) ?_ ?_
  · refine s_sub [2, 3, 1, 0] rfl ?_
    exact X9_open_b153_s C hF hO hr hm hk105  a0 i1 x5 x6
  refine s_aload_n C 2 dX9_open_145 rfl rfl ?_
  refine s_iload_n C 0 dX9_open_146 rfl rfl ?_
  refine s_invV_u C ci12 cy_X9_readsHint (Or.inl wd_7_199) rfl wd_7_201 wp_55 (con_X9_readsHint l G a0 x6) rfl rfl (Nat.le_of_ble_eq_true rfl) (by rw [hF]; decide) (by rw [hO]; exact Nat.le_of_ble_eq_true rfl) dX9_open_147 ?_
  refine s_goto (tgt := 168) C dX9_open_150 (by decide) ?_
  refine s_sub [2, 3, 1] rfl ?_
  exact X9_open_b168_s C hF hO hr hm hk105 FU a0 i1 x5
set_option maxRecDepth 20000 in
theorem X9_open_b105_s (C : Cx G p R s m args meth c cX9_open 4 yX9_open.cls h0 h') (hF : R.frames = 5) (hO : R.locals = 134) (hr : meth.sig.returnType = (some .int)) (hm : meth.name = yX9_open.name)  (n : Nat) : ∀ (a0 : Nat) (i1 : Int32), Sm G (QM G rvI below args s h0 r h') p l e R s m args below meth c 4 h0 r h' 105 [(0, .ref a0), (1, .int i1)] [] (X9_open_b105  n a0 i1) := by
  induction n with
  | zero => intro a0 i1; exact s_fl
  | succ n ih => intro a0 i1; exact X9_open_b105b_s C hF hO hr hm  ih a0 i1
set_option maxRecDepth 20000 in
theorem X9_open_b52b_s (C : Cx G p R s m args meth c cX9_open 4 yX9_open.cls h0 h') (hF : R.frames = 5) (hO : R.locals = 134) (hr : meth.sig.returnType = (some .int)) (hm : meth.name = yX9_open.name)  {k52 : Nat → Int32 → M Int32} (hk52 : ∀ (a0 : Nat) (i1 : Int32), Sm G (QM G rvI below args s h0 r h') p l e R s m args below meth c 4 h0 r h' 52 [(0, .ref a0), (1, .int i1)] [] (k52 a0 i1)) (a0 : Nat) (i1 : Int32) : Sm G (QM G rvI below args s h0 r h') p l e R s m args below meth c 4 h0 r h' 52 [(0, .ref a0), (1, .int i1)] [] (X9_open_b52b  k52 a0 i1) := by
  refine s_iload_n C 1 dX9_open_52 rfl rfl ?_
  refine s_aload_n C 0 dX9_open_53 rfl rfl ?_
  refine s_gI C ci12 8 (by decide) (Or.inl wd_6_123) dX9_open_54 (fun x1 => ?_)
  refine s_icmp_ge (tgt := 85) C dX9_open_57 (by decide) ?_ ?_
  · refine s_aload_n C 0 dX9_open_85 rfl rfl ?_
    refine s_invV_u C ci12 cy_X9_marks (Or.inl wd_7_174) rfl wd_7_176 wp_50 (con_X9_marks l G a0) rfl rfl (Nat.le_of_ble_eq_true rfl) (by rw [hF]; decide) (by rw [hO]; exact Nat.le_of_ble_eq_true rfl) dX9_open_86 ?_
    refine s_aload_n C 0 dX9_open_89 rfl rfl ?_
    refine s_invV_u C ci12 cy_X9_loneHints (Or.inl wd_7_188) rfl wd_7_190 wp_53 (con_X9_loneHints l G a0) rfl rfl (Nat.le_of_ble_eq_true rfl) (by rw [hF]; decide) (by rw [hO]; exact Nat.le_of_ble_eq_true rfl) dX9_open_90 ?_
    refine s_aload_n C 0 dX9_open_93 rfl rfl ?_
    refine s_iconst (v := 0) C dX9_open_94 (by decide) ?_
    refine s_pV C ci12 33 (by decide) rfl (Or.inl wd_6_148) dX9_open_95 rfl rfl ?_
    refine s_aload_n C 0 dX9_open_98 rfl rfl ?_
    refine s_iconst (v := 1) C dX9_open_99 (by decide) ?_
    refine s_pV C ci12 25 (by decide) rfl (Or.inl wd_6_140) dX9_open_100 rfl rfl ?_
    refine s_iconst (v := 0) C dX9_open_103 (by decide) ?_
    refine s_istore_n (lv' := [(1, .int 0), (0, .ref a0)]) C dX9_open_104 rfl (by decide) rfl ?_
    refine s_sub [1, 0] rfl ?_
    exact X9_open_b105_s C hF hO hr hm  FU a0 0
  refine s_aload_n C 0 dX9_open_60 rfl rfl ?_
  refine s_aload_n C 0 dX9_open_61 rfl rfl ?_
  refine s_gI C ci12 24 (by decide) (Or.inl wd_6_139) dX9_open_62 (fun x2 => ?_)
  refine s_aload_n C 0 dX9_open_65 rfl rfl ?_
  refine s_gR C ci12 5 (by decide) (Or.inl wd_6_120) dX9_open_66 (fun y3 => ?_)
  refine s_iload_n C 1 dX9_open_69 rfl rfl ?_
  refine s_al22 C dX9_open_70 (fun x4 => ?_)
  refine s_iconst (v := 1) C dX9_open_71 (by decide) ?_
  refine s_iadd C dX9_open_72 ?_
  refine s_mmax C wd_7_58 wd_2_18 wd_1_14 wd_2_19 (by rw [hF]; decide) (by rw [hO]; exact Nat.le_of_ble_eq_true rfl) dX9_open_73 ?_
  refine s_pV C ci12 24 (by decide) rfl (Or.inl wd_6_139) dX9_open_76 rfl rfl ?_
  refine s_iincK (lv' := [(1, .int (i1 + 1)), (0, .ref a0)]) (w := 1) C 1 dX9_open_79 rfl (by decide) (by decide) rfl ?_
  refine s_goto (tgt := 52) C dX9_open_82 (by decide) ?_
  refine s_sub [1, 0] rfl ?_
  exact hk52 a0 (i1 + 1)
set_option maxRecDepth 20000 in
theorem X9_open_b52_s (C : Cx G p R s m args meth c cX9_open 4 yX9_open.cls h0 h') (hF : R.frames = 5) (hO : R.locals = 134) (hr : meth.sig.returnType = (some .int)) (hm : meth.name = yX9_open.name)  (n : Nat) : ∀ (a0 : Nat) (i1 : Int32), Sm G (QM G rvI below args s h0 r h') p l e R s m args below meth c 4 h0 r h' 52 [(0, .ref a0), (1, .int i1)] [] (X9_open_b52  n a0 i1) := by
  induction n with
  | zero => intro a0 i1; exact s_fl
  | succ n ih => intro a0 i1; exact X9_open_b52b_s C hF hO hr hm  ih a0 i1
set_option maxRecDepth 20000 in
theorem X9_open_b13_s (C : Cx G p R s m args meth c cX9_open 4 yX9_open.cls h0 h') (hF : R.frames = 5) (hO : R.locals = 134) (hr : meth.sig.returnType = (some .int)) (hm : meth.name = yX9_open.name)   (a0 : Nat) (s0 : Int32) (s1 : Nat) : Sm G (QM G rvI below args s h0 r h') p l e R s m args below meth c 4 h0 r h' 13 [(0, .ref a0)] [.int s0, .ref s1] (X9_open_b13   a0 s0 s1) := by
  refine s_pV C ci12 0 (by decide) rfl (Or.inl wd_6_115) dX9_open_13 rfl rfl ?_
  refine s_aload_n C 0 dX9_open_16 rfl rfl ?_
  refine s_gI C ci12 0 (by decide) (Or.inl wd_6_115) dX9_open_17 (fun x1 => ?_)
  refine s_if_le (tgt := 25) C dX9_open_20 (by decide) ?_ ?_
  · refine s_aload_n C 0 dX9_open_25 rfl rfl ?_
    refine s_iconst (v := 0) C dX9_open_26 (by decide) ?_
    refine s_pV C ci12 19 (by decide) rfl (Or.inl wd_6_134) dX9_open_27 rfl rfl ?_
    refine s_aload_n C 0 dX9_open_30 rfl rfl ?_
    refine s_iconst (v := 0) C dX9_open_31 (by decide) ?_
    refine s_pV C ci12 20 (by decide) rfl (Or.inl wd_6_135) dX9_open_32 rfl rfl ?_
    refine s_aload_n C 0 dX9_open_35 rfl rfl ?_
    refine s_iconst (v := 0) C dX9_open_36 (by decide) ?_
    refine s_pV C ci12 21 (by decide) rfl (Or.inl wd_6_136) dX9_open_37 rfl rfl ?_
    refine s_aload_n C 0 dX9_open_40 rfl rfl ?_
    refine s_iconst (v := 0) C dX9_open_41 (by decide) ?_
    refine s_pV C ci12 22 (by decide) rfl (Or.inl wd_6_137) dX9_open_42 rfl rfl ?_
    refine s_aload_n C 0 dX9_open_45 rfl rfl ?_
    refine s_iconst (v := 1) C dX9_open_46 (by decide) ?_
    refine s_pV C ci12 24 (by decide) rfl (Or.inl wd_6_139) dX9_open_47 rfl rfl ?_
    refine s_iconst (v := 0) C dX9_open_50 (by decide) ?_
    refine s_istore_n (lv' := [(1, .int 0), (0, .ref a0)]) C dX9_open_51 rfl (by decide) rfl ?_
    refine s_sub [1, 0] rfl ?_
    exact X9_open_b52_s C hF hO hr hm  FU a0 0
  refine s_iconst (v := 0) C dX9_open_23 (by decide) ?_
  exact s_iret C hr rfl dX9_open_24
end
set_option maxRecDepth 20000 in
theorem con_X9_open (l : Launch) (G : Gx) (a0 : Nat) : Con G rvI l yX9_open cX9_open 4 (some .int) 5 134 [.ref a0] (X9_open a0) := by
  refine con_of (lv := [(0, .ref a0)]) (by decide) (Nat.le_of_ble_eq_true rfl) rfl (fun p e R s m args below meth c h0 r h' C hF hO hr hm => ?_)
  refine s_aload_n C 0 dX9_open_0 rfl rfl ?_
  refine s_aload_n C 0 dX9_open_1 rfl rfl ?_
  refine s_gI C ci12 23 (by decide) (Or.inl wd_6_138) dX9_open_2 (fun x1 => ?_)
  refine s_if_eq (tgt := 12) C dX9_open_5 (by decide) ?_ ?_
  · refine s_iconst (v := 0) C dX9_open_12 (by decide) ?_
    exact X9_open_b13_s C hF hO hr hm   a0 0 a0
  refine s_iconst (v := 1) C dX9_open_8 (by decide) ?_
  refine s_goto (tgt := 13) C dX9_open_9 (by decide) ?_
  exact X9_open_b13_s C hF hO hr hm   a0 1 a0

theorem dX9_isLiveStill_0 : decode cX9_isLiveStill 0 = .ok (.aload_n 0, 1) := by decide +kernel
theorem dX9_isLiveStill_1 : decode cX9_isLiveStill 1 = .ok (.aload_n 0, 1) := by decide +kernel
theorem dX9_isLiveStill_2 : decode cX9_isLiveStill 2 = .ok (.getfield 59, 3) := by decide +kernel
theorem dX9_isLiveStill_5 : decode cX9_isLiveStill 5 = .ok (.bipush 16, 2) := by decide +kernel
theorem dX9_isLiveStill_7 : decode cX9_isLiveStill 7 = .ok (.iload_n 1, 1) := by decide +kernel
theorem dX9_isLiveStill_8 : decode cX9_isLiveStill 8 = .ok (.imul, 1) := by decide +kernel
theorem dX9_isLiveStill_9 : decode cX9_isLiveStill 9 = .ok (.aload_n 0, 1) := by decide +kernel
theorem dX9_isLiveStill_10 : decode cX9_isLiveStill 10 = .ok (.getfield 62, 3) := by decide +kernel
theorem dX9_isLiveStill_13 : decode cX9_isLiveStill 13 = .ok (.iload_n 1, 1) := by decide +kernel
theorem dX9_isLiveStill_14 : decode cX9_isLiveStill 14 = .ok (.iaload, 1) := by decide +kernel
theorem dX9_isLiveStill_15 : decode cX9_isLiveStill 15 = .ok (.invokevirtual 174, 3) := by decide +kernel
theorem dX9_isLiveStill_18 : decode cX9_isLiveStill 18 = .ok (.istore_n 2, 1) := by decide +kernel
theorem dX9_isLiveStill_19 : decode cX9_isLiveStill 19 = .ok (.aload_n 0, 1) := by decide +kernel
theorem dX9_isLiveStill_20 : decode cX9_isLiveStill 20 = .ok (.iload_n 2, 1) := by decide +kernel
theorem dX9_isLiveStill_21 : decode cX9_isLiveStill 21 = .ok (.aload_n 0, 1) := by decide +kernel
theorem dX9_isLiveStill_22 : decode cX9_isLiveStill 22 = .ok (.getfield 59, 3) := by decide +kernel
theorem dX9_isLiveStill_25 : decode cX9_isLiveStill 25 = .ok (.bipush 16, 2) := by decide +kernel
theorem dX9_isLiveStill_27 : decode cX9_isLiveStill 27 = .ok (.iload_n 1, 1) := by decide +kernel
theorem dX9_isLiveStill_28 : decode cX9_isLiveStill 28 = .ok (.imul, 1) := by decide +kernel
theorem dX9_isLiveStill_29 : decode cX9_isLiveStill 29 = .ok (.aload_n 0, 1) := by decide +kernel
theorem dX9_isLiveStill_30 : decode cX9_isLiveStill 30 = .ok (.getfield 62, 3) := by decide +kernel
theorem dX9_isLiveStill_33 : decode cX9_isLiveStill 33 = .ok (.iload_n 1, 1) := by decide +kernel
theorem dX9_isLiveStill_34 : decode cX9_isLiveStill 34 = .ok (.iaload, 1) := by decide +kernel
theorem dX9_isLiveStill_35 : decode cX9_isLiveStill 35 = .ok (.invokevirtual 178, 3) := by decide +kernel
theorem dX9_isLiveStill_38 : decode cX9_isLiveStill 38 = .ok (.ifCond .eq 37, 3) := by decide +kernel
theorem dX9_isLiveStill_41 : decode cX9_isLiveStill 41 = .ok (.aload_n 0, 1) := by decide +kernel
theorem dX9_isLiveStill_42 : decode cX9_isLiveStill 42 = .ok (.getfield 47, 3) := by decide +kernel
theorem dX9_isLiveStill_45 : decode cX9_isLiveStill 45 = .ok (.iload_n 2, 1) := by decide +kernel
theorem dX9_isLiveStill_46 : decode cX9_isLiveStill 46 = .ok (.iaload, 1) := by decide +kernel
theorem dX9_isLiveStill_47 : decode cX9_isLiveStill 47 = .ok (.aload_n 0, 1) := by decide +kernel
theorem dX9_isLiveStill_48 : decode cX9_isLiveStill 48 = .ok (.getfield 65, 3) := by decide +kernel
theorem dX9_isLiveStill_51 : decode cX9_isLiveStill 51 = .ok (.iload_n 1, 1) := by decide +kernel
theorem dX9_isLiveStill_52 : decode cX9_isLiveStill 52 = .ok (.iaload, 1) := by decide +kernel
theorem dX9_isLiveStill_53 : decode cX9_isLiveStill 53 = .ok (.if_icmp .ne 22, 3) := by decide +kernel
theorem dX9_isLiveStill_56 : decode cX9_isLiveStill 56 = .ok (.aload_n 0, 1) := by decide +kernel
theorem dX9_isLiveStill_57 : decode cX9_isLiveStill 57 = .ok (.getfield 50, 3) := by decide +kernel
theorem dX9_isLiveStill_60 : decode cX9_isLiveStill 60 = .ok (.iload_n 2, 1) := by decide +kernel
theorem dX9_isLiveStill_61 : decode cX9_isLiveStill 61 = .ok (.iaload, 1) := by decide +kernel
theorem dX9_isLiveStill_62 : decode cX9_isLiveStill 62 = .ok (.aload_n 0, 1) := by decide +kernel
theorem dX9_isLiveStill_63 : decode cX9_isLiveStill 63 = .ok (.getfield 68, 3) := by decide +kernel
theorem dX9_isLiveStill_66 : decode cX9_isLiveStill 66 = .ok (.iload_n 1, 1) := by decide +kernel
theorem dX9_isLiveStill_67 : decode cX9_isLiveStill 67 = .ok (.iaload, 1) := by decide +kernel
theorem dX9_isLiveStill_68 : decode cX9_isLiveStill 68 = .ok (.if_icmp .ne 7, 3) := by decide +kernel
theorem dX9_isLiveStill_71 : decode cX9_isLiveStill 71 = .ok (.iconst 1, 1) := by decide +kernel
theorem dX9_isLiveStill_72 : decode cX9_isLiveStill 72 = .ok (.goto 4, 3) := by decide +kernel
theorem dX9_isLiveStill_75 : decode cX9_isLiveStill 75 = .ok (.iconst 0, 1) := by decide +kernel
theorem dX9_isLiveStill_76 : decode cX9_isLiveStill 76 = .ok (.ireturn, 1) := by decide +kernel
def X9_isLiveStill (a0 : Nat) (i1 : Int32) : M Int32 := bd (gR 12 38 a0) (fun y1 => bd (gR 12 39 a0) (fun y2 => bd (al 22 y2 i1) (fun x3 => bd (ck 12 a0) (fun _ => bd (X9_placeOf a0 y1 (16 * i1) x3) (fun x4 => bd (gR 12 38 a0) (fun y5 => bd (gR 12 39 a0) (fun y6 => bd (al 22 y6 i1) (fun x7 => bd (ck 12 a0) (fun _ => bd (X9_isAt a0 x4 y5 (16 * i1) x7) (fun x8 => it (x8 = 0) (pu 0) (bd (gR 12 29 a0) (fun y9 => bd (al 22 y9 x4) (fun x10 => bd (gR 12 40 a0) (fun y11 => bd (al 22 y11 i1) (fun x12 => it (¬ x10 = x12) (pu 0) (bd (gR 12 30 a0) (fun y13 => bd (al 22 y13 x4) (fun x14 => bd (gR 12 41 a0) (fun y15 => bd (al 22 y15 i1) (fun x16 => it (¬ x14 = x16) (pu 0) (pu 1)))))))))))))))))))))
section
variable {G : Gx} {p : Program} {l : Launch} {e : Env} {R : Room} {s : State} {m : MethodId} {args : Array Value} {below : List Frame} {meth : Method} {c : Code} {h0 : Hp} {r : Int32} {h' : Hp}
end
set_option maxRecDepth 20000 in
theorem con_X9_isLiveStill (l : Launch) (G : Gx) (a0 : Nat) (i1 : Int32) : Con G rvI l yX9_isLiveStill cX9_isLiveStill 3 (some .boolean) 2 51 [.ref a0, .int i1] (X9_isLiveStill a0 i1) := by
  refine con_of (lv := [(0, .ref a0), (1, .int i1)]) (by decide) (Nat.le_of_ble_eq_true rfl) rfl (fun p e R s m args below meth c h0 r h' C hF hO hr hm => ?_)
  refine s_aload_n C 0 dX9_isLiveStill_0 rfl rfl ?_
  refine s_aload_n C 0 dX9_isLiveStill_1 rfl rfl ?_
  refine s_gR C ci12 38 (by decide) (Or.inl wd_6_153) dX9_isLiveStill_2 (fun y1 => ?_)
  refine s_bipush (v := 16) C dX9_isLiveStill_5 (by decide) ?_
  refine s_iload_n C 1 dX9_isLiveStill_7 rfl rfl ?_
  refine s_imul C dX9_isLiveStill_8 ?_
  refine s_aload_n C 0 dX9_isLiveStill_9 rfl rfl ?_
  refine s_gR C ci12 39 (by decide) (Or.inl wd_6_154) dX9_isLiveStill_10 (fun y2 => ?_)
  refine s_iload_n C 1 dX9_isLiveStill_13 rfl rfl ?_
  refine s_al22 C dX9_isLiveStill_14 (fun x3 => ?_)
  refine s_invV_i C ci12 cy_X9_placeOf (Or.inl wd_7_104) rfl wd_7_106 wp_41 (con_X9_placeOf l G a0 y1 (16 * i1) x3) rfl rfl (Nat.le_of_ble_eq_true rfl) (by rw [hF]; decide) (by rw [hO]; exact Nat.le_of_ble_eq_true rfl) dX9_isLiveStill_15 (fun x4 => ?_)
  refine s_istore_n (lv' := [(2, .int x4), (0, .ref a0), (1, .int i1)]) C dX9_isLiveStill_18 rfl (by decide) rfl ?_
  refine s_aload_n C 1 dX9_isLiveStill_19 rfl rfl ?_
  refine s_iload_n C 0 dX9_isLiveStill_20 rfl rfl ?_
  refine s_aload_n C 1 dX9_isLiveStill_21 rfl rfl ?_
  refine s_gR C ci12 38 (by decide) (Or.inl wd_6_153) dX9_isLiveStill_22 (fun y5 => ?_)
  refine s_bipush (v := 16) C dX9_isLiveStill_25 (by decide) ?_
  refine s_iload_n C 2 dX9_isLiveStill_27 rfl rfl ?_
  refine s_imul C dX9_isLiveStill_28 ?_
  refine s_aload_n C 1 dX9_isLiveStill_29 rfl rfl ?_
  refine s_gR C ci12 39 (by decide) (Or.inl wd_6_154) dX9_isLiveStill_30 (fun y6 => ?_)
  refine s_iload_n C 2 dX9_isLiveStill_33 rfl rfl ?_
  refine s_al22 C dX9_isLiveStill_34 (fun x7 => ?_)
  refine s_invV_i C ci12 cy_X9_isAt (Or.inl wd_7_111) rfl wd_7_113 wp_42 (con_X9_isAt l G a0 x4 y5 (16 * i1) x7) rfl rfl (Nat.le_of_ble_eq_true rfl) (by rw [hF]; decide) (by rw [hO]; exact Nat.le_of_ble_eq_true rfl) dX9_isLiveStill_35 (fun x8 => ?_)
  refine s_if_eq (tgt := 75) C dX9_isLiveStill_38 (by decide) ?_ ?_
  · refine s_iconst (v := 0) C dX9_isLiveStill_75 (by decide) ?_
    exact s_zret C hr rfl (Or.inl rfl) dX9_isLiveStill_76
  refine s_aload_n C 1 dX9_isLiveStill_41 rfl rfl ?_
  refine s_gR C ci12 29 (by decide) (Or.inl wd_6_144) dX9_isLiveStill_42 (fun y9 => ?_)
  refine s_iload_n C 0 dX9_isLiveStill_45 rfl rfl ?_
  refine s_al22 C dX9_isLiveStill_46 (fun x10 => ?_)
  refine s_aload_n C 1 dX9_isLiveStill_47 rfl rfl ?_
  refine s_gR C ci12 40 (by decide) (Or.inl wd_6_155) dX9_isLiveStill_48 (fun y11 => ?_)
  refine s_iload_n C 2 dX9_isLiveStill_51 rfl rfl ?_
  refine s_al22 C dX9_isLiveStill_52 (fun x12 => ?_)
  refine s_icmp_ne (tgt := 75) C dX9_isLiveStill_53 (by decide) ?_ ?_
  · refine s_iconst (v := 0) C dX9_isLiveStill_75 (by decide) ?_
    exact s_zret C hr rfl (Or.inl rfl) dX9_isLiveStill_76
  refine s_aload_n C 1 dX9_isLiveStill_56 rfl rfl ?_
  refine s_gR C ci12 30 (by decide) (Or.inl wd_6_145) dX9_isLiveStill_57 (fun y13 => ?_)
  refine s_iload_n C 0 dX9_isLiveStill_60 rfl rfl ?_
  refine s_al22 C dX9_isLiveStill_61 (fun x14 => ?_)
  refine s_aload_n C 1 dX9_isLiveStill_62 rfl rfl ?_
  refine s_gR C ci12 41 (by decide) (Or.inl wd_6_156) dX9_isLiveStill_63 (fun y15 => ?_)
  refine s_iload_n C 2 dX9_isLiveStill_66 rfl rfl ?_
  refine s_al22 C dX9_isLiveStill_67 (fun x16 => ?_)
  refine s_icmp_ne (tgt := 75) C dX9_isLiveStill_68 (by decide) ?_ ?_
  · refine s_iconst (v := 0) C dX9_isLiveStill_75 (by decide) ?_
    exact s_zret C hr rfl (Or.inl rfl) dX9_isLiveStill_76
  refine s_iconst (v := 1) C dX9_isLiveStill_71 (by decide) ?_
  refine s_goto (tgt := 76) C dX9_isLiveStill_72 (by decide) ?_
  exact s_zret C hr rfl (Or.inr rfl) dX9_isLiveStill_76

theorem dX9_nextStill_0 : decode cX9_nextStill 0 = .ok (.iload_n 1, 1) := by decide +kernel
theorem dX9_nextStill_1 : decode cX9_nextStill 1 = .ok (.istore_n 2, 1) := by decide +kernel
theorem dX9_nextStill_2 : decode cX9_nextStill 2 = .ok (.iload_n 2, 1) := by decide +kernel
theorem dX9_nextStill_3 : decode cX9_nextStill 3 = .ok (.aload_n 0, 1) := by decide +kernel
theorem dX9_nextStill_4 : decode cX9_nextStill 4 = .ok (.getfield 289, 3) := by decide +kernel
theorem dX9_nextStill_7 : decode cX9_nextStill 7 = .ok (.if_icmp .ge 17, 3) := by decide +kernel
theorem dX9_nextStill_10 : decode cX9_nextStill 10 = .ok (.aload_n 0, 1) := by decide +kernel
theorem dX9_nextStill_11 : decode cX9_nextStill 11 = .ok (.iload_n 2, 1) := by decide +kernel
theorem dX9_nextStill_12 : decode cX9_nextStill 12 = .ok (.invokevirtual 292, 3) := by decide +kernel
theorem dX9_nextStill_15 : decode cX9_nextStill 15 = .ok (.ifCond .ne 9, 3) := by decide +kernel
theorem dX9_nextStill_18 : decode cX9_nextStill 18 = .ok (.iinc 2 1, 3) := by decide +kernel
theorem dX9_nextStill_21 : decode cX9_nextStill 21 = .ok (.goto (-19), 3) := by decide +kernel
theorem dX9_nextStill_24 : decode cX9_nextStill 24 = .ok (.iload_n 2, 1) := by decide +kernel
theorem dX9_nextStill_25 : decode cX9_nextStill 25 = .ok (.ireturn, 1) := by decide +kernel
def X9_nextStill_b2b  (k2 : Nat → Int32 → M Int32) (a0 : Nat) (i2 : Int32) : M Int32 := bd (gI 12 42 a0) (fun x1 => it (x1 ≤ i2) (pu i2) (bd (ck 12 a0) (fun _ => bd (X9_isLiveStill a0 i2) (fun x2 => it (¬ x2 = 0) (pu i2) (k2 a0 (i2 + 1))))))
def X9_nextStill_b2  : Nat → Nat → Int32 → M Int32
  | 0 => fun _ _ => fl
  | n + 1 => fun a0 i2 => X9_nextStill_b2b  (X9_nextStill_b2  n) a0 i2
def X9_nextStill (a0 : Nat) (i1 : Int32) : M Int32 := X9_nextStill_b2  FU a0 i1
section
variable {G : Gx} {p : Program} {l : Launch} {e : Env} {R : Room} {s : State} {m : MethodId} {args : Array Value} {below : List Frame} {meth : Method} {c : Code} {h0 : Hp} {r : Int32} {h' : Hp}
set_option maxRecDepth 20000 in
theorem X9_nextStill_b2b_s (C : Cx G p R s m args meth c cX9_nextStill 3 yX9_nextStill.cls h0 h') (hF : R.frames = 3) (hO : R.locals = 73) (hr : meth.sig.returnType = (some .int)) (hm : meth.name = yX9_nextStill.name)  {k2 : Nat → Int32 → M Int32} (hk2 : ∀ (a0 : Nat) (i2 : Int32), Sm G (QM G rvI below args s h0 r h') p l e R s m args below meth c 3 h0 r h' 2 [(0, .ref a0), (2, .int i2)] [] (k2 a0 i2)) (a0 : Nat) (i2 : Int32) : Sm G (QM G rvI below args s h0 r h') p l e R s m args below meth c 3 h0 r h' 2 [(0, .ref a0), (2, .int i2)] [] (X9_nextStill_b2b  k2 a0 i2) := by
  refine s_iload_n C 1 dX9_nextStill_2 rfl rfl ?_
  refine s_aload_n C 0 dX9_nextStill_3 rfl rfl ?_
  refine s_gI C ci12 42 (by decide) (Or.inl wd_6_157) dX9_nextStill_4 (fun x1 => ?_)
  refine s_icmp_ge (tgt := 24) C dX9_nextStill_7 (by decide) ?_ ?_
  · refine s_iload_n C 1 dX9_nextStill_24 rfl rfl ?_
    exact s_iret C hr rfl dX9_nextStill_25
  refine s_aload_n C 0 dX9_nextStill_10 rfl rfl ?_
  refine s_iload_n C 1 dX9_nextStill_11 rfl rfl ?_
  refine s_invV_i C ci12 cy_X9_isLiveStill (Or.inl wd_7_239) rfl wd_8_1 wp_64 (con_X9_isLiveStill l G a0 i2) rfl rfl (Nat.le_of_ble_eq_true rfl) (by rw [hF]; decide) (by rw [hO]; exact Nat.le_of_ble_eq_true rfl) dX9_nextStill_12 (fun x2 => ?_)
  refine s_if_ne (tgt := 24) C dX9_nextStill_15 (by decide) ?_ ?_
  · refine s_iload_n C 1 dX9_nextStill_24 rfl rfl ?_
    exact s_iret C hr rfl dX9_nextStill_25
  refine s_iincK (lv' := [(2, .int (i2 + 1)), (0, .ref a0)]) (w := 1) C 1 dX9_nextStill_18 rfl (by decide) (by decide) rfl ?_
  refine s_goto (tgt := 2) C dX9_nextStill_21 (by decide) ?_
  refine s_sub [1, 0] rfl ?_
  exact hk2 a0 (i2 + 1)
set_option maxRecDepth 20000 in
theorem X9_nextStill_b2_s (C : Cx G p R s m args meth c cX9_nextStill 3 yX9_nextStill.cls h0 h') (hF : R.frames = 3) (hO : R.locals = 73) (hr : meth.sig.returnType = (some .int)) (hm : meth.name = yX9_nextStill.name)  (n : Nat) : ∀ (a0 : Nat) (i2 : Int32), Sm G (QM G rvI below args s h0 r h') p l e R s m args below meth c 3 h0 r h' 2 [(0, .ref a0), (2, .int i2)] [] (X9_nextStill_b2  n a0 i2) := by
  induction n with
  | zero => intro a0 i2; exact s_fl
  | succ n ih => intro a0 i2; exact X9_nextStill_b2b_s C hF hO hr hm  ih a0 i2
end
set_option maxRecDepth 20000 in
theorem con_X9_nextStill (l : Launch) (G : Gx) (a0 : Nat) (i1 : Int32) : Con G rvI l yX9_nextStill cX9_nextStill 3 (some .int) 3 73 [.ref a0, .int i1] (X9_nextStill a0 i1) := by
  refine con_of (lv := [(0, .ref a0), (1, .int i1)]) (by decide) (Nat.le_of_ble_eq_true rfl) rfl (fun p e R s m args below meth c h0 r h' C hF hO hr hm => ?_)
  refine s_iload_n C 1 dX9_nextStill_0 rfl rfl ?_
  refine s_istore_n (lv' := [(2, .int i1), (0, .ref a0), (1, .int i1)]) C dX9_nextStill_1 rfl (by decide) rfl ?_
  refine s_sub [1, 0] rfl ?_
  exact X9_nextStill_b2_s C hF hO hr hm  FU a0 i1

theorem dX9_takesLive_0 : decode cX9_takesLive 0 = .ok (.aload_n 0, 1) := by decide +kernel
theorem dX9_takesLive_1 : decode cX9_takesLive 1 = .ok (.iconst 0, 1) := by decide +kernel
theorem dX9_takesLive_2 : decode cX9_takesLive 2 = .ok (.putfield 289, 3) := by decide +kernel
theorem dX9_takesLive_5 : decode cX9_takesLive 5 = .ok (.aload_n 0, 1) := by decide +kernel
theorem dX9_takesLive_6 : decode cX9_takesLive 6 = .ok (.iconst 0, 1) := by decide +kernel
theorem dX9_takesLive_7 : decode cX9_takesLive 7 = .ok (.putfield 295, 3) := by decide +kernel
theorem dX9_takesLive_10 : decode cX9_takesLive 10 = .ok (.iconst 0, 1) := by decide +kernel
theorem dX9_takesLive_11 : decode cX9_takesLive 11 = .ok (.istore_n 1, 1) := by decide +kernel
theorem dX9_takesLive_12 : decode cX9_takesLive 12 = .ok (.iload_n 1, 1) := by decide +kernel
theorem dX9_takesLive_13 : decode cX9_takesLive 13 = .ok (.aload_n 0, 1) := by decide +kernel
theorem dX9_takesLive_14 : decode cX9_takesLive 14 = .ok (.getfield 140, 3) := by decide +kernel
theorem dX9_takesLive_17 : decode cX9_takesLive 17 = .ok (.if_icmp .ge 257, 3) := by decide +kernel
theorem dX9_takesLive_20 : decode cX9_takesLive 20 = .ok (.aload_n 0, 1) := by decide +kernel
theorem dX9_takesLive_21 : decode cX9_takesLive 21 = .ok (.getfield 289, 3) := by decide +kernel
theorem dX9_takesLive_24 : decode cX9_takesLive 24 = .ok (.istore_n 2, 1) := by decide +kernel
theorem dX9_takesLive_25 : decode cX9_takesLive 25 = .ok (.iload_n 2, 1) := by decide +kernel
theorem dX9_takesLive_26 : decode cX9_takesLive 26 = .ok (.ifCond .le 60, 3) := by decide +kernel
theorem dX9_takesLive_29 : decode cX9_takesLive 29 = .ok (.aload_n 0, 1) := by decide +kernel
theorem dX9_takesLive_30 : decode cX9_takesLive 30 = .ok (.getfield 65, 3) := by decide +kernel
theorem dX9_takesLive_33 : decode cX9_takesLive 33 = .ok (.iload_n 2, 1) := by decide +kernel
theorem dX9_takesLive_34 : decode cX9_takesLive 34 = .ok (.iconst 1, 1) := by decide +kernel
theorem dX9_takesLive_35 : decode cX9_takesLive 35 = .ok (.isub, 1) := by decide +kernel
theorem dX9_takesLive_36 : decode cX9_takesLive 36 = .ok (.iaload, 1) := by decide +kernel
theorem dX9_takesLive_37 : decode cX9_takesLive 37 = .ok (.aload_n 0, 1) := by decide +kernel
theorem dX9_takesLive_38 : decode cX9_takesLive 38 = .ok (.getfield 47, 3) := by decide +kernel
theorem dX9_takesLive_41 : decode cX9_takesLive 41 = .ok (.iload_n 1, 1) := by decide +kernel
theorem dX9_takesLive_42 : decode cX9_takesLive 42 = .ok (.iaload, 1) := by decide +kernel
theorem dX9_takesLive_43 : decode cX9_takesLive 43 = .ok (.if_icmp .gt 37, 3) := by decide +kernel
theorem dX9_takesLive_46 : decode cX9_takesLive 46 = .ok (.aload_n 0, 1) := by decide +kernel
theorem dX9_takesLive_47 : decode cX9_takesLive 47 = .ok (.getfield 65, 3) := by decide +kernel
theorem dX9_takesLive_50 : decode cX9_takesLive 50 = .ok (.iload_n 2, 1) := by decide +kernel
theorem dX9_takesLive_51 : decode cX9_takesLive 51 = .ok (.iconst 1, 1) := by decide +kernel
theorem dX9_takesLive_52 : decode cX9_takesLive 52 = .ok (.isub, 1) := by decide +kernel
theorem dX9_takesLive_53 : decode cX9_takesLive 53 = .ok (.iaload, 1) := by decide +kernel
theorem dX9_takesLive_54 : decode cX9_takesLive 54 = .ok (.aload_n 0, 1) := by decide +kernel
theorem dX9_takesLive_55 : decode cX9_takesLive 55 = .ok (.getfield 47, 3) := by decide +kernel
theorem dX9_takesLive_58 : decode cX9_takesLive 58 = .ok (.iload_n 1, 1) := by decide +kernel
theorem dX9_takesLive_59 : decode cX9_takesLive 59 = .ok (.iaload, 1) := by decide +kernel
theorem dX9_takesLive_60 : decode cX9_takesLive 60 = .ok (.if_icmp .ne 26, 3) := by decide +kernel
theorem dX9_takesLive_63 : decode cX9_takesLive 63 = .ok (.aload_n 0, 1) := by decide +kernel
theorem dX9_takesLive_64 : decode cX9_takesLive 64 = .ok (.getfield 68, 3) := by decide +kernel
theorem dX9_takesLive_67 : decode cX9_takesLive 67 = .ok (.iload_n 2, 1) := by decide +kernel
theorem dX9_takesLive_68 : decode cX9_takesLive 68 = .ok (.iconst 1, 1) := by decide +kernel
theorem dX9_takesLive_69 : decode cX9_takesLive 69 = .ok (.isub, 1) := by decide +kernel
theorem dX9_takesLive_70 : decode cX9_takesLive 70 = .ok (.iaload, 1) := by decide +kernel
theorem dX9_takesLive_71 : decode cX9_takesLive 71 = .ok (.aload_n 0, 1) := by decide +kernel
theorem dX9_takesLive_72 : decode cX9_takesLive 72 = .ok (.getfield 50, 3) := by decide +kernel
theorem dX9_takesLive_75 : decode cX9_takesLive 75 = .ok (.iload_n 1, 1) := by decide +kernel
theorem dX9_takesLive_76 : decode cX9_takesLive 76 = .ok (.iaload, 1) := by decide +kernel
theorem dX9_takesLive_77 : decode cX9_takesLive 77 = .ok (.if_icmp .le 9, 3) := by decide +kernel
theorem dX9_takesLive_80 : decode cX9_takesLive 80 = .ok (.iinc 2 (-1), 3) := by decide +kernel
theorem dX9_takesLive_83 : decode cX9_takesLive 83 = .ok (.goto (-58), 3) := by decide +kernel
theorem dX9_takesLive_86 : decode cX9_takesLive 86 = .ok (.aload_n 0, 1) := by decide +kernel
theorem dX9_takesLive_87 : decode cX9_takesLive 87 = .ok (.getfield 289, 3) := by decide +kernel
theorem dX9_takesLive_90 : decode cX9_takesLive 90 = .ok (.istore_n 3, 1) := by decide +kernel
theorem dX9_takesLive_91 : decode cX9_takesLive 91 = .ok (.iload_n 3, 1) := by decide +kernel
theorem dX9_takesLive_92 : decode cX9_takesLive 92 = .ok (.iload_n 2, 1) := by decide +kernel
theorem dX9_takesLive_93 : decode cX9_takesLive 93 = .ok (.if_icmp .le 93, 3) := by decide +kernel
theorem dX9_takesLive_96 : decode cX9_takesLive 96 = .ok (.iconst 0, 1) := by decide +kernel
theorem dX9_takesLive_97 : decode cX9_takesLive 97 = .ok (.istore 4, 2) := by decide +kernel
theorem dX9_takesLive_99 : decode cX9_takesLive 99 = .ok (.iload 4, 2) := by decide +kernel
theorem dX9_takesLive_101 : decode cX9_takesLive 101 = .ok (.bipush 16, 2) := by decide +kernel
theorem dX9_takesLive_103 : decode cX9_takesLive 103 = .ok (.if_icmp .ge 35, 3) := by decide +kernel
theorem dX9_takesLive_106 : decode cX9_takesLive 106 = .ok (.aload_n 0, 1) := by decide +kernel
theorem dX9_takesLive_107 : decode cX9_takesLive 107 = .ok (.getfield 59, 3) := by decide +kernel
theorem dX9_takesLive_110 : decode cX9_takesLive 110 = .ok (.bipush 16, 2) := by decide +kernel
theorem dX9_takesLive_112 : decode cX9_takesLive 112 = .ok (.iload_n 3, 1) := by decide +kernel
theorem dX9_takesLive_113 : decode cX9_takesLive 113 = .ok (.imul, 1) := by decide +kernel
theorem dX9_takesLive_114 : decode cX9_takesLive 114 = .ok (.iload 4, 2) := by decide +kernel
theorem dX9_takesLive_116 : decode cX9_takesLive 116 = .ok (.iadd, 1) := by decide +kernel
theorem dX9_takesLive_117 : decode cX9_takesLive 117 = .ok (.aload_n 0, 1) := by decide +kernel
theorem dX9_takesLive_118 : decode cX9_takesLive 118 = .ok (.getfield 59, 3) := by decide +kernel
theorem dX9_takesLive_121 : decode cX9_takesLive 121 = .ok (.bipush 16, 2) := by decide +kernel
theorem dX9_takesLive_123 : decode cX9_takesLive 123 = .ok (.iload_n 3, 1) := by decide +kernel
theorem dX9_takesLive_124 : decode cX9_takesLive 124 = .ok (.iconst 1, 1) := by decide +kernel
theorem dX9_takesLive_125 : decode cX9_takesLive 125 = .ok (.isub, 1) := by decide +kernel
theorem dX9_takesLive_126 : decode cX9_takesLive 126 = .ok (.imul, 1) := by decide +kernel
theorem dX9_takesLive_127 : decode cX9_takesLive 127 = .ok (.iload 4, 2) := by decide +kernel
theorem dX9_takesLive_129 : decode cX9_takesLive 129 = .ok (.iadd, 1) := by decide +kernel
theorem dX9_takesLive_130 : decode cX9_takesLive 130 = .ok (.baload, 1) := by decide +kernel
theorem dX9_takesLive_131 : decode cX9_takesLive 131 = .ok (.bastore, 1) := by decide +kernel
theorem dX9_takesLive_132 : decode cX9_takesLive 132 = .ok (.iinc 4 1, 3) := by decide +kernel
theorem dX9_takesLive_135 : decode cX9_takesLive 135 = .ok (.goto (-36), 3) := by decide +kernel
theorem dX9_takesLive_138 : decode cX9_takesLive 138 = .ok (.aload_n 0, 1) := by decide +kernel
theorem dX9_takesLive_139 : decode cX9_takesLive 139 = .ok (.getfield 62, 3) := by decide +kernel
theorem dX9_takesLive_142 : decode cX9_takesLive 142 = .ok (.iload_n 3, 1) := by decide +kernel
theorem dX9_takesLive_143 : decode cX9_takesLive 143 = .ok (.aload_n 0, 1) := by decide +kernel
theorem dX9_takesLive_144 : decode cX9_takesLive 144 = .ok (.getfield 62, 3) := by decide +kernel
theorem dX9_takesLive_147 : decode cX9_takesLive 147 = .ok (.iload_n 3, 1) := by decide +kernel
theorem dX9_takesLive_148 : decode cX9_takesLive 148 = .ok (.iconst 1, 1) := by decide +kernel
theorem dX9_takesLive_149 : decode cX9_takesLive 149 = .ok (.isub, 1) := by decide +kernel
theorem dX9_takesLive_150 : decode cX9_takesLive 150 = .ok (.iaload, 1) := by decide +kernel
theorem dX9_takesLive_151 : decode cX9_takesLive 151 = .ok (.iastore, 1) := by decide +kernel
theorem dX9_takesLive_152 : decode cX9_takesLive 152 = .ok (.aload_n 0, 1) := by decide +kernel
theorem dX9_takesLive_153 : decode cX9_takesLive 153 = .ok (.getfield 65, 3) := by decide +kernel
theorem dX9_takesLive_156 : decode cX9_takesLive 156 = .ok (.iload_n 3, 1) := by decide +kernel
theorem dX9_takesLive_157 : decode cX9_takesLive 157 = .ok (.aload_n 0, 1) := by decide +kernel
theorem dX9_takesLive_158 : decode cX9_takesLive 158 = .ok (.getfield 65, 3) := by decide +kernel
theorem dX9_takesLive_161 : decode cX9_takesLive 161 = .ok (.iload_n 3, 1) := by decide +kernel
theorem dX9_takesLive_162 : decode cX9_takesLive 162 = .ok (.iconst 1, 1) := by decide +kernel
theorem dX9_takesLive_163 : decode cX9_takesLive 163 = .ok (.isub, 1) := by decide +kernel
theorem dX9_takesLive_164 : decode cX9_takesLive 164 = .ok (.iaload, 1) := by decide +kernel
theorem dX9_takesLive_165 : decode cX9_takesLive 165 = .ok (.iastore, 1) := by decide +kernel
theorem dX9_takesLive_166 : decode cX9_takesLive 166 = .ok (.aload_n 0, 1) := by decide +kernel
theorem dX9_takesLive_167 : decode cX9_takesLive 167 = .ok (.getfield 68, 3) := by decide +kernel
theorem dX9_takesLive_170 : decode cX9_takesLive 170 = .ok (.iload_n 3, 1) := by decide +kernel
theorem dX9_takesLive_171 : decode cX9_takesLive 171 = .ok (.aload_n 0, 1) := by decide +kernel
theorem dX9_takesLive_172 : decode cX9_takesLive 172 = .ok (.getfield 68, 3) := by decide +kernel
theorem dX9_takesLive_175 : decode cX9_takesLive 175 = .ok (.iload_n 3, 1) := by decide +kernel
theorem dX9_takesLive_176 : decode cX9_takesLive 176 = .ok (.iconst 1, 1) := by decide +kernel
theorem dX9_takesLive_177 : decode cX9_takesLive 177 = .ok (.isub, 1) := by decide +kernel
theorem dX9_takesLive_178 : decode cX9_takesLive 178 = .ok (.iaload, 1) := by decide +kernel
theorem dX9_takesLive_179 : decode cX9_takesLive 179 = .ok (.iastore, 1) := by decide +kernel
theorem dX9_takesLive_180 : decode cX9_takesLive 180 = .ok (.iinc 3 (-1), 3) := by decide +kernel
theorem dX9_takesLive_183 : decode cX9_takesLive 183 = .ok (.goto (-92), 3) := by decide +kernel
theorem dX9_takesLive_186 : decode cX9_takesLive 186 = .ok (.iconst 0, 1) := by decide +kernel
theorem dX9_takesLive_187 : decode cX9_takesLive 187 = .ok (.istore_n 3, 1) := by decide +kernel
theorem dX9_takesLive_188 : decode cX9_takesLive 188 = .ok (.iload_n 3, 1) := by decide +kernel
theorem dX9_takesLive_189 : decode cX9_takesLive 189 = .ok (.bipush 16, 2) := by decide +kernel
theorem dX9_takesLive_191 : decode cX9_takesLive 191 = .ok (.if_icmp .ge 31, 3) := by decide +kernel
theorem dX9_takesLive_194 : decode cX9_takesLive 194 = .ok (.aload_n 0, 1) := by decide +kernel
theorem dX9_takesLive_195 : decode cX9_takesLive 195 = .ok (.getfield 59, 3) := by decide +kernel
theorem dX9_takesLive_198 : decode cX9_takesLive 198 = .ok (.bipush 16, 2) := by decide +kernel
theorem dX9_takesLive_200 : decode cX9_takesLive 200 = .ok (.iload_n 2, 1) := by decide +kernel
theorem dX9_takesLive_201 : decode cX9_takesLive 201 = .ok (.imul, 1) := by decide +kernel
theorem dX9_takesLive_202 : decode cX9_takesLive 202 = .ok (.iload_n 3, 1) := by decide +kernel
theorem dX9_takesLive_203 : decode cX9_takesLive 203 = .ok (.iadd, 1) := by decide +kernel
theorem dX9_takesLive_204 : decode cX9_takesLive 204 = .ok (.aload_n 0, 1) := by decide +kernel
theorem dX9_takesLive_205 : decode cX9_takesLive 205 = .ok (.getfield 41, 3) := by decide +kernel
theorem dX9_takesLive_208 : decode cX9_takesLive 208 = .ok (.bipush 16, 2) := by decide +kernel
theorem dX9_takesLive_210 : decode cX9_takesLive 210 = .ok (.iload_n 1, 1) := by decide +kernel
theorem dX9_takesLive_211 : decode cX9_takesLive 211 = .ok (.imul, 1) := by decide +kernel
theorem dX9_takesLive_212 : decode cX9_takesLive 212 = .ok (.iload_n 3, 1) := by decide +kernel
theorem dX9_takesLive_213 : decode cX9_takesLive 213 = .ok (.iadd, 1) := by decide +kernel
theorem dX9_takesLive_214 : decode cX9_takesLive 214 = .ok (.baload, 1) := by decide +kernel
theorem dX9_takesLive_215 : decode cX9_takesLive 215 = .ok (.bastore, 1) := by decide +kernel
theorem dX9_takesLive_216 : decode cX9_takesLive 216 = .ok (.iinc 3 1, 3) := by decide +kernel
theorem dX9_takesLive_219 : decode cX9_takesLive 219 = .ok (.goto (-31), 3) := by decide +kernel
theorem dX9_takesLive_222 : decode cX9_takesLive 222 = .ok (.aload_n 0, 1) := by decide +kernel
theorem dX9_takesLive_223 : decode cX9_takesLive 223 = .ok (.getfield 62, 3) := by decide +kernel
theorem dX9_takesLive_226 : decode cX9_takesLive 226 = .ok (.iload_n 2, 1) := by decide +kernel
theorem dX9_takesLive_227 : decode cX9_takesLive 227 = .ok (.aload_n 0, 1) := by decide +kernel
theorem dX9_takesLive_228 : decode cX9_takesLive 228 = .ok (.getfield 44, 3) := by decide +kernel
theorem dX9_takesLive_231 : decode cX9_takesLive 231 = .ok (.iload_n 1, 1) := by decide +kernel
theorem dX9_takesLive_232 : decode cX9_takesLive 232 = .ok (.iaload, 1) := by decide +kernel
theorem dX9_takesLive_233 : decode cX9_takesLive 233 = .ok (.iastore, 1) := by decide +kernel
theorem dX9_takesLive_234 : decode cX9_takesLive 234 = .ok (.aload_n 0, 1) := by decide +kernel
theorem dX9_takesLive_235 : decode cX9_takesLive 235 = .ok (.getfield 65, 3) := by decide +kernel
theorem dX9_takesLive_238 : decode cX9_takesLive 238 = .ok (.iload_n 2, 1) := by decide +kernel
theorem dX9_takesLive_239 : decode cX9_takesLive 239 = .ok (.aload_n 0, 1) := by decide +kernel
theorem dX9_takesLive_240 : decode cX9_takesLive 240 = .ok (.getfield 47, 3) := by decide +kernel
theorem dX9_takesLive_243 : decode cX9_takesLive 243 = .ok (.iload_n 1, 1) := by decide +kernel
theorem dX9_takesLive_244 : decode cX9_takesLive 244 = .ok (.iaload, 1) := by decide +kernel
theorem dX9_takesLive_245 : decode cX9_takesLive 245 = .ok (.iastore, 1) := by decide +kernel
theorem dX9_takesLive_246 : decode cX9_takesLive 246 = .ok (.aload_n 0, 1) := by decide +kernel
theorem dX9_takesLive_247 : decode cX9_takesLive 247 = .ok (.getfield 68, 3) := by decide +kernel
theorem dX9_takesLive_250 : decode cX9_takesLive 250 = .ok (.iload_n 2, 1) := by decide +kernel
theorem dX9_takesLive_251 : decode cX9_takesLive 251 = .ok (.aload_n 0, 1) := by decide +kernel
theorem dX9_takesLive_252 : decode cX9_takesLive 252 = .ok (.getfield 50, 3) := by decide +kernel
theorem dX9_takesLive_255 : decode cX9_takesLive 255 = .ok (.iload_n 1, 1) := by decide +kernel
theorem dX9_takesLive_256 : decode cX9_takesLive 256 = .ok (.iaload, 1) := by decide +kernel
theorem dX9_takesLive_257 : decode cX9_takesLive 257 = .ok (.iastore, 1) := by decide +kernel
theorem dX9_takesLive_258 : decode cX9_takesLive 258 = .ok (.aload_n 0, 1) := by decide +kernel
theorem dX9_takesLive_259 : decode cX9_takesLive 259 = .ok (.dup, 1) := by decide +kernel
theorem dX9_takesLive_260 : decode cX9_takesLive 260 = .ok (.getfield 289, 3) := by decide +kernel
theorem dX9_takesLive_263 : decode cX9_takesLive 263 = .ok (.iconst 1, 1) := by decide +kernel
theorem dX9_takesLive_264 : decode cX9_takesLive 264 = .ok (.iadd, 1) := by decide +kernel
theorem dX9_takesLive_265 : decode cX9_takesLive 265 = .ok (.putfield 289, 3) := by decide +kernel
theorem dX9_takesLive_268 : decode cX9_takesLive 268 = .ok (.iinc 1 1, 3) := by decide +kernel
theorem dX9_takesLive_271 : decode cX9_takesLive 271 = .ok (.goto (-259), 3) := by decide +kernel
theorem dX9_takesLive_274 : decode cX9_takesLive 274 = .ok (.return_, 1) := by decide +kernel
def X9_takesLive_b188b (k12 : Nat → Int32 → M Unit) (k188 : Nat → Int32 → Int32 → Int32 → M Unit) (a0 : Nat) (i1 : Int32) (i2 : Int32) (i3 : Int32) : M Unit := it (16 ≤ i3) (bd (gR 12 39 a0) (fun y1 => bd (gR 12 28 a0) (fun y2 => bd (al 22 y2 i1) (fun x3 => bd (as 22 y1 i2 x3) (fun _ => bd (gR 12 40 a0) (fun y4 => bd (gR 12 29 a0) (fun y5 => bd (al 22 y5 i1) (fun x6 => bd (as 22 y4 i2 x6) (fun _ => bd (gR 12 41 a0) (fun y7 => bd (gR 12 30 a0) (fun y8 => bd (al 22 y8 i1) (fun x9 => bd (as 22 y7 i2 x9) (fun _ => bd (gI 12 42 a0) (fun x10 => bd (pV 12 42 a0 (.int (x10 + 1))) (fun _ => k12 a0 (i1 + 1)))))))))))))))) (bd (gR 12 38 a0) (fun y11 => bd (gR 12 27 a0) (fun y12 => bd (al 21 y12 ((16 * i1) + i3)) (fun x13 => bd (as 21 y11 ((16 * i2) + i3) x13) (fun _ => k188 a0 i1 i2 (i3 + 1))))))
def X9_takesLive_b188 (k12 : Nat → Int32 → M Unit) : Nat → Nat → Int32 → Int32 → Int32 → M Unit
  | 0 => fun _ _ _ _ => fl
  | n + 1 => fun a0 i1 i2 i3 => X9_takesLive_b188b k12 (X9_takesLive_b188 k12 n) a0 i1 i2 i3
def X9_takesLive_b99b (k91 : Nat → Int32 → Int32 → Int32 → M Unit) (k99 : Nat → Int32 → Int32 → Int32 → Int32 → M Unit) (a0 : Nat) (i1 : Int32) (i2 : Int32) (i3 : Int32) (i4 : Int32) : M Unit := it (16 ≤ i4) (bd (gR 12 39 a0) (fun y1 => bd (gR 12 39 a0) (fun y2 => bd (al 22 y2 (i3 - 1)) (fun x3 => bd (as 22 y1 i3 x3) (fun _ => bd (gR 12 40 a0) (fun y4 => bd (gR 12 40 a0) (fun y5 => bd (al 22 y5 (i3 - 1)) (fun x6 => bd (as 22 y4 i3 x6) (fun _ => bd (gR 12 41 a0) (fun y7 => bd (gR 12 41 a0) (fun y8 => bd (al 22 y8 (i3 - 1)) (fun x9 => bd (as 22 y7 i3 x9) (fun _ => k91 a0 i1 i2 (i3 + (-1))))))))))))))) (bd (gR 12 38 a0) (fun y10 => bd (gR 12 38 a0) (fun y11 => bd (al 21 y11 ((16 * (i3 - 1)) + i4)) (fun x12 => bd (as 21 y10 ((16 * i3) + i4) x12) (fun _ => k99 a0 i1 i2 i3 (i4 + 1))))))
def X9_takesLive_b99 (k91 : Nat → Int32 → Int32 → Int32 → M Unit) : Nat → Nat → Int32 → Int32 → Int32 → Int32 → M Unit
  | 0 => fun _ _ _ _ _ => fl
  | n + 1 => fun a0 i1 i2 i3 i4 => X9_takesLive_b99b k91 (X9_takesLive_b99 k91 n) a0 i1 i2 i3 i4
def X9_takesLive_b91b (k12 : Nat → Int32 → M Unit) (k91 : Nat → Int32 → Int32 → Int32 → M Unit) (a0 : Nat) (i1 : Int32) (i2 : Int32) (i3 : Int32) : M Unit := it (i3 ≤ i2) (X9_takesLive_b188 k12 FU a0 i1 i2 0) (X9_takesLive_b99 k91 FU a0 i1 i2 i3 0)
def X9_takesLive_b91 (k12 : Nat → Int32 → M Unit) : Nat → Nat → Int32 → Int32 → Int32 → M Unit
  | 0 => fun _ _ _ _ => fl
  | n + 1 => fun a0 i1 i2 i3 => X9_takesLive_b91b k12 (X9_takesLive_b91 k12 n) a0 i1 i2 i3
def X9_takesLive_b86 (k12 : Nat → Int32 → M Unit)  (a0 : Nat) (i1 : Int32) (i2 : Int32) : M Unit := bd (gI 12 42 a0) (fun x1 => X9_takesLive_b91 k12 FU a0 i1 i2 x1)
def X9_takesLive_b80 (k25 : Nat → Int32 → Int32 → M Unit)  (a0 : Nat) (i1 : Int32) (i2 : Int32) : M Unit := k25 a0 i1 (i2 + (-1))
def X9_takesLive_b25b (k12 : Nat → Int32 → M Unit) (k25 : Nat → Int32 → Int32 → M Unit) (a0 : Nat) (i1 : Int32) (i2 : Int32) : M Unit := it (i2 ≤ 0) (X9_takesLive_b86 k12  a0 i1 i2) (bd (gR 12 40 a0) (fun y1 => bd (al 22 y1 (i2 - 1)) (fun x2 => bd (gR 12 29 a0) (fun y3 => bd (al 22 y3 i1) (fun x4 => it (x4 < x2) (X9_takesLive_b80 k25  a0 i1 i2) (bd (gR 12 40 a0) (fun y5 => bd (al 22 y5 (i2 - 1)) (fun x6 => bd (gR 12 29 a0) (fun y7 => bd (al 22 y7 i1) (fun x8 => it (¬ x6 = x8) (X9_takesLive_b86 k12  a0 i1 i2) (bd (gR 12 41 a0) (fun y9 => bd (al 22 y9 (i2 - 1)) (fun x10 => bd (gR 12 30 a0) (fun y11 => bd (al 22 y11 i1) (fun x12 => it (x10 ≤ x12) (X9_takesLive_b86 k12  a0 i1 i2) (X9_takesLive_b80 k25  a0 i1 i2))))))))))))))))
def X9_takesLive_b25 (k12 : Nat → Int32 → M Unit) : Nat → Nat → Int32 → Int32 → M Unit
  | 0 => fun _ _ _ => fl
  | n + 1 => fun a0 i1 i2 => X9_takesLive_b25b k12 (X9_takesLive_b25 k12 n) a0 i1 i2
def X9_takesLive_b12b  (k12 : Nat → Int32 → M Unit) (a0 : Nat) (i1 : Int32) : M Unit := bd (gI 12 33 a0) (fun x1 => it (x1 ≤ i1) (pu ()) (bd (gI 12 42 a0) (fun x2 => X9_takesLive_b25 k12 FU a0 i1 x2)))
def X9_takesLive_b12  : Nat → Nat → Int32 → M Unit
  | 0 => fun _ _ => fl
  | n + 1 => fun a0 i1 => X9_takesLive_b12b  (X9_takesLive_b12  n) a0 i1
def X9_takesLive (a0 : Nat) : M Unit := bd (pV 12 42 a0 (.int 0)) (fun _ => bd (pV 12 43 a0 (.int 0)) (fun _ => X9_takesLive_b12  FU a0 0))
section
variable {G : Gx} {p : Program} {l : Launch} {e : Env} {R : Room} {s : State} {m : MethodId} {args : Array Value} {below : List Frame} {meth : Method} {c : Code} {h0 : Hp} {r : Unit} {h' : Hp}
set_option maxRecDepth 20000 in
theorem X9_takesLive_b188b_s (C : Cx G p R s m args meth c cX9_takesLive 5 yX9_takesLive.cls h0 h') (hF : R.frames = 0) (hO : R.locals = 0) (hr : meth.sig.returnType = none) (hm : meth.name = yX9_takesLive.name) {k12 : Nat → Int32 → M Unit} (hk12 : ∀ (a0 : Nat) (i1 : Int32), Sm G (QM G rvU below args s h0 r h') p l e R s m args below meth c 5 h0 r h' 12 [(0, .ref a0), (1, .int i1)] [] (k12 a0 i1)) {k188 : Nat → Int32 → Int32 → Int32 → M Unit} (hk188 : ∀ (a0 : Nat) (i1 : Int32) (i2 : Int32) (i3 : Int32), Sm G (QM G rvU below args s h0 r h') p l e R s m args below meth c 5 h0 r h' 188 [(0, .ref a0), (1, .int i1), (2, .int i2), (3, .int i3)] [] (k188 a0 i1 i2 i3)) (a0 : Nat) (i1 : Int32) (i2 : Int32) (i3 : Int32) : Sm G (QM G rvU below args s h0 r h') p l e R s m args below meth c 5 h0 r h' 188 [(0, .ref a0), (1, .int i1), (2, .int i2), (3, .int i3)] [] (X9_takesLive_b188b k12 k188 a0 i1 i2 i3) := by
  refine s_iload_n C 3 dX9_takesLive_188 rfl rfl ?_
  refine s_bipush (v := 16) C dX9_takesLive_189 (by decide) ?_
  refine s_icmp_ge (tgt := 222) C dX9_takesLive_191 (by decide) ?_ ?_
  · refine s_aload_n C 0 dX9_takesLive_222 rfl rfl ?_
    refine s_gR C ci12 39 (by decide) (Or.inl wd_6_154) dX9_takesLive_223 (fun y1 => ?_)
    refine s_iload_n C 2 dX9_takesLive_226 rfl rfl ?_
    refine s_aload_n C 0 dX9_takesLive_227 rfl rfl ?_
    refine s_gR C ci12 28 (by decide) (Or.inl wd_6_143) dX9_takesLive_228 (fun y2 => ?_)
    refine s_iload_n C 1 dX9_takesLive_231 rfl rfl ?_
    refine s_al22 C dX9_takesLive_232 (fun x3 => ?_)
    refine s_as22 C dX9_takesLive_233 ?_
    refine s_aload_n C 0 dX9_takesLive_234 rfl rfl ?_
    refine s_gR C ci12 40 (by decide) (Or.inl wd_6_155) dX9_takesLive_235 (fun y4 => ?_)
    refine s_iload_n C 2 dX9_takesLive_238 rfl rfl ?_
    refine s_aload_n C 0 dX9_takesLive_239 rfl rfl ?_
    refine s_gR C ci12 29 (by decide) (Or.inl wd_6_144) dX9_takesLive_240 (fun y5 => ?_)
    refine s_iload_n C 1 dX9_takesLive_243 rfl rfl ?_
    refine s_al22 C dX9_takesLive_244 (fun x6 => ?_)
    refine s_as22 C dX9_takesLive_245 ?_
    refine s_aload_n C 0 dX9_takesLive_246 rfl rfl ?_
    refine s_gR C ci12 41 (by decide) (Or.inl wd_6_156) dX9_takesLive_247 (fun y7 => ?_)
    refine s_iload_n C 2 dX9_takesLive_250 rfl rfl ?_
    refine s_aload_n C 0 dX9_takesLive_251 rfl rfl ?_
    refine s_gR C ci12 30 (by decide) (Or.inl wd_6_145) dX9_takesLive_252 (fun y8 => ?_)
    refine s_iload_n C 1 dX9_takesLive_255 rfl rfl ?_
    refine s_al22 C dX9_takesLive_256 (fun x9 => ?_)
    refine s_as22 C dX9_takesLive_257 ?_
    refine s_aload_n C 0 dX9_takesLive_258 rfl rfl ?_
    refine s_dup C dX9_takesLive_259 rfl ?_
    refine s_gI C ci12 42 (by decide) (Or.inl wd_6_157) dX9_takesLive_260 (fun x10 => ?_)
    refine s_iconst (v := 1) C dX9_takesLive_263 (by decide) ?_
    refine s_iadd C dX9_takesLive_264 ?_
    refine s_pV C ci12 42 (by decide) rfl (Or.inl wd_6_157) dX9_takesLive_265 rfl rfl ?_
    refine s_iincK (lv' := [(1, .int (i1 + 1)), (0, .ref a0), (2, .int i2), (3, .int i3)]) (w := 1) C 1 dX9_takesLive_268 rfl (by decide) (by decide) rfl ?_
    refine s_goto (tgt := 12) C dX9_takesLive_271 (by decide) ?_
    refine s_sub [1, 0] rfl ?_
    exact hk12 a0 (i1 + 1)
  refine s_aload_n C 0 dX9_takesLive_194 rfl rfl ?_
  refine s_gR C ci12 38 (by decide) (Or.inl wd_6_153) dX9_takesLive_195 (fun y11 => ?_)
  refine s_bipush (v := 16) C dX9_takesLive_198 (by decide) ?_
  refine s_iload_n C 2 dX9_takesLive_200 rfl rfl ?_
  refine s_imul C dX9_takesLive_201 ?_
  refine s_iload_n C 3 dX9_takesLive_202 rfl rfl ?_
  refine s_iadd C dX9_takesLive_203 ?_
  refine s_aload_n C 0 dX9_takesLive_204 rfl rfl ?_
  refine s_gR C ci12 27 (by decide) (Or.inl wd_6_142) dX9_takesLive_205 (fun y12 => ?_)
  refine s_bipush (v := 16) C dX9_takesLive_208 (by decide) ?_
  refine s_iload_n C 1 dX9_takesLive_210 rfl rfl ?_
  refine s_imul C dX9_takesLive_211 ?_
  refine s_iload_n C 3 dX9_takesLive_212 rfl rfl ?_
  refine s_iadd C dX9_takesLive_213 ?_
  refine s_al21 C dX9_takesLive_214 (fun x13 => ?_)
  refine s_as21 C dX9_takesLive_215 ?_
  refine s_iincK (lv' := [(3, .int (i3 + 1)), (0, .ref a0), (1, .int i1), (2, .int i2)]) (w := 1) C 3 dX9_takesLive_216 rfl (by decide) (by decide) rfl ?_
  refine s_goto (tgt := 188) C dX9_takesLive_219 (by decide) ?_
  refine s_sub [1, 2, 3, 0] rfl ?_
  exact hk188 a0 i1 i2 (i3 + 1)
set_option maxRecDepth 20000 in
theorem X9_takesLive_b188_s (C : Cx G p R s m args meth c cX9_takesLive 5 yX9_takesLive.cls h0 h') (hF : R.frames = 0) (hO : R.locals = 0) (hr : meth.sig.returnType = none) (hm : meth.name = yX9_takesLive.name) {k12 : Nat → Int32 → M Unit} (hk12 : ∀ (a0 : Nat) (i1 : Int32), Sm G (QM G rvU below args s h0 r h') p l e R s m args below meth c 5 h0 r h' 12 [(0, .ref a0), (1, .int i1)] [] (k12 a0 i1)) (n : Nat) : ∀ (a0 : Nat) (i1 : Int32) (i2 : Int32) (i3 : Int32), Sm G (QM G rvU below args s h0 r h') p l e R s m args below meth c 5 h0 r h' 188 [(0, .ref a0), (1, .int i1), (2, .int i2), (3, .int i3)] [] (X9_takesLive_b188 k12 n a0 i1 i2 i3) := by
  induction n with
  | zero => intro a0 i1 i2 i3; exact s_fl
  | succ n ih => intro a0 i1 i2 i3; exact X9_takesLive_b188b_s C hF hO hr hm hk12 ih a0 i1 i2 i3
set_option maxRecDepth 20000 in
theorem X9_takesLive_b99b_s (C : Cx G p R s m args meth c cX9_takesLive 5 yX9_takesLive.cls h0 h') (hF : R.frames = 0) (hO : R.locals = 0) (hr : meth.sig.returnType = none) (hm : meth.name = yX9_takesLive.name) {k91 : Nat → Int32 → Int32 → Int32 → M Unit} (hk91 : ∀ (a0 : Nat) (i1 : Int32) (i2 : Int32) (i3 : Int32), Sm G (QM G rvU below args s h0 r h') p l e R s m args below meth c 5 h0 r h' 91 [(0, .ref a0), (1, .int i1), (2, .int i2), (3, .int i3)] [] (k91 a0 i1 i2 i3)) {k99 : Nat → Int32 → Int32 → Int32 → Int32 → M Unit} (hk99 : ∀ (a0 : Nat) (i1 : Int32) (i2 : Int32) (i3 : Int32) (i4 : Int32), Sm G (QM G rvU below args s h0 r h') p l e R s m args below meth c 5 h0 r h' 99 [(0, .ref a0), (1, .int i1), (2, .int i2), (3, .int i3), (4, .int i4)] [] (k99 a0 i1 i2 i3 i4)) (a0 : Nat) (i1 : Int32) (i2 : Int32) (i3 : Int32) (i4 : Int32) : Sm G (QM G rvU below args s h0 r h') p l e R s m args below meth c 5 h0 r h' 99 [(0, .ref a0), (1, .int i1), (2, .int i2), (3, .int i3), (4, .int i4)] [] (X9_takesLive_b99b k91 k99 a0 i1 i2 i3 i4) := by
  refine s_iload C 4 dX9_takesLive_99 rfl ?_
  refine s_bipush (v := 16) C dX9_takesLive_101 (by decide) ?_
  refine s_icmp_ge (tgt := 138) C dX9_takesLive_103 (by decide) ?_ ?_
  · refine s_aload_n C 0 dX9_takesLive_138 rfl rfl ?_
    refine s_gR C ci12 39 (by decide) (Or.inl wd_6_154) dX9_takesLive_139 (fun y1 => ?_)
    refine s_iload_n C 3 dX9_takesLive_142 rfl rfl ?_
    refine s_aload_n C 0 dX9_takesLive_143 rfl rfl ?_
    refine s_gR C ci12 39 (by decide) (Or.inl wd_6_154) dX9_takesLive_144 (fun y2 => ?_)
    refine s_iload_n C 3 dX9_takesLive_147 rfl rfl ?_
    refine s_iconst (v := 1) C dX9_takesLive_148 (by decide) ?_
    refine s_isub C dX9_takesLive_149 ?_
    refine s_al22 C dX9_takesLive_150 (fun x3 => ?_)
    refine s_as22 C dX9_takesLive_151 ?_
    refine s_aload_n C 0 dX9_takesLive_152 rfl rfl ?_
    refine s_gR C ci12 40 (by decide) (Or.inl wd_6_155) dX9_takesLive_153 (fun y4 => ?_)
    refine s_iload_n C 3 dX9_takesLive_156 rfl rfl ?_
    refine s_aload_n C 0 dX9_takesLive_157 rfl rfl ?_
    refine s_gR C ci12 40 (by decide) (Or.inl wd_6_155) dX9_takesLive_158 (fun y5 => ?_)
    refine s_iload_n C 3 dX9_takesLive_161 rfl rfl ?_
    refine s_iconst (v := 1) C dX9_takesLive_162 (by decide) ?_
    refine s_isub C dX9_takesLive_163 ?_
    refine s_al22 C dX9_takesLive_164 (fun x6 => ?_)
    refine s_as22 C dX9_takesLive_165 ?_
    refine s_aload_n C 0 dX9_takesLive_166 rfl rfl ?_
    refine s_gR C ci12 41 (by decide) (Or.inl wd_6_156) dX9_takesLive_167 (fun y7 => ?_)
    refine s_iload_n C 3 dX9_takesLive_170 rfl rfl ?_
    refine s_aload_n C 0 dX9_takesLive_171 rfl rfl ?_
    refine s_gR C ci12 41 (by decide) (Or.inl wd_6_156) dX9_takesLive_172 (fun y8 => ?_)
    refine s_iload_n C 3 dX9_takesLive_175 rfl rfl ?_
    refine s_iconst (v := 1) C dX9_takesLive_176 (by decide) ?_
    refine s_isub C dX9_takesLive_177 ?_
    refine s_al22 C dX9_takesLive_178 (fun x9 => ?_)
    refine s_as22 C dX9_takesLive_179 ?_
    refine s_iincK (lv' := [(3, .int (i3 + (-1))), (0, .ref a0), (1, .int i1), (2, .int i2), (4, .int i4)]) (w := (-1)) C 3 dX9_takesLive_180 rfl (by decide) (by decide) rfl ?_
    refine s_goto (tgt := 91) C dX9_takesLive_183 (by decide) ?_
    refine s_sub [1, 2, 3, 0] rfl ?_
    exact hk91 a0 i1 i2 (i3 + (-1))
  refine s_aload_n C 0 dX9_takesLive_106 rfl rfl ?_
  refine s_gR C ci12 38 (by decide) (Or.inl wd_6_153) dX9_takesLive_107 (fun y10 => ?_)
  refine s_bipush (v := 16) C dX9_takesLive_110 (by decide) ?_
  refine s_iload_n C 3 dX9_takesLive_112 rfl rfl ?_
  refine s_imul C dX9_takesLive_113 ?_
  refine s_iload C 4 dX9_takesLive_114 rfl ?_
  refine s_iadd C dX9_takesLive_116 ?_
  refine s_aload_n C 0 dX9_takesLive_117 rfl rfl ?_
  refine s_gR C ci12 38 (by decide) (Or.inl wd_6_153) dX9_takesLive_118 (fun y11 => ?_)
  refine s_bipush (v := 16) C dX9_takesLive_121 (by decide) ?_
  refine s_iload_n C 3 dX9_takesLive_123 rfl rfl ?_
  refine s_iconst (v := 1) C dX9_takesLive_124 (by decide) ?_
  refine s_isub C dX9_takesLive_125 ?_
  refine s_imul C dX9_takesLive_126 ?_
  refine s_iload C 4 dX9_takesLive_127 rfl ?_
  refine s_iadd C dX9_takesLive_129 ?_
  refine s_al21 C dX9_takesLive_130 (fun x12 => ?_)
  refine s_as21 C dX9_takesLive_131 ?_
  refine s_iincK (lv' := [(4, .int (i4 + 1)), (0, .ref a0), (1, .int i1), (2, .int i2), (3, .int i3)]) (w := 1) C 4 dX9_takesLive_132 rfl (by decide) (by decide) rfl ?_
  refine s_goto (tgt := 99) C dX9_takesLive_135 (by decide) ?_
  refine s_sub [1, 2, 3, 4, 0] rfl ?_
  exact hk99 a0 i1 i2 i3 (i4 + 1)
set_option maxRecDepth 20000 in
theorem X9_takesLive_b99_s (C : Cx G p R s m args meth c cX9_takesLive 5 yX9_takesLive.cls h0 h') (hF : R.frames = 0) (hO : R.locals = 0) (hr : meth.sig.returnType = none) (hm : meth.name = yX9_takesLive.name) {k91 : Nat → Int32 → Int32 → Int32 → M Unit} (hk91 : ∀ (a0 : Nat) (i1 : Int32) (i2 : Int32) (i3 : Int32), Sm G (QM G rvU below args s h0 r h') p l e R s m args below meth c 5 h0 r h' 91 [(0, .ref a0), (1, .int i1), (2, .int i2), (3, .int i3)] [] (k91 a0 i1 i2 i3)) (n : Nat) : ∀ (a0 : Nat) (i1 : Int32) (i2 : Int32) (i3 : Int32) (i4 : Int32), Sm G (QM G rvU below args s h0 r h') p l e R s m args below meth c 5 h0 r h' 99 [(0, .ref a0), (1, .int i1), (2, .int i2), (3, .int i3), (4, .int i4)] [] (X9_takesLive_b99 k91 n a0 i1 i2 i3 i4) := by
  induction n with
  | zero => intro a0 i1 i2 i3 i4; exact s_fl
  | succ n ih => intro a0 i1 i2 i3 i4; exact X9_takesLive_b99b_s C hF hO hr hm hk91 ih a0 i1 i2 i3 i4
set_option maxRecDepth 20000 in
theorem X9_takesLive_b91b_s (C : Cx G p R s m args meth c cX9_takesLive 5 yX9_takesLive.cls h0 h') (hF : R.frames = 0) (hO : R.locals = 0) (hr : meth.sig.returnType = none) (hm : meth.name = yX9_takesLive.name) {k12 : Nat → Int32 → M Unit} (hk12 : ∀ (a0 : Nat) (i1 : Int32), Sm G (QM G rvU below args s h0 r h') p l e R s m args below meth c 5 h0 r h' 12 [(0, .ref a0), (1, .int i1)] [] (k12 a0 i1)) {k91 : Nat → Int32 → Int32 → Int32 → M Unit} (hk91 : ∀ (a0 : Nat) (i1 : Int32) (i2 : Int32) (i3 : Int32), Sm G (QM G rvU below args s h0 r h') p l e R s m args below meth c 5 h0 r h' 91 [(0, .ref a0), (1, .int i1), (2, .int i2), (3, .int i3)] [] (k91 a0 i1 i2 i3)) (a0 : Nat) (i1 : Int32) (i2 : Int32) (i3 : Int32) : Sm G (QM G rvU below args s h0 r h') p l e R s m args below meth c 5 h0 r h' 91 [(0, .ref a0), (1, .int i1), (2, .int i2), (3, .int i3)] [] (X9_takesLive_b91b k12 k91 a0 i1 i2 i3) := by
  refine s_iload_n C 3 dX9_takesLive_91 rfl rfl ?_
  refine s_iload_n C 2 dX9_takesLive_92 rfl rfl ?_
  refine s_icmp_le (tgt := 186) C dX9_takesLive_93 (by decide) ?_ ?_
  · refine s_iconst (v := 0) C dX9_takesLive_186 (by decide) ?_
    refine s_istore_n (lv' := [(3, .int 0), (0, .ref a0), (1, .int i1), (2, .int i2)]) C dX9_takesLive_187 rfl (by decide) rfl ?_
    refine s_sub [1, 2, 3, 0] rfl ?_
    exact X9_takesLive_b188_s C hF hO hr hm hk12 FU a0 i1 i2 0
  refine s_iconst (v := 0) C dX9_takesLive_96 (by decide) ?_
  refine s_istore (lv' := [(4, .int 0), (0, .ref a0), (1, .int i1), (2, .int i2), (3, .int i3)]) C dX9_takesLive_97 (by decide) rfl ?_
  refine s_sub [1, 2, 3, 4, 0] rfl ?_
  exact X9_takesLive_b99_s C hF hO hr hm hk91 FU a0 i1 i2 i3 0
set_option maxRecDepth 20000 in
theorem X9_takesLive_b91_s (C : Cx G p R s m args meth c cX9_takesLive 5 yX9_takesLive.cls h0 h') (hF : R.frames = 0) (hO : R.locals = 0) (hr : meth.sig.returnType = none) (hm : meth.name = yX9_takesLive.name) {k12 : Nat → Int32 → M Unit} (hk12 : ∀ (a0 : Nat) (i1 : Int32), Sm G (QM G rvU below args s h0 r h') p l e R s m args below meth c 5 h0 r h' 12 [(0, .ref a0), (1, .int i1)] [] (k12 a0 i1)) (n : Nat) : ∀ (a0 : Nat) (i1 : Int32) (i2 : Int32) (i3 : Int32), Sm G (QM G rvU below args s h0 r h') p l e R s m args below meth c 5 h0 r h' 91 [(0, .ref a0), (1, .int i1), (2, .int i2), (3, .int i3)] [] (X9_takesLive_b91 k12 n a0 i1 i2 i3) := by
  induction n with
  | zero => intro a0 i1 i2 i3; exact s_fl
  | succ n ih => intro a0 i1 i2 i3; exact X9_takesLive_b91b_s C hF hO hr hm hk12 ih a0 i1 i2 i3
set_option maxRecDepth 20000 in
theorem X9_takesLive_b86_s (C : Cx G p R s m args meth c cX9_takesLive 5 yX9_takesLive.cls h0 h') (hF : R.frames = 0) (hO : R.locals = 0) (hr : meth.sig.returnType = none) (hm : meth.name = yX9_takesLive.name) {k12 : Nat → Int32 → M Unit} (hk12 : ∀ (a0 : Nat) (i1 : Int32), Sm G (QM G rvU below args s h0 r h') p l e R s m args below meth c 5 h0 r h' 12 [(0, .ref a0), (1, .int i1)] [] (k12 a0 i1))  (a0 : Nat) (i1 : Int32) (i2 : Int32) : Sm G (QM G rvU below args s h0 r h') p l e R s m args below meth c 5 h0 r h' 86 [(0, .ref a0), (1, .int i1), (2, .int i2)] [] (X9_takesLive_b86 k12  a0 i1 i2) := by
  refine s_aload_n C 0 dX9_takesLive_86 rfl rfl ?_
  refine s_gI C ci12 42 (by decide) (Or.inl wd_6_157) dX9_takesLive_87 (fun x1 => ?_)
  refine s_istore_n (lv' := [(3, .int x1), (0, .ref a0), (1, .int i1), (2, .int i2)]) C dX9_takesLive_90 rfl (by decide) rfl ?_
  refine s_sub [1, 2, 3, 0] rfl ?_
  exact X9_takesLive_b91_s C hF hO hr hm hk12 FU a0 i1 i2 x1
set_option maxRecDepth 20000 in
theorem X9_takesLive_b80_s (C : Cx G p R s m args meth c cX9_takesLive 5 yX9_takesLive.cls h0 h') (hF : R.frames = 0) (hO : R.locals = 0) (hr : meth.sig.returnType = none) (hm : meth.name = yX9_takesLive.name) {k25 : Nat → Int32 → Int32 → M Unit} (hk25 : ∀ (a0 : Nat) (i1 : Int32) (i2 : Int32), Sm G (QM G rvU below args s h0 r h') p l e R s m args below meth c 5 h0 r h' 25 [(0, .ref a0), (1, .int i1), (2, .int i2)] [] (k25 a0 i1 i2))  (a0 : Nat) (i1 : Int32) (i2 : Int32) : Sm G (QM G rvU below args s h0 r h') p l e R s m args below meth c 5 h0 r h' 80 [(0, .ref a0), (1, .int i1), (2, .int i2)] [] (X9_takesLive_b80 k25  a0 i1 i2) := by
  refine s_iincK (lv' := [(2, .int (i2 + (-1))), (0, .ref a0), (1, .int i1)]) (w := (-1)) C 2 dX9_takesLive_80 rfl (by decide) (by decide) rfl ?_
  refine s_goto (tgt := 25) C dX9_takesLive_83 (by decide) ?_
  refine s_sub [1, 2, 0] rfl ?_
  exact hk25 a0 i1 (i2 + (-1))
set_option maxRecDepth 20000 in
theorem X9_takesLive_b25b_s (C : Cx G p R s m args meth c cX9_takesLive 5 yX9_takesLive.cls h0 h') (hF : R.frames = 0) (hO : R.locals = 0) (hr : meth.sig.returnType = none) (hm : meth.name = yX9_takesLive.name) {k12 : Nat → Int32 → M Unit} (hk12 : ∀ (a0 : Nat) (i1 : Int32), Sm G (QM G rvU below args s h0 r h') p l e R s m args below meth c 5 h0 r h' 12 [(0, .ref a0), (1, .int i1)] [] (k12 a0 i1)) {k25 : Nat → Int32 → Int32 → M Unit} (hk25 : ∀ (a0 : Nat) (i1 : Int32) (i2 : Int32), Sm G (QM G rvU below args s h0 r h') p l e R s m args below meth c 5 h0 r h' 25 [(0, .ref a0), (1, .int i1), (2, .int i2)] [] (k25 a0 i1 i2)) (a0 : Nat) (i1 : Int32) (i2 : Int32) : Sm G (QM G rvU below args s h0 r h') p l e R s m args below meth c 5 h0 r h' 25 [(0, .ref a0), (1, .int i1), (2, .int i2)] [] (X9_takesLive_b25b k12 k25 a0 i1 i2) := by
  refine s_iload_n C 2 dX9_takesLive_25 rfl rfl ?_
  refine s_if_le (tgt := 86) C dX9_takesLive_26 (by decide) ?_ ?_
  · exact X9_takesLive_b86_s C hF hO hr hm hk12  a0 i1 i2
  refine s_aload_n C 0 dX9_takesLive_29 rfl rfl ?_
  refine s_gR C ci12 40 (by decide) (Or.inl wd_6_155) dX9_takesLive_30 (fun y1 => ?_)
  refine s_iload_n C 2 dX9_takesLive_33 rfl rfl ?_
  refine s_iconst (v := 1) C dX9_takesLive_34 (by decide) ?_
  refine s_isub C dX9_takesLive_35 ?_
  refine s_al22 C dX9_takesLive_36 (fun x2 => ?_)
  refine s_aload_n C 0 dX9_takesLive_37 rfl rfl ?_
  refine s_gR C ci12 29 (by decide) (Or.inl wd_6_144) dX9_takesLive_38 (fun y3 => ?_)
  refine s_iload_n C 1 dX9_takesLive_41 rfl rfl ?_
  refine s_al22 C dX9_takesLive_42 (fun x4 => ?_)
  refine s_icmp_gt (tgt := 80) C dX9_takesLive_43 (by decide) ?_ ?_
  · exact X9_takesLive_b80_s C hF hO hr hm hk25  a0 i1 i2
  refine s_aload_n C 0 dX9_takesLive_46 rfl rfl ?_
  refine s_gR C ci12 40 (by decide) (Or.inl wd_6_155) dX9_takesLive_47 (fun y5 => ?_)
  refine s_iload_n C 2 dX9_takesLive_50 rfl rfl ?_
  refine s_iconst (v := 1) C dX9_takesLive_51 (by decide) ?_
  refine s_isub C dX9_takesLive_52 ?_
  refine s_al22 C dX9_takesLive_53 (fun x6 => ?_)
  refine s_aload_n C 0 dX9_takesLive_54 rfl rfl ?_
  refine s_gR C ci12 29 (by decide) (Or.inl wd_6_144) dX9_takesLive_55 (fun y7 => ?_)
  refine s_iload_n C 1 dX9_takesLive_58 rfl rfl ?_
  refine s_al22 C dX9_takesLive_59 (fun x8 => ?_)
  refine s_icmp_ne (tgt := 86) C dX9_takesLive_60 (by decide) ?_ ?_
  · exact X9_takesLive_b86_s C hF hO hr hm hk12  a0 i1 i2
  refine s_aload_n C 0 dX9_takesLive_63 rfl rfl ?_
  refine s_gR C ci12 41 (by decide) (Or.inl wd_6_156) dX9_takesLive_64 (fun y9 => ?_)
  refine s_iload_n C 2 dX9_takesLive_67 rfl rfl ?_
  refine s_iconst (v := 1) C dX9_takesLive_68 (by decide) ?_
  refine s_isub C dX9_takesLive_69 ?_
  refine s_al22 C dX9_takesLive_70 (fun x10 => ?_)
  refine s_aload_n C 0 dX9_takesLive_71 rfl rfl ?_
  refine s_gR C ci12 30 (by decide) (Or.inl wd_6_145) dX9_takesLive_72 (fun y11 => ?_)
  refine s_iload_n C 1 dX9_takesLive_75 rfl rfl ?_
  refine s_al22 C dX9_takesLive_76 (fun x12 => ?_)
  refine s_icmp_le (tgt := 86) C dX9_takesLive_77 (by decide) ?_ ?_
  · exact X9_takesLive_b86_s C hF hO hr hm hk12  a0 i1 i2
  exact X9_takesLive_b80_s C hF hO hr hm hk25  a0 i1 i2
set_option maxRecDepth 20000 in
theorem X9_takesLive_b25_s (C : Cx G p R s m args meth c cX9_takesLive 5 yX9_takesLive.cls h0 h') (hF : R.frames = 0) (hO : R.locals = 0) (hr : meth.sig.returnType = none) (hm : meth.name = yX9_takesLive.name) {k12 : Nat → Int32 → M Unit} (hk12 : ∀ (a0 : Nat) (i1 : Int32), Sm G (QM G rvU below args s h0 r h') p l e R s m args below meth c 5 h0 r h' 12 [(0, .ref a0), (1, .int i1)] [] (k12 a0 i1)) (n : Nat) : ∀ (a0 : Nat) (i1 : Int32) (i2 : Int32), Sm G (QM G rvU below args s h0 r h') p l e R s m args below meth c 5 h0 r h' 25 [(0, .ref a0), (1, .int i1), (2, .int i2)] [] (X9_takesLive_b25 k12 n a0 i1 i2) := by
  induction n with
  | zero => intro a0 i1 i2; exact s_fl
  | succ n ih => intro a0 i1 i2; exact X9_takesLive_b25b_s C hF hO hr hm hk12 ih a0 i1 i2
set_option maxRecDepth 20000 in
theorem X9_takesLive_b12b_s (C : Cx G p R s m args meth c cX9_takesLive 5 yX9_takesLive.cls h0 h') (hF : R.frames = 0) (hO : R.locals = 0) (hr : meth.sig.returnType = none) (hm : meth.name = yX9_takesLive.name)  {k12 : Nat → Int32 → M Unit} (hk12 : ∀ (a0 : Nat) (i1 : Int32), Sm G (QM G rvU below args s h0 r h') p l e R s m args below meth c 5 h0 r h' 12 [(0, .ref a0), (1, .int i1)] [] (k12 a0 i1)) (a0 : Nat) (i1 : Int32) : Sm G (QM G rvU below args s h0 r h') p l e R s m args below meth c 5 h0 r h' 12 [(0, .ref a0), (1, .int i1)] [] (X9_takesLive_b12b  k12 a0 i1) := by
  refine s_iload_n C 1 dX9_takesLive_12 rfl rfl ?_
  refine s_aload_n C 0 dX9_takesLive_13 rfl rfl ?_
  refine s_gI C ci12 33 (by decide) (Or.inl wd_6_148) dX9_takesLive_14 (fun x1 => ?_)
  refine s_icmp_ge (tgt := 274) C dX9_takesLive_17 (by decide) ?_ ?_
  · exact s_vret C hr rfl dX9_takesLive_274
  refine s_aload_n C 0 dX9_takesLive_20 rfl rfl ?_
  refine s_gI C ci12 42 (by decide) (Or.inl wd_6_157) dX9_takesLive_21 (fun x2 => ?_)
  refine s_istore_n (lv' := [(2, .int x2), (0, .ref a0), (1, .int i1)]) C dX9_takesLive_24 rfl (by decide) rfl ?_
  refine s_sub [1, 2, 0] rfl ?_
  exact X9_takesLive_b25_s C hF hO hr hm hk12 FU a0 i1 x2
set_option maxRecDepth 20000 in
theorem X9_takesLive_b12_s (C : Cx G p R s m args meth c cX9_takesLive 5 yX9_takesLive.cls h0 h') (hF : R.frames = 0) (hO : R.locals = 0) (hr : meth.sig.returnType = none) (hm : meth.name = yX9_takesLive.name)  (n : Nat) : ∀ (a0 : Nat) (i1 : Int32), Sm G (QM G rvU below args s h0 r h') p l e R s m args below meth c 5 h0 r h' 12 [(0, .ref a0), (1, .int i1)] [] (X9_takesLive_b12  n a0 i1) := by
  induction n with
  | zero => intro a0 i1; exact s_fl
  | succ n ih => intro a0 i1; exact X9_takesLive_b12b_s C hF hO hr hm  ih a0 i1
end
set_option maxRecDepth 20000 in
theorem con_X9_takesLive (l : Launch) (G : Gx) (a0 : Nat) : Con G rvU l yX9_takesLive cX9_takesLive 5 none 0 0 [.ref a0] (X9_takesLive a0) := by
  refine con_of (lv := [(0, .ref a0)]) (by decide) (Nat.le_of_ble_eq_true rfl) rfl (fun p e R s m args below meth c h0 r h' C hF hO hr hm => ?_)
  refine s_aload_n C 0 dX9_takesLive_0 rfl rfl ?_
  refine s_iconst (v := 0) C dX9_takesLive_1 (by decide) ?_
  refine s_pV C ci12 42 (by decide) rfl (Or.inl wd_6_157) dX9_takesLive_2 rfl rfl ?_
  refine s_aload_n C 0 dX9_takesLive_5 rfl rfl ?_
  refine s_iconst (v := 0) C dX9_takesLive_6 (by decide) ?_
  refine s_pV C ci12 43 (by decide) rfl (Or.inl wd_6_158) dX9_takesLive_7 rfl rfl ?_
  refine s_iconst (v := 0) C dX9_takesLive_10 (by decide) ?_
  refine s_istore_n (lv' := [(1, .int 0), (0, .ref a0)]) C dX9_takesLive_11 rfl (by decide) rfl ?_
  refine s_sub [1, 0] rfl ?_
  exact X9_takesLive_b12_s C hF hO hr hm  FU a0 0

theorem dX9_entryOf_0 : decode cX9_entryOf 0 = .ok (.aload_n 0, 1) := by decide +kernel
theorem dX9_entryOf_1 : decode cX9_entryOf 1 = .ok (.aload_n 0, 1) := by decide +kernel
theorem dX9_entryOf_2 : decode cX9_entryOf 2 = .ok (.getfield 59, 3) := by decide +kernel
theorem dX9_entryOf_5 : decode cX9_entryOf 5 = .ok (.bipush 16, 2) := by decide +kernel
theorem dX9_entryOf_7 : decode cX9_entryOf 7 = .ok (.iload_n 1, 1) := by decide +kernel
theorem dX9_entryOf_8 : decode cX9_entryOf 8 = .ok (.imul, 1) := by decide +kernel
theorem dX9_entryOf_9 : decode cX9_entryOf 9 = .ok (.aload_n 0, 1) := by decide +kernel
theorem dX9_entryOf_10 : decode cX9_entryOf 10 = .ok (.getfield 62, 3) := by decide +kernel
theorem dX9_entryOf_13 : decode cX9_entryOf 13 = .ok (.iload_n 1, 1) := by decide +kernel
theorem dX9_entryOf_14 : decode cX9_entryOf 14 = .ok (.iaload, 1) := by decide +kernel
theorem dX9_entryOf_15 : decode cX9_entryOf 15 = .ok (.invokevirtual 174, 3) := by decide +kernel
theorem dX9_entryOf_18 : decode cX9_entryOf 18 = .ok (.ireturn, 1) := by decide +kernel
def X9_entryOf (a0 : Nat) (i1 : Int32) : M Int32 := bd (gR 12 38 a0) (fun y1 => bd (gR 12 39 a0) (fun y2 => bd (al 22 y2 i1) (fun x3 => bd (ck 12 a0) (fun _ => bd (X9_placeOf a0 y1 (16 * i1) x3) (fun x4 => pu x4)))))
section
variable {G : Gx} {p : Program} {l : Launch} {e : Env} {R : Room} {s : State} {m : MethodId} {args : Array Value} {below : List Frame} {meth : Method} {c : Code} {h0 : Hp} {r : Int32} {h' : Hp}
end
set_option maxRecDepth 20000 in
theorem con_X9_entryOf (l : Launch) (G : Gx) (a0 : Nat) (i1 : Int32) : Con G rvI l yX9_entryOf cX9_entryOf 2 (some .int) 2 51 [.ref a0, .int i1] (X9_entryOf a0 i1) := by
  refine con_of (lv := [(0, .ref a0), (1, .int i1)]) (by decide) (Nat.le_of_ble_eq_true rfl) rfl (fun p e R s m args below meth c h0 r h' C hF hO hr hm => ?_)
  refine s_aload_n C 0 dX9_entryOf_0 rfl rfl ?_
  refine s_aload_n C 0 dX9_entryOf_1 rfl rfl ?_
  refine s_gR C ci12 38 (by decide) (Or.inl wd_6_153) dX9_entryOf_2 (fun y1 => ?_)
  refine s_bipush (v := 16) C dX9_entryOf_5 (by decide) ?_
  refine s_iload_n C 1 dX9_entryOf_7 rfl rfl ?_
  refine s_imul C dX9_entryOf_8 ?_
  refine s_aload_n C 0 dX9_entryOf_9 rfl rfl ?_
  refine s_gR C ci12 39 (by decide) (Or.inl wd_6_154) dX9_entryOf_10 (fun y2 => ?_)
  refine s_iload_n C 1 dX9_entryOf_13 rfl rfl ?_
  refine s_al22 C dX9_entryOf_14 (fun x3 => ?_)
  refine s_invV_i C ci12 cy_X9_placeOf (Or.inl wd_7_104) rfl wd_7_106 wp_41 (con_X9_placeOf l G a0 y1 (16 * i1) x3) rfl rfl (Nat.le_of_ble_eq_true rfl) (by rw [hF]; decide) (by rw [hO]; exact Nat.le_of_ble_eq_true rfl) dX9_entryOf_15 (fun x4 => ?_)
  exact s_iret C hr rfl dX9_entryOf_18

theorem dX9_needed_0 : decode cX9_needed 0 = .ok (.bipush 8, 2) := by decide +kernel
theorem dX9_needed_2 : decode cX9_needed 2 = .ok (.iconst 4, 1) := by decide +kernel
theorem dX9_needed_3 : decode cX9_needed 3 = .ok (.aload_n 0, 1) := by decide +kernel
theorem dX9_needed_4 : decode cX9_needed 4 = .ok (.getfield 298, 3) := by decide +kernel
theorem dX9_needed_7 : decode cX9_needed 7 = .ok (.imul, 1) := by decide +kernel
theorem dX9_needed_8 : decode cX9_needed 8 = .ok (.iadd, 1) := by decide +kernel
theorem dX9_needed_9 : decode cX9_needed 9 = .ok (.istore_n 1, 1) := by decide +kernel
theorem dX9_needed_10 : decode cX9_needed 10 = .ok (.iconst 0, 1) := by decide +kernel
theorem dX9_needed_11 : decode cX9_needed 11 = .ok (.istore_n 2, 1) := by decide +kernel
theorem dX9_needed_12 : decode cX9_needed 12 = .ok (.iconst 0, 1) := by decide +kernel
theorem dX9_needed_13 : decode cX9_needed 13 = .ok (.istore_n 3, 1) := by decide +kernel
theorem dX9_needed_14 : decode cX9_needed 14 = .ok (.iconst 0, 1) := by decide +kernel
theorem dX9_needed_15 : decode cX9_needed 15 = .ok (.istore 4, 2) := by decide +kernel
theorem dX9_needed_17 : decode cX9_needed 17 = .ok (.iload 4, 2) := by decide +kernel
theorem dX9_needed_19 : decode cX9_needed 19 = .ok (.aload_n 0, 1) := by decide +kernel
theorem dX9_needed_20 : decode cX9_needed 20 = .ok (.getfield 289, 3) := by decide +kernel
theorem dX9_needed_23 : decode cX9_needed 23 = .ok (.if_icmp .ge 74, 3) := by decide +kernel
theorem dX9_needed_26 : decode cX9_needed 26 = .ok (.aload_n 0, 1) := by decide +kernel
theorem dX9_needed_27 : decode cX9_needed 27 = .ok (.aload_n 0, 1) := by decide +kernel
theorem dX9_needed_28 : decode cX9_needed 28 = .ok (.iload 4, 2) := by decide +kernel
theorem dX9_needed_30 : decode cX9_needed 30 = .ok (.invokevirtual 301, 3) := by decide +kernel
theorem dX9_needed_33 : decode cX9_needed 33 = .ok (.invokevirtual 191, 3) := by decide +kernel
theorem dX9_needed_36 : decode cX9_needed 36 = .ok (.istore 5, 2) := by decide +kernel
theorem dX9_needed_38 : decode cX9_needed 38 = .ok (.iload_n 3, 1) := by decide +kernel
theorem dX9_needed_39 : decode cX9_needed 39 = .ok (.ifCond .le 22, 3) := by decide +kernel
theorem dX9_needed_42 : decode cX9_needed 42 = .ok (.iload_n 2, 1) := by decide +kernel
theorem dX9_needed_43 : decode cX9_needed 43 = .ok (.iload 5, 2) := by decide +kernel
theorem dX9_needed_45 : decode cX9_needed 45 = .ok (.iadd, 1) := by decide +kernel
theorem dX9_needed_46 : decode cX9_needed 46 = .ok (.aload_n 0, 1) := by decide +kernel
theorem dX9_needed_47 : decode cX9_needed 47 = .ok (.getfield 100, 3) := by decide +kernel
theorem dX9_needed_50 : decode cX9_needed 50 = .ok (.if_icmp .le 11, 3) := by decide +kernel
theorem dX9_needed_53 : decode cX9_needed 53 = .ok (.iload_n 1, 1) := by decide +kernel
theorem dX9_needed_54 : decode cX9_needed 54 = .ok (.iload_n 3, 1) := by decide +kernel
theorem dX9_needed_55 : decode cX9_needed 55 = .ok (.iadd, 1) := by decide +kernel
theorem dX9_needed_56 : decode cX9_needed 56 = .ok (.istore_n 1, 1) := by decide +kernel
theorem dX9_needed_57 : decode cX9_needed 57 = .ok (.iconst 0, 1) := by decide +kernel
theorem dX9_needed_58 : decode cX9_needed 58 = .ok (.istore_n 3, 1) := by decide +kernel
theorem dX9_needed_59 : decode cX9_needed 59 = .ok (.iconst 0, 1) := by decide +kernel
theorem dX9_needed_60 : decode cX9_needed 60 = .ok (.istore_n 2, 1) := by decide +kernel
theorem dX9_needed_61 : decode cX9_needed 61 = .ok (.iload_n 3, 1) := by decide +kernel
theorem dX9_needed_62 : decode cX9_needed 62 = .ok (.ifCond .ne 6, 3) := by decide +kernel
theorem dX9_needed_65 : decode cX9_needed 65 = .ok (.bipush 8, 2) := by decide +kernel
theorem dX9_needed_67 : decode cX9_needed 67 = .ok (.istore_n 3, 1) := by decide +kernel
theorem dX9_needed_68 : decode cX9_needed 68 = .ok (.iload_n 3, 1) := by decide +kernel
theorem dX9_needed_69 : decode cX9_needed 69 = .ok (.bipush 14, 2) := by decide +kernel
theorem dX9_needed_71 : decode cX9_needed 71 = .ok (.aload_n 0, 1) := by decide +kernel
theorem dX9_needed_72 : decode cX9_needed 72 = .ok (.getfield 62, 3) := by decide +kernel
theorem dX9_needed_75 : decode cX9_needed 75 = .ok (.iload 4, 2) := by decide +kernel
theorem dX9_needed_77 : decode cX9_needed 77 = .ok (.iaload, 1) := by decide +kernel
theorem dX9_needed_78 : decode cX9_needed 78 = .ok (.iadd, 1) := by decide +kernel
theorem dX9_needed_79 : decode cX9_needed 79 = .ok (.iadd, 1) := by decide +kernel
theorem dX9_needed_80 : decode cX9_needed 80 = .ok (.istore_n 3, 1) := by decide +kernel
theorem dX9_needed_81 : decode cX9_needed 81 = .ok (.iload_n 2, 1) := by decide +kernel
theorem dX9_needed_82 : decode cX9_needed 82 = .ok (.iload 5, 2) := by decide +kernel
theorem dX9_needed_84 : decode cX9_needed 84 = .ok (.iadd, 1) := by decide +kernel
theorem dX9_needed_85 : decode cX9_needed 85 = .ok (.istore_n 2, 1) := by decide +kernel
theorem dX9_needed_86 : decode cX9_needed 86 = .ok (.iload_n 1, 1) := by decide +kernel
theorem dX9_needed_87 : decode cX9_needed 87 = .ok (.iload 5, 2) := by decide +kernel
theorem dX9_needed_89 : decode cX9_needed 89 = .ok (.iadd, 1) := by decide +kernel
theorem dX9_needed_90 : decode cX9_needed 90 = .ok (.istore_n 1, 1) := by decide +kernel
theorem dX9_needed_91 : decode cX9_needed 91 = .ok (.iinc 4 1, 3) := by decide +kernel
theorem dX9_needed_94 : decode cX9_needed 94 = .ok (.goto (-77), 3) := by decide +kernel
theorem dX9_needed_97 : decode cX9_needed 97 = .ok (.iload_n 1, 1) := by decide +kernel
theorem dX9_needed_98 : decode cX9_needed 98 = .ok (.iload_n 3, 1) := by decide +kernel
theorem dX9_needed_99 : decode cX9_needed 99 = .ok (.iadd, 1) := by decide +kernel
theorem dX9_needed_100 : decode cX9_needed 100 = .ok (.ireturn, 1) := by decide +kernel
def X9_needed_b68 (k17 : Nat → Int32 → Int32 → Int32 → Int32 → M Int32)  (a0 : Nat) (i1 : Int32) (i2 : Int32) (i3 : Int32) (i4 : Int32) (i5 : Int32) : M Int32 := bd (gR 12 39 a0) (fun y1 => bd (al 22 y1 i4) (fun x2 => bd (pu (i3 + (14 + x2))) (fun x3 => bd (pu (i2 + i5)) (fun x4 => bd (pu (i1 + i5)) (fun x5 => k17 a0 x5 x4 x3 (i4 + 1))))))
def X9_needed_b61 (k17 : Nat → Int32 → Int32 → Int32 → Int32 → M Int32)  (a0 : Nat) (i1 : Int32) (i2 : Int32) (i3 : Int32) (i4 : Int32) (i5 : Int32) : M Int32 := it (¬ i3 = 0) (X9_needed_b68 k17  a0 i1 i2 i3 i4 i5) (X9_needed_b68 k17  a0 i1 i2 8 i4 i5)
def X9_needed_b17b  (k17 : Nat → Int32 → Int32 → Int32 → Int32 → M Int32) (a0 : Nat) (i1 : Int32) (i2 : Int32) (i3 : Int32) (i4 : Int32) : M Int32 := bd (gI 12 42 a0) (fun x1 => it (x1 ≤ i4) (pu (i1 + i3)) (bd (ck 12 a0) (fun _ => bd (X9_entryOf a0 i4) (fun x2 => bd (ck 12 a0) (fun _ => bd (X9_recordBytes a0 x2) (fun x3 => it (i3 ≤ 0) (X9_needed_b61 k17  a0 i1 i2 i3 i4 x3) (bd (gI 12 2 a0) (fun x4 => it ((i2 + x3) ≤ x4) (X9_needed_b61 k17  a0 i1 i2 i3 i4 x3) (bd (pu (i1 + i3)) (fun x5 => X9_needed_b61 k17  a0 x5 0 0 i4 x3))))))))))
def X9_needed_b17  : Nat → Nat → Int32 → Int32 → Int32 → Int32 → M Int32
  | 0 => fun _ _ _ _ _ => fl
  | n + 1 => fun a0 i1 i2 i3 i4 => X9_needed_b17b  (X9_needed_b17  n) a0 i1 i2 i3 i4
def X9_needed (a0 : Nat) : M Int32 := bd (gI 12 45 a0) (fun x1 => bd (pu (8 + (4 * x1))) (fun x2 => X9_needed_b17  FU a0 x2 0 0 0))
section
variable {G : Gx} {p : Program} {l : Launch} {e : Env} {R : Room} {s : State} {m : MethodId} {args : Array Value} {below : List Frame} {meth : Method} {c : Code} {h0 : Hp} {r : Int32} {h' : Hp}
set_option maxRecDepth 20000 in
theorem X9_needed_b68_s (C : Cx G p R s m args meth c cX9_needed 6 yX9_needed.cls h0 h') (hF : R.frames = 3) (hO : R.locals = 72) (hr : meth.sig.returnType = (some .int)) (hm : meth.name = yX9_needed.name) {k17 : Nat → Int32 → Int32 → Int32 → Int32 → M Int32} (hk17 : ∀ (a0 : Nat) (i1 : Int32) (i2 : Int32) (i3 : Int32) (i4 : Int32), Sm G (QM G rvI below args s h0 r h') p l e R s m args below meth c 6 h0 r h' 17 [(0, .ref a0), (1, .int i1), (2, .int i2), (3, .int i3), (4, .int i4)] [] (k17 a0 i1 i2 i3 i4))  (a0 : Nat) (i1 : Int32) (i2 : Int32) (i3 : Int32) (i4 : Int32) (i5 : Int32) : Sm G (QM G rvI below args s h0 r h') p l e R s m args below meth c 6 h0 r h' 68 [(0, .ref a0), (1, .int i1), (2, .int i2), (3, .int i3), (4, .int i4), (5, .int i5)] [] (X9_needed_b68 k17  a0 i1 i2 i3 i4 i5) := by
  refine s_iload_n C 3 dX9_needed_68 rfl rfl ?_
  refine s_bipush (v := 14) C dX9_needed_69 (by decide) ?_
  refine s_aload_n C 0 dX9_needed_71 rfl rfl ?_
  refine s_gR C ci12 39 (by decide) (Or.inl wd_6_154) dX9_needed_72 (fun y1 => ?_)
  refine s_iload C 4 dX9_needed_75 rfl ?_
  refine s_al22 C dX9_needed_77 (fun x2 => ?_)
  refine s_iadd C dX9_needed_78 ?_
  refine s_iadd C dX9_needed_79 ?_
  refine s_let (fun x3 => ?_)
  refine s_istore_n (lv' := [(3, .int x3), (0, .ref a0), (1, .int i1), (2, .int i2), (4, .int i4), (5, .int i5)]) C dX9_needed_80 rfl (by decide) rfl ?_
  refine s_iload_n C 3 dX9_needed_81 rfl rfl ?_
  refine s_iload C 5 dX9_needed_82 rfl ?_
  refine s_iadd C dX9_needed_84 ?_
  refine s_let (fun x4 => ?_)
  refine s_istore_n (lv' := [(2, .int x4), (3, .int x3), (0, .ref a0), (1, .int i1), (4, .int i4), (5, .int i5)]) C dX9_needed_85 rfl (by decide) rfl ?_
  refine s_iload_n C 3 dX9_needed_86 rfl rfl ?_
  refine s_iload C 5 dX9_needed_87 rfl ?_
  refine s_iadd C dX9_needed_89 ?_
  refine s_let (fun x5 => ?_)
  refine s_istore_n (lv' := [(1, .int x5), (2, .int x4), (3, .int x3), (0, .ref a0), (4, .int i4), (5, .int i5)]) C dX9_needed_90 rfl (by decide) rfl ?_
  refine s_iincK (lv' := [(4, .int (i4 + 1)), (1, .int x5), (2, .int x4), (3, .int x3), (0, .ref a0), (5, .int i5)]) (w := 1) C 4 dX9_needed_91 rfl (by decide) (by decide) rfl ?_
  refine s_goto (tgt := 17) C dX9_needed_94 (by decide) ?_
  refine s_sub [4, 1, 2, 3, 0] rfl ?_
  exact hk17 a0 x5 x4 x3 (i4 + 1)
set_option maxRecDepth 20000 in
theorem X9_needed_b61_s (C : Cx G p R s m args meth c cX9_needed 6 yX9_needed.cls h0 h') (hF : R.frames = 3) (hO : R.locals = 72) (hr : meth.sig.returnType = (some .int)) (hm : meth.name = yX9_needed.name) {k17 : Nat → Int32 → Int32 → Int32 → Int32 → M Int32} (hk17 : ∀ (a0 : Nat) (i1 : Int32) (i2 : Int32) (i3 : Int32) (i4 : Int32), Sm G (QM G rvI below args s h0 r h') p l e R s m args below meth c 6 h0 r h' 17 [(0, .ref a0), (1, .int i1), (2, .int i2), (3, .int i3), (4, .int i4)] [] (k17 a0 i1 i2 i3 i4))  (a0 : Nat) (i1 : Int32) (i2 : Int32) (i3 : Int32) (i4 : Int32) (i5 : Int32) : Sm G (QM G rvI below args s h0 r h') p l e R s m args below meth c 6 h0 r h' 61 [(0, .ref a0), (1, .int i1), (2, .int i2), (3, .int i3), (4, .int i4), (5, .int i5)] [] (X9_needed_b61 k17  a0 i1 i2 i3 i4 i5) := by
  refine s_iload_n C 3 dX9_needed_61 rfl rfl ?_
  refine s_if_ne (tgt := 68) C dX9_needed_62 (by decide) ?_ ?_
  · exact X9_needed_b68_s C hF hO hr hm hk17  a0 i1 i2 i3 i4 i5
  refine s_bipush (v := 8) C dX9_needed_65 (by decide) ?_
  refine s_istore_n (lv' := [(3, .int 8), (0, .ref a0), (1, .int i1), (2, .int i2), (4, .int i4), (5, .int i5)]) C dX9_needed_67 rfl (by decide) rfl ?_
  refine s_sub [1, 2, 3, 0, 4, 5] rfl ?_
  exact X9_needed_b68_s C hF hO hr hm hk17  a0 i1 i2 8 i4 i5
set_option maxRecDepth 20000 in
theorem X9_needed_b17b_s (C : Cx G p R s m args meth c cX9_needed 6 yX9_needed.cls h0 h') (hF : R.frames = 3) (hO : R.locals = 72) (hr : meth.sig.returnType = (some .int)) (hm : meth.name = yX9_needed.name)  {k17 : Nat → Int32 → Int32 → Int32 → Int32 → M Int32} (hk17 : ∀ (a0 : Nat) (i1 : Int32) (i2 : Int32) (i3 : Int32) (i4 : Int32), Sm G (QM G rvI below args s h0 r h') p l e R s m args below meth c 6 h0 r h' 17 [(0, .ref a0), (1, .int i1), (2, .int i2), (3, .int i3), (4, .int i4)] [] (k17 a0 i1 i2 i3 i4)) (a0 : Nat) (i1 : Int32) (i2 : Int32) (i3 : Int32) (i4 : Int32) : Sm G (QM G rvI below args s h0 r h') p l e R s m args below meth c 6 h0 r h' 17 [(0, .ref a0), (1, .int i1), (2, .int i2), (3, .int i3), (4, .int i4)] [] (X9_needed_b17b  k17 a0 i1 i2 i3 i4) := by
  refine s_iload C 4 dX9_needed_17 rfl ?_
  refine s_aload_n C 0 dX9_needed_19 rfl rfl ?_
  refine s_gI C ci12 42 (by decide) (Or.inl wd_6_157) dX9_needed_20 (fun x1 => ?_)
  refine s_icmp_ge (tgt := 97) C dX9_needed_23 (by decide) ?_ ?_
  · refine s_iload_n C 1 dX9_needed_97 rfl rfl ?_
    refine s_iload_n C 3 dX9_needed_98 rfl rfl ?_
    refine s_iadd C dX9_needed_99 ?_
    exact s_iret C hr rfl dX9_needed_100
  refine s_aload_n C 0 dX9_needed_26 rfl rfl ?_
  refine s_aload_n C 0 dX9_needed_27 rfl rfl ?_
  refine s_iload C 4 dX9_needed_28 rfl ?_
  refine s_invV_i C ci12 cy_X9_entryOf (Or.inl wd_7_227) rfl wd_7_229 wp_61 (con_X9_entryOf l G a0 i4) rfl rfl (Nat.le_of_ble_eq_true rfl) (by rw [hF]; decide) (by rw [hO]; exact Nat.le_of_ble_eq_true rfl) dX9_needed_30 (fun x2 => ?_)
  refine s_invV_i C ci12 cy_X9_recordBytes (Or.inl wd_7_139) rfl wd_7_141 wp_47 (con_X9_recordBytes l G a0 x2) rfl rfl (Nat.le_of_ble_eq_true rfl) (by rw [hF]; decide) (by rw [hO]; exact Nat.le_of_ble_eq_true rfl) dX9_needed_33 (fun x3 => ?_)
  refine s_istore (lv' := [(5, .int x3), (0, .ref a0), (1, .int i1), (2, .int i2), (3, .int i3), (4, .int i4)]) C dX9_needed_36 (by decide) rfl ?_
  refine s_iload_n C 4 dX9_needed_38 rfl rfl ?_
  refine s_if_le (tgt := 61) C dX9_needed_39 (by decide) ?_ ?_
  · refine s_sub [1, 2, 3, 4, 5, 0] rfl ?_
    exact X9_needed_b61_s C hF hO hr hm hk17  a0 i1 i2 i3 i4 x3
  refine s_iload_n C 3 dX9_needed_42 rfl rfl ?_
  refine s_iload C 0 dX9_needed_43 rfl ?_
  refine s_iadd C dX9_needed_45 ?_
  refine s_aload_n C 1 dX9_needed_46 rfl rfl ?_
  refine s_gI C ci12 2 (by decide) (Or.inl wd_6_117) dX9_needed_47 (fun x4 => ?_)
  refine s_icmp_le (tgt := 61) C dX9_needed_50 (by decide) ?_ ?_
  · refine s_sub [1, 2, 3, 4, 5, 0] rfl ?_
    exact X9_needed_b61_s C hF hO hr hm hk17  a0 i1 i2 i3 i4 x3
  refine s_iload_n C 2 dX9_needed_53 rfl rfl ?_
  refine s_iload_n C 4 dX9_needed_54 rfl rfl ?_
  refine s_iadd C dX9_needed_55 ?_
  refine s_let (fun x5 => ?_)
  refine s_istore_n (lv' := [(1, .int x5), (5, .int x3), (0, .ref a0), (2, .int i2), (3, .int i3), (4, .int i4)]) C dX9_needed_56 rfl (by decide) rfl ?_
  refine s_iconst (v := 0) C dX9_needed_57 (by decide) ?_
  refine s_istore_n (lv' := [(3, .int 0), (1, .int x5), (5, .int x3), (0, .ref a0), (2, .int i2), (4, .int i4)]) C dX9_needed_58 rfl (by decide) rfl ?_
  refine s_iconst (v := 0) C dX9_needed_59 (by decide) ?_
  refine s_istore_n (lv' := [(2, .int 0), (3, .int 0), (1, .int x5), (5, .int x3), (0, .ref a0), (4, .int i4)]) C dX9_needed_60 rfl (by decide) rfl ?_
  refine s_sub [4, 2, 0, 1, 5, 3] rfl ?_
  exact X9_needed_b61_s C hF hO hr hm hk17  a0 x5 0 0 i4 x3
set_option maxRecDepth 20000 in
theorem X9_needed_b17_s (C : Cx G p R s m args meth c cX9_needed 6 yX9_needed.cls h0 h') (hF : R.frames = 3) (hO : R.locals = 72) (hr : meth.sig.returnType = (some .int)) (hm : meth.name = yX9_needed.name)  (n : Nat) : ∀ (a0 : Nat) (i1 : Int32) (i2 : Int32) (i3 : Int32) (i4 : Int32), Sm G (QM G rvI below args s h0 r h') p l e R s m args below meth c 6 h0 r h' 17 [(0, .ref a0), (1, .int i1), (2, .int i2), (3, .int i3), (4, .int i4)] [] (X9_needed_b17  n a0 i1 i2 i3 i4) := by
  induction n with
  | zero => intro a0 i1 i2 i3 i4; exact s_fl
  | succ n ih => intro a0 i1 i2 i3 i4; exact X9_needed_b17b_s C hF hO hr hm  ih a0 i1 i2 i3 i4
end
set_option maxRecDepth 20000 in
theorem con_X9_needed (l : Launch) (G : Gx) (a0 : Nat) : Con G rvI l yX9_needed cX9_needed 6 (some .int) 3 72 [.ref a0] (X9_needed a0) := by
  refine con_of (lv := [(0, .ref a0)]) (by decide) (Nat.le_of_ble_eq_true rfl) rfl (fun p e R s m args below meth c h0 r h' C hF hO hr hm => ?_)
  refine s_bipush (v := 8) C dX9_needed_0 (by decide) ?_
  refine s_iconst (v := 4) C dX9_needed_2 (by decide) ?_
  refine s_aload_n C 0 dX9_needed_3 rfl rfl ?_
  refine s_gI C ci12 45 (by decide) (Or.inl wd_6_160) dX9_needed_4 (fun x1 => ?_)
  refine s_imul C dX9_needed_7 ?_
  refine s_iadd C dX9_needed_8 ?_
  refine s_let (fun x2 => ?_)
  refine s_istore_n (lv' := [(1, .int x2), (0, .ref a0)]) C dX9_needed_9 rfl (by decide) rfl ?_
  refine s_iconst (v := 0) C dX9_needed_10 (by decide) ?_
  refine s_istore_n (lv' := [(2, .int 0), (1, .int x2), (0, .ref a0)]) C dX9_needed_11 rfl (by decide) rfl ?_
  refine s_iconst (v := 0) C dX9_needed_12 (by decide) ?_
  refine s_istore_n (lv' := [(3, .int 0), (2, .int 0), (1, .int x2), (0, .ref a0)]) C dX9_needed_13 rfl (by decide) rfl ?_
  refine s_iconst (v := 0) C dX9_needed_14 (by decide) ?_
  refine s_istore (lv' := [(4, .int 0), (3, .int 0), (2, .int 0), (1, .int x2), (0, .ref a0)]) C dX9_needed_15 (by decide) rfl ?_
  refine s_sub [4, 3, 2, 1, 0] rfl ?_
  exact X9_needed_b17_s C hF hO hr hm  FU a0 x2 0 0 0

theorem dX9_unitsLeft_0 : decode cX9_unitsLeft 0 = .ok (.aload_n 0, 1) := by decide +kernel
theorem dX9_unitsLeft_1 : decode cX9_unitsLeft 1 = .ok (.getfield 143, 3) := by decide +kernel
theorem dX9_unitsLeft_4 : decode cX9_unitsLeft 4 = .ok (.ifCond .ne 5, 3) := by decide +kernel
theorem dX9_unitsLeft_7 : decode cX9_unitsLeft 7 = .ok (.iconst 0, 1) := by decide +kernel
theorem dX9_unitsLeft_8 : decode cX9_unitsLeft 8 = .ok (.ireturn, 1) := by decide +kernel
theorem dX9_unitsLeft_9 : decode cX9_unitsLeft 9 = .ok (.aload_n 0, 1) := by decide +kernel
theorem dX9_unitsLeft_10 : decode cX9_unitsLeft 10 = .ok (.getfield 143, 3) := by decide +kernel
theorem dX9_unitsLeft_13 : decode cX9_unitsLeft 13 = .ok (.iconst 2, 1) := by decide +kernel
theorem dX9_unitsLeft_14 : decode cX9_unitsLeft 14 = .ok (.if_icmp .ne 15, 3) := by decide +kernel
theorem dX9_unitsLeft_17 : decode cX9_unitsLeft 17 = .ok (.aload_n 0, 1) := by decide +kernel
theorem dX9_unitsLeft_18 : decode cX9_unitsLeft 18 = .ok (.getfield 298, 3) := by decide +kernel
theorem dX9_unitsLeft_21 : decode cX9_unitsLeft 21 = .ok (.aload_n 0, 1) := by decide +kernel
theorem dX9_unitsLeft_22 : decode cX9_unitsLeft 22 = .ok (.getfield 304, 3) := by decide +kernel
theorem dX9_unitsLeft_25 : decode cX9_unitsLeft 25 = .ok (.isub, 1) := by decide +kernel
theorem dX9_unitsLeft_26 : decode cX9_unitsLeft 26 = .ok (.iconst 1, 1) := by decide +kernel
theorem dX9_unitsLeft_27 : decode cX9_unitsLeft 27 = .ok (.iadd, 1) := by decide +kernel
theorem dX9_unitsLeft_28 : decode cX9_unitsLeft 28 = .ok (.ireturn, 1) := by decide +kernel
theorem dX9_unitsLeft_29 : decode cX9_unitsLeft 29 = .ok (.iconst 2, 1) := by decide +kernel
theorem dX9_unitsLeft_30 : decode cX9_unitsLeft 30 = .ok (.aload_n 0, 1) := by decide +kernel
theorem dX9_unitsLeft_31 : decode cX9_unitsLeft 31 = .ok (.getfield 298, 3) := by decide +kernel
theorem dX9_unitsLeft_34 : decode cX9_unitsLeft 34 = .ok (.iadd, 1) := by decide +kernel
theorem dX9_unitsLeft_35 : decode cX9_unitsLeft 35 = .ok (.istore_n 1, 1) := by decide +kernel
theorem dX9_unitsLeft_36 : decode cX9_unitsLeft 36 = .ok (.aload_n 0, 1) := by decide +kernel
theorem dX9_unitsLeft_37 : decode cX9_unitsLeft 37 = .ok (.aload_n 0, 1) := by decide +kernel
theorem dX9_unitsLeft_38 : decode cX9_unitsLeft 38 = .ok (.getfield 295, 3) := by decide +kernel
theorem dX9_unitsLeft_41 : decode cX9_unitsLeft 41 = .ok (.invokevirtual 307, 3) := by decide +kernel
theorem dX9_unitsLeft_44 : decode cX9_unitsLeft 44 = .ok (.istore_n 2, 1) := by decide +kernel
theorem dX9_unitsLeft_45 : decode cX9_unitsLeft 45 = .ok (.iload_n 2, 1) := by decide +kernel
theorem dX9_unitsLeft_46 : decode cX9_unitsLeft 46 = .ok (.aload_n 0, 1) := by decide +kernel
theorem dX9_unitsLeft_47 : decode cX9_unitsLeft 47 = .ok (.getfield 289, 3) := by decide +kernel
theorem dX9_unitsLeft_50 : decode cX9_unitsLeft 50 = .ok (.if_icmp .ge 17, 3) := by decide +kernel
theorem dX9_unitsLeft_53 : decode cX9_unitsLeft 53 = .ok (.iinc 1 1, 3) := by decide +kernel
theorem dX9_unitsLeft_56 : decode cX9_unitsLeft 56 = .ok (.aload_n 0, 1) := by decide +kernel
theorem dX9_unitsLeft_57 : decode cX9_unitsLeft 57 = .ok (.iload_n 2, 1) := by decide +kernel
theorem dX9_unitsLeft_58 : decode cX9_unitsLeft 58 = .ok (.iconst 1, 1) := by decide +kernel
theorem dX9_unitsLeft_59 : decode cX9_unitsLeft 59 = .ok (.iadd, 1) := by decide +kernel
theorem dX9_unitsLeft_60 : decode cX9_unitsLeft 60 = .ok (.invokevirtual 307, 3) := by decide +kernel
theorem dX9_unitsLeft_63 : decode cX9_unitsLeft 63 = .ok (.istore_n 2, 1) := by decide +kernel
theorem dX9_unitsLeft_64 : decode cX9_unitsLeft 64 = .ok (.goto (-19), 3) := by decide +kernel
theorem dX9_unitsLeft_67 : decode cX9_unitsLeft 67 = .ok (.iload_n 1, 1) := by decide +kernel
theorem dX9_unitsLeft_68 : decode cX9_unitsLeft 68 = .ok (.ireturn, 1) := by decide +kernel
def X9_unitsLeft_b45b  (k45 : Nat → Int32 → Int32 → M Int32) (a0 : Nat) (i1 : Int32) (i2 : Int32) : M Int32 := bd (gI 12 42 a0) (fun x1 => it (x1 ≤ i2) (pu i1) (bd (ck 12 a0) (fun _ => bd (X9_nextStill a0 (i2 + 1)) (fun x2 => k45 a0 (i1 + 1) x2))))
def X9_unitsLeft_b45  : Nat → Nat → Int32 → Int32 → M Int32
  | 0 => fun _ _ _ => fl
  | n + 1 => fun a0 i1 i2 => X9_unitsLeft_b45b  (X9_unitsLeft_b45  n) a0 i1 i2
def X9_unitsLeft (a0 : Nat) : M Int32 := bd (gI 12 34 a0) (fun x1 => it (¬ x1 = 0) (bd (gI 12 34 a0) (fun x2 => it (¬ x2 = 2) (bd (gI 12 45 a0) (fun x3 => bd (pu (2 + x3)) (fun x4 => bd (gI 12 43 a0) (fun x5 => bd (ck 12 a0) (fun _ => bd (X9_nextStill a0 x5) (fun x6 => X9_unitsLeft_b45  FU a0 x4 x6)))))) (bd (gI 12 45 a0) (fun x7 => bd (gI 12 46 a0) (fun x8 => pu ((x7 - x8) + 1)))))) (pu 0))
section
variable {G : Gx} {p : Program} {l : Launch} {e : Env} {R : Room} {s : State} {m : MethodId} {args : Array Value} {below : List Frame} {meth : Method} {c : Code} {h0 : Hp} {r : Int32} {h' : Hp}
set_option maxRecDepth 20000 in
theorem X9_unitsLeft_b45b_s (C : Cx G p R s m args meth c cX9_unitsLeft 3 yX9_unitsLeft.cls h0 h') (hF : R.frames = 4) (hO : R.locals = 95) (hr : meth.sig.returnType = (some .int)) (hm : meth.name = yX9_unitsLeft.name)  {k45 : Nat → Int32 → Int32 → M Int32} (hk45 : ∀ (a0 : Nat) (i1 : Int32) (i2 : Int32), Sm G (QM G rvI below args s h0 r h') p l e R s m args below meth c 3 h0 r h' 45 [(0, .ref a0), (1, .int i1), (2, .int i2)] [] (k45 a0 i1 i2)) (a0 : Nat) (i1 : Int32) (i2 : Int32) : Sm G (QM G rvI below args s h0 r h') p l e R s m args below meth c 3 h0 r h' 45 [(0, .ref a0), (1, .int i1), (2, .int i2)] [] (X9_unitsLeft_b45b  k45 a0 i1 i2) := by
  refine s_iload_n C 2 dX9_unitsLeft_45 rfl rfl ?_
  refine s_aload_n C 0 dX9_unitsLeft_46 rfl rfl ?_
  refine s_gI C ci12 42 (by decide) (Or.inl wd_6_157) dX9_unitsLeft_47 (fun x1 => ?_)
  refine s_icmp_ge (tgt := 67) C dX9_unitsLeft_50 (by decide) ?_ ?_
  · refine s_iload_n C 1 dX9_unitsLeft_67 rfl rfl ?_
    exact s_iret C hr rfl dX9_unitsLeft_68
  refine s_iincK (lv' := [(1, .int (i1 + 1)), (0, .ref a0), (2, .int i2)]) (w := 1) C 1 dX9_unitsLeft_53 rfl (by decide) (by decide) rfl ?_
  refine s_aload_n C 1 dX9_unitsLeft_56 rfl rfl ?_
  refine s_iload_n C 2 dX9_unitsLeft_57 rfl rfl ?_
  refine s_iconst (v := 1) C dX9_unitsLeft_58 (by decide) ?_
  refine s_iadd C dX9_unitsLeft_59 ?_
  refine s_invV_i C ci12 cy_X9_nextStill (Or.inl wd_7_235) rfl wd_7_237 wp_63 (con_X9_nextStill l G a0 (i2 + 1)) rfl rfl (Nat.le_of_ble_eq_true rfl) (by rw [hF]; decide) (by rw [hO]; exact Nat.le_of_ble_eq_true rfl) dX9_unitsLeft_60 (fun x2 => ?_)
  refine s_istore_n (lv' := [(2, .int x2), (1, .int (i1 + 1)), (0, .ref a0)]) C dX9_unitsLeft_63 rfl (by decide) rfl ?_
  refine s_goto (tgt := 45) C dX9_unitsLeft_64 (by decide) ?_
  refine s_sub [2, 1, 0] rfl ?_
  exact hk45 a0 (i1 + 1) x2
set_option maxRecDepth 20000 in
theorem X9_unitsLeft_b45_s (C : Cx G p R s m args meth c cX9_unitsLeft 3 yX9_unitsLeft.cls h0 h') (hF : R.frames = 4) (hO : R.locals = 95) (hr : meth.sig.returnType = (some .int)) (hm : meth.name = yX9_unitsLeft.name)  (n : Nat) : ∀ (a0 : Nat) (i1 : Int32) (i2 : Int32), Sm G (QM G rvI below args s h0 r h') p l e R s m args below meth c 3 h0 r h' 45 [(0, .ref a0), (1, .int i1), (2, .int i2)] [] (X9_unitsLeft_b45  n a0 i1 i2) := by
  induction n with
  | zero => intro a0 i1 i2; exact s_fl
  | succ n ih => intro a0 i1 i2; exact X9_unitsLeft_b45b_s C hF hO hr hm  ih a0 i1 i2
end
set_option maxRecDepth 20000 in
theorem con_X9_unitsLeft (l : Launch) (G : Gx) (a0 : Nat) : Con G rvI l yX9_unitsLeft cX9_unitsLeft 3 (some .int) 4 95 [.ref a0] (X9_unitsLeft a0) := by
  refine con_of (lv := [(0, .ref a0)]) (by decide) (Nat.le_of_ble_eq_true rfl) rfl (fun p e R s m args below meth c h0 r h' C hF hO hr hm => ?_)
  refine s_aload_n C 0 dX9_unitsLeft_0 rfl rfl ?_
  refine s_gI C ci12 34 (by decide) (Or.inl wd_6_149) dX9_unitsLeft_1 (fun x1 => ?_)
  refine s_if_ne (tgt := 9) C dX9_unitsLeft_4 (by decide) ?_ ?_
  · refine s_aload_n C 0 dX9_unitsLeft_9 rfl rfl ?_
    refine s_gI C ci12 34 (by decide) (Or.inl wd_6_149) dX9_unitsLeft_10 (fun x2 => ?_)
    refine s_iconst (v := 2) C dX9_unitsLeft_13 (by decide) ?_
    refine s_icmp_ne (tgt := 29) C dX9_unitsLeft_14 (by decide) ?_ ?_
    · refine s_iconst (v := 2) C dX9_unitsLeft_29 (by decide) ?_
      refine s_aload_n C 0 dX9_unitsLeft_30 rfl rfl ?_
      refine s_gI C ci12 45 (by decide) (Or.inl wd_6_160) dX9_unitsLeft_31 (fun x3 => ?_)
      refine s_iadd C dX9_unitsLeft_34 ?_
      refine s_let (fun x4 => ?_)
      refine s_istore_n (lv' := [(1, .int x4), (0, .ref a0)]) C dX9_unitsLeft_35 rfl (by decide) rfl ?_
      refine s_aload_n C 1 dX9_unitsLeft_36 rfl rfl ?_
      refine s_aload_n C 1 dX9_unitsLeft_37 rfl rfl ?_
      refine s_gI C ci12 43 (by decide) (Or.inl wd_6_158) dX9_unitsLeft_38 (fun x5 => ?_)
      refine s_invV_i C ci12 cy_X9_nextStill (Or.inl wd_7_235) rfl wd_7_237 wp_63 (con_X9_nextStill l G a0 x5) rfl rfl (Nat.le_of_ble_eq_true rfl) (by rw [hF]; decide) (by rw [hO]; exact Nat.le_of_ble_eq_true rfl) dX9_unitsLeft_41 (fun x6 => ?_)
      refine s_istore_n (lv' := [(2, .int x6), (1, .int x4), (0, .ref a0)]) C dX9_unitsLeft_44 rfl (by decide) rfl ?_
      refine s_sub [2, 1, 0] rfl ?_
      exact X9_unitsLeft_b45_s C hF hO hr hm  FU a0 x4 x6
    refine s_aload_n C 0 dX9_unitsLeft_17 rfl rfl ?_
    refine s_gI C ci12 45 (by decide) (Or.inl wd_6_160) dX9_unitsLeft_18 (fun x7 => ?_)
    refine s_aload_n C 0 dX9_unitsLeft_21 rfl rfl ?_
    refine s_gI C ci12 46 (by decide) (Or.inl wd_6_161) dX9_unitsLeft_22 (fun x8 => ?_)
    refine s_isub C dX9_unitsLeft_25 ?_
    refine s_iconst (v := 1) C dX9_unitsLeft_26 (by decide) ?_
    refine s_iadd C dX9_unitsLeft_27 ?_
    exact s_iret C hr rfl dX9_unitsLeft_28
  refine s_iconst (v := 0) C dX9_unitsLeft_7 (by decide) ?_
  exact s_iret C hr rfl dX9_unitsLeft_8
