theorem dL_format_0 : decode cL_format 0 = .ok (.aload_n 0, 1) := by decide +kernel
theorem dL_format_1 : decode cL_format 1 = .ok (.iload_n 1, 1) := by decide +kernel
theorem dL_format_2 : decode cL_format 2 = .ok (.iload_n 2, 1) := by decide +kernel
theorem dL_format_3 : decode cL_format 3 = .ok (.invokevirtual 7, 3) := by decide +kernel
theorem dL_format_6 : decode cL_format 6 = .ok (.goto 6, 3) := by decide +kernel
theorem dL_format_9 : decode cL_format 9 = .ok (.astore_n 3, 1) := by decide +kernel
theorem dL_format_10 : decode cL_format 10 = .ok (.iconst 1, 1) := by decide +kernel
theorem dL_format_11 : decode cL_format 11 = .ok (.ireturn, 1) := by decide +kernel
theorem dL_format_12 : decode cL_format 12 = .ok (.iconst 0, 1) := by decide +kernel
theorem dL_format_13 : decode cL_format 13 = .ok (.ireturn, 1) := by decide +kernel
def L_format (a0 : Nat) (i1 : Int32) (i2 : Int32) : M Int32 := bd (ck 11 a0) (fun _ => bd (X8_format a0 i1 i2) (fun w => cs w (fun j => it (j = 0) (pu 1) (fl)) (fun _ => pu 0)))
section
variable {G : Gx} {p : Program} {l : Launch} {e : Env} {R : Room} {s : State} {m : MethodId} {args : Array Value} {below : List Frame} {meth : Method} {c : Code} {h0 : Hp} {r : Int32} {h' : Hp}
end
set_option maxRecDepth 20000 in
theorem con_L_format (l : Launch) (G : Gx) (hl0 : l.stackTraces = false) (a0 : Nat) (i1 : Int32) (i2 : Int32) : ConH G rvI l yL_format cL_format 4 (some .int) [(0, 6, 9, 13)] 12 337 [.ref a0, .int i1, .int i2] (L_format a0 i1 i2) := by
  refine con_ofH (lv := [(0, .ref a0), (1, .int i1), (2, .int i2)]) hl0 (by decide) (Nat.le_of_ble_eq_true rfl) rfl (fun p e R s m args below meth c h0 r h' C hF hO hr hm X => ?_)
  refine s_aload_n C 0 dL_format_0 rfl rfl ?_
  refine s_iload_n C 1 dL_format_1 rfl rfl ?_
  refine s_iload_n C 2 dL_format_2 rfl rfl ?_
  refine s_invVT_u C X ci11 cy_X8_format wd_2_225 rfl wd_2_226 wd_2_227 (con_X8_format l G hl0 a0 i1 i2) rfl rfl (Nat.le_of_ble_eq_true rfl) (by rw [hF]; decide) (by rw [hO]; exact Nat.le_of_ble_eq_true rfl) dL_format_3 (fun j q => ?_) ?_
  · by_cases e0 : j = 0
    · subst e0
      refine Or.inl ⟨9, ctc0 (k := 0) C X rfl  (by decide) (by decide) wd_2_224 cast_0 rfl, ?_⟩
      refine s_eq rfl (show _ = pu 1 from rfl) ?_
      refine s_astore_n (lv' := [(3, .ref q), (0, .ref a0), (1, .int i1), (2, .int i2)]) C dL_format_9 rfl (by decide) rfl ?_
      refine s_iconst (v := 1) C dL_format_10 (by decide) ?_
      exact s_iret C hr rfl dL_format_11
    exact Or.inr (by simp only [it, if_neg e0])
  refine s_goto (tgt := 12) C dL_format_6 (by decide) ?_
  refine s_iconst (v := 0) C dL_format_12 (by decide) ?_
  exact s_iret C hr rfl dL_format_13

theorem dL_feed_0 : decode cL_feed 0 = .ok (.aload 6, 2) := by decide +kernel
theorem dL_feed_2 : decode cL_feed 2 = .ok (.iconst 0, 1) := by decide +kernel
theorem dL_feed_3 : decode cL_feed 3 = .ok (.aload_n 0, 1) := by decide +kernel
theorem dL_feed_4 : decode cL_feed 4 = .ok (.iload_n 1, 1) := by decide +kernel
theorem dL_feed_5 : decode cL_feed 5 = .ok (.lload_n 2, 1) := by decide +kernel
theorem dL_feed_6 : decode cL_feed 6 = .ok (.lload 4, 2) := by decide +kernel
theorem dL_feed_8 : decode cL_feed 8 = .ok (.invokevirtual 15, 3) := by decide +kernel
theorem dL_feed_11 : decode cL_feed 11 = .ok (.i2l, 1) := by decide +kernel
theorem dL_feed_12 : decode cL_feed 12 = .ok (.lastore, 1) := by decide +kernel
theorem dL_feed_13 : decode cL_feed 13 = .ok (.goto 11, 3) := by decide +kernel
theorem dL_feed_16 : decode cL_feed 16 = .ok (.astore 7, 2) := by decide +kernel
theorem dL_feed_18 : decode cL_feed 18 = .ok (.iconst 1, 1) := by decide +kernel
theorem dL_feed_19 : decode cL_feed 19 = .ok (.ireturn, 1) := by decide +kernel
theorem dL_feed_20 : decode cL_feed 20 = .ok (.astore 7, 2) := by decide +kernel
theorem dL_feed_22 : decode cL_feed 22 = .ok (.iconst 2, 1) := by decide +kernel
theorem dL_feed_23 : decode cL_feed 23 = .ok (.ireturn, 1) := by decide +kernel
theorem dL_feed_24 : decode cL_feed 24 = .ok (.iconst 0, 1) := by decide +kernel
theorem dL_feed_25 : decode cL_feed 25 = .ok (.ireturn, 1) := by decide +kernel
def L_feed (a0 : Nat) (i1 : Int32) (l2 : Int64) (l4 : Int64) (a6 : Nat) : M Int32 := bd (ck 11 a0) (fun _ => bd (X8_feed a0 i1 l2 l4) (fun w => cs w (fun j => it (j = 0) (pu 1) (it (j = 2) (pu 2) (fl))) (fun x1 => bd (lz a6 0 ((x1 : Int32).toInt64)) (fun _ => pu 0))))
section
variable {G : Gx} {p : Program} {l : Launch} {e : Env} {R : Room} {s : State} {m : MethodId} {args : Array Value} {below : List Frame} {meth : Method} {c : Code} {h0 : Hp} {r : Int32} {h' : Hp}
end
set_option maxRecDepth 20000 in
theorem con_L_feed (l : Launch) (G : Gx) (hl0 : l.stackTraces = false) (a0 : Nat) (i1 : Int32) (l2 : Int64) (l4 : Int64) (a6 : Nat) : ConH G rvI l yL_feed cL_feed 8 (some .int) [(0, 13, 16, 13), (0, 13, 20, 19)] 7 192 [.ref a0, .int i1, .long l2, .long l4, .ref a6] (L_feed a0 i1 l2 l4 a6) := by
  refine con_ofH (lv := [(0, .ref a0), (1, .int i1), (2, .long l2), (4, .long l4), (6, .ref a6)]) hl0 (by decide) (Nat.le_of_ble_eq_true rfl) rfl (fun p e R s m args below meth c h0 r h' C hF hO hr hm X => ?_)
  refine s_aload C 4 dL_feed_0 rfl ?_
  refine s_iconst (v := 0) C dL_feed_2 (by decide) ?_
  refine s_aload_n C 0 dL_feed_3 rfl rfl ?_
  refine s_iload_n C 1 dL_feed_4 rfl rfl ?_
  refine s_lload_n C 2 dL_feed_5 rfl rfl ?_
  refine s_lload C 3 dL_feed_6 rfl ?_
  refine s_invVT_i C X ci11 cy_X8_feed wd_3_62 rfl wd_3_63 wd_3_64 (con_X8_feed l G hl0 a0 i1 l2 l4) rfl rfl (Nat.le_of_ble_eq_true rfl) (by rw [hF]; decide) (by rw [hO]; exact Nat.le_of_ble_eq_true rfl) dL_feed_8 (fun j q => ?_) (fun x1 => ?_)
  · by_cases e0 : j = 0
    · subst e0
      refine Or.inl ⟨16, ctc0 (k := 0) C X rfl  (by decide) (by decide) wd_2_224 cast_0 rfl, ?_⟩
      refine s_eq rfl (show _ = pu 1 from rfl) ?_
      refine s_astore (lv' := [(7, .ref q), (0, .ref a0), (1, .int i1), (2, .long l2), (4, .long l4), (6, .ref a6)]) C dL_feed_16 (by decide) rfl ?_
      refine s_iconst (v := 1) C dL_feed_18 (by decide) ?_
      exact s_iret C hr rfl dL_feed_19
    by_cases e2 : j = 2
    · subst e2
      refine Or.inl ⟨20, ctc1 (k := 2) (j0 := 0) C X rfl (by decide) (by decide) (by decide) (by decide) wd_2_224 (by decide) (by decide) wd_3_61 cast_2 rfl, ?_⟩
      refine s_eq rfl (show _ = pu 2 from rfl) ?_
      refine s_astore (lv' := [(7, .ref q), (0, .ref a0), (1, .int i1), (2, .long l2), (4, .long l4), (6, .ref a6)]) C dL_feed_20 (by decide) rfl ?_
      refine s_iconst (v := 2) C dL_feed_22 (by decide) ?_
      exact s_iret C hr rfl dL_feed_23
    exact Or.inr (by simp only [it, if_neg e0, if_neg e2])
  refine s_i2l C dL_feed_11 ?_
  refine s_lz C dL_feed_12 ?_
  refine s_goto (tgt := 24) C dL_feed_13 (by decide) ?_
  refine s_iconst (v := 0) C dL_feed_24 (by decide) ?_
  exact s_iret C hr rfl dL_feed_25

theorem dL_put_0 : decode cL_put 0 = .ok (.aload_n 2, 1) := by decide +kernel
theorem dL_put_1 : decode cL_put 1 = .ok (.iconst 0, 1) := by decide +kernel
theorem dL_put_2 : decode cL_put 2 = .ok (.aload_n 0, 1) := by decide +kernel
theorem dL_put_3 : decode cL_put 3 = .ok (.iload_n 1, 1) := by decide +kernel
theorem dL_put_4 : decode cL_put 4 = .ok (.invokevirtual 21, 3) := by decide +kernel
theorem dL_put_7 : decode cL_put 7 = .ok (.i2l, 1) := by decide +kernel
theorem dL_put_8 : decode cL_put 8 = .ok (.lastore, 1) := by decide +kernel
theorem dL_put_9 : decode cL_put 9 = .ok (.goto 12, 3) := by decide +kernel
theorem dL_put_12 : decode cL_put 12 = .ok (.astore_n 3, 1) := by decide +kernel
theorem dL_put_13 : decode cL_put 13 = .ok (.iconst 1, 1) := by decide +kernel
theorem dL_put_14 : decode cL_put 14 = .ok (.ireturn, 1) := by decide +kernel
theorem dL_put_15 : decode cL_put 15 = .ok (.astore_n 3, 1) := by decide +kernel
theorem dL_put_16 : decode cL_put 16 = .ok (.iconst 2, 1) := by decide +kernel
theorem dL_put_17 : decode cL_put 17 = .ok (.ireturn, 1) := by decide +kernel
theorem dL_put_18 : decode cL_put 18 = .ok (.astore_n 3, 1) := by decide +kernel
theorem dL_put_19 : decode cL_put 19 = .ok (.iconst 3, 1) := by decide +kernel
theorem dL_put_20 : decode cL_put 20 = .ok (.ireturn, 1) := by decide +kernel
theorem dL_put_21 : decode cL_put 21 = .ok (.iconst 0, 1) := by decide +kernel
theorem dL_put_22 : decode cL_put 22 = .ok (.ireturn, 1) := by decide +kernel
def L_put (a0 : Nat) (i1 : Int32) (a2 : Nat) : M Int32 := bd (ck 11 a0) (fun _ => bd (X8_put a0 i1) (fun w => cs w (fun j => it (j = 1) (pu 1) (it (j = 0) (pu 2) (it (j = 2) (pu 3) (fl)))) (fun x1 => bd (lz a2 0 ((x1 : Int32).toInt64)) (fun _ => pu 0))))
section
variable {G : Gx} {p : Program} {l : Launch} {e : Env} {R : Room} {s : State} {m : MethodId} {args : Array Value} {below : List Frame} {meth : Method} {c : Code} {h0 : Hp} {r : Int32} {h' : Hp}
end
set_option maxRecDepth 20000 in
theorem con_L_put (l : Launch) (G : Gx) (hl0 : l.stackTraces = false) (a0 : Nat) (i1 : Int32) (a2 : Nat) : ConH G rvI l yL_put cL_put 4 (some .int) [(0, 9, 12, 25), (0, 9, 15, 13), (0, 9, 18, 19)] 11 329 [.ref a0, .int i1, .ref a2] (L_put a0 i1 a2) := by
  refine con_ofH (lv := [(0, .ref a0), (1, .int i1), (2, .ref a2)]) hl0 (by decide) (Nat.le_of_ble_eq_true rfl) rfl (fun p e R s m args below meth c h0 r h' C hF hO hr hm X => ?_)
  refine s_aload_n C 2 dL_put_0 rfl rfl ?_
  refine s_iconst (v := 0) C dL_put_1 (by decide) ?_
  refine s_aload_n C 0 dL_put_2 rfl rfl ?_
  refine s_iload_n C 1 dL_put_3 rfl rfl ?_
  refine s_invVT_i C X ci11 cy_X8_put wd_3_106 rfl wd_3_107 wd_3_108 (con_X8_put l G hl0 a0 i1) rfl rfl (Nat.le_of_ble_eq_true rfl) (by rw [hF]; decide) (by rw [hO]; exact Nat.le_of_ble_eq_true rfl) dL_put_4 (fun j q => ?_) (fun x1 => ?_)
  · by_cases e1 : j = 1
    · subst e1
      refine Or.inl ⟨12, ctc0 (k := 1) C X rfl  (by decide) (by decide) wd_3_105 cast_1 rfl, ?_⟩
      refine s_eq rfl (show _ = pu 1 from rfl) ?_
      refine s_astore_n (lv' := [(3, .ref q), (0, .ref a0), (1, .int i1), (2, .ref a2)]) C dL_put_12 rfl (by decide) rfl ?_
      refine s_iconst (v := 1) C dL_put_13 (by decide) ?_
      exact s_iret C hr rfl dL_put_14
    by_cases e0 : j = 0
    · subst e0
      refine Or.inl ⟨15, ctc1 (k := 0) (j0 := 1) C X rfl (by decide) (by decide) (by decide) (by decide) wd_3_105 (by decide) (by decide) wd_2_224 cast_0 rfl, ?_⟩
      refine s_eq rfl (show _ = pu 2 from rfl) ?_
      refine s_astore_n (lv' := [(3, .ref q), (0, .ref a0), (1, .int i1), (2, .ref a2)]) C dL_put_15 rfl (by decide) rfl ?_
      refine s_iconst (v := 2) C dL_put_16 (by decide) ?_
      exact s_iret C hr rfl dL_put_17
    by_cases e2 : j = 2
    · subst e2
      refine Or.inl ⟨18, ctc2 (k := 2) (j0 := 1) (j1 := 0) C X rfl (by decide) (by decide) (by decide) (by decide) wd_3_105 (by decide) (by decide) (by decide) wd_2_224 (by decide) (by decide) wd_3_61 cast_2 rfl, ?_⟩
      refine s_eq rfl (show _ = pu 3 from rfl) ?_
      refine s_astore_n (lv' := [(3, .ref q), (0, .ref a0), (1, .int i1), (2, .ref a2)]) C dL_put_18 rfl (by decide) rfl ?_
      refine s_iconst (v := 3) C dL_put_19 (by decide) ?_
      exact s_iret C hr rfl dL_put_20
    exact Or.inr (by simp only [it, if_neg e1, if_neg e0, if_neg e2])
  refine s_i2l C dL_put_7 ?_
  refine s_lz C dL_put_8 ?_
  refine s_goto (tgt := 21) C dL_put_9 (by decide) ?_
  refine s_iconst (v := 0) C dL_put_21 (by decide) ?_
  exact s_iret C hr rfl dL_put_22

theorem dL_remove_0 : decode cL_remove 0 = .ok (.aload_n 1, 1) := by decide +kernel
theorem dL_remove_1 : decode cL_remove 1 = .ok (.iconst 0, 1) := by decide +kernel
theorem dL_remove_2 : decode cL_remove 2 = .ok (.aload_n 0, 1) := by decide +kernel
theorem dL_remove_3 : decode cL_remove 3 = .ok (.invokevirtual 27, 3) := by decide +kernel
theorem dL_remove_6 : decode cL_remove 6 = .ok (.ifCond .eq 7, 3) := by decide +kernel
theorem dL_remove_9 : decode cL_remove 9 = .ok (.lconst 1, 1) := by decide +kernel
theorem dL_remove_10 : decode cL_remove 10 = .ok (.goto 4, 3) := by decide +kernel
theorem dL_remove_13 : decode cL_remove 13 = .ok (.lconst 0, 1) := by decide +kernel
theorem dL_remove_14 : decode cL_remove 14 = .ok (.lastore, 1) := by decide +kernel
theorem dL_remove_15 : decode cL_remove 15 = .ok (.goto 12, 3) := by decide +kernel
theorem dL_remove_18 : decode cL_remove 18 = .ok (.astore_n 2, 1) := by decide +kernel
theorem dL_remove_19 : decode cL_remove 19 = .ok (.iconst 1, 1) := by decide +kernel
theorem dL_remove_20 : decode cL_remove 20 = .ok (.ireturn, 1) := by decide +kernel
theorem dL_remove_21 : decode cL_remove 21 = .ok (.astore_n 2, 1) := by decide +kernel
theorem dL_remove_22 : decode cL_remove 22 = .ok (.iconst 2, 1) := by decide +kernel
theorem dL_remove_23 : decode cL_remove 23 = .ok (.ireturn, 1) := by decide +kernel
theorem dL_remove_24 : decode cL_remove 24 = .ok (.astore_n 2, 1) := by decide +kernel
theorem dL_remove_25 : decode cL_remove 25 = .ok (.iconst 3, 1) := by decide +kernel
theorem dL_remove_26 : decode cL_remove 26 = .ok (.ireturn, 1) := by decide +kernel
theorem dL_remove_27 : decode cL_remove 27 = .ok (.iconst 0, 1) := by decide +kernel
theorem dL_remove_28 : decode cL_remove 28 = .ok (.ireturn, 1) := by decide +kernel
def L_remove_b14   (s0 : Int64) (s1 : Int32) (s2 : Nat) : M Int32 := bd (lz s2 s1 s0) (fun _ => pu 0)
def L_remove (a0 : Nat) (a1 : Nat) : M Int32 := bd (ck 11 a0) (fun _ => bd (X8_remove a0) (fun w => cs w (fun j => it (j = 1) (pu 1) (it (j = 0) (pu 2) (it (j = 2) (pu 3) (fl)))) (fun x1 => it (x1 = 0) (L_remove_b14   0 0 a1) (L_remove_b14   1 0 a1))))
section
variable {G : Gx} {p : Program} {l : Launch} {e : Env} {R : Room} {s : State} {m : MethodId} {args : Array Value} {below : List Frame} {meth : Method} {c : Code} {h0 : Hp} {r : Int32} {h' : Hp}
set_option maxRecDepth 20000 in
theorem L_remove_b14_s (C : Cx G p R s m args meth c cL_remove 3 yL_remove.cls h0 h') (hF : R.frames = 11) (hO : R.locals = 327) (hr : meth.sig.returnType = (some .int)) (hm : meth.name = yL_remove.name) (X : CxT G l s c h0 (tableOf [(0, 15, 18, 25), (0, 15, 21, 13), (0, 15, 24, 19)])) (hl0 : l.stackTraces = false)   (s0 : Int64) (s1 : Int32) (s2 : Nat) : Sm G (QM G rvI below args s h0 r h') p l e R s m args below meth c 3 h0 r h' 14 [] [.long s0, .int s1, .ref s2] (L_remove_b14   s0 s1 s2) := by
  refine s_lz C dL_remove_14 ?_
  refine s_goto (tgt := 27) C dL_remove_15 (by decide) ?_
  refine s_iconst (v := 0) C dL_remove_27 (by decide) ?_
  exact s_iret C hr rfl dL_remove_28
end
set_option maxRecDepth 20000 in
theorem con_L_remove (l : Launch) (G : Gx) (hl0 : l.stackTraces = false) (a0 : Nat) (a1 : Nat) : ConH G rvI l yL_remove cL_remove 3 (some .int) [(0, 15, 18, 25), (0, 15, 21, 13), (0, 15, 24, 19)] 11 327 [.ref a0, .ref a1] (L_remove a0 a1) := by
  refine con_ofH (lv := [(0, .ref a0), (1, .ref a1)]) hl0 (by decide) (Nat.le_of_ble_eq_true rfl) rfl (fun p e R s m args below meth c h0 r h' C hF hO hr hm X => ?_)
  refine s_aload_n C 1 dL_remove_0 rfl rfl ?_
  refine s_iconst (v := 0) C dL_remove_1 (by decide) ?_
  refine s_aload_n C 0 dL_remove_2 rfl rfl ?_
  refine s_invVT_i C X ci11 cy_X8_remove wd_5_93 rfl wd_5_94 wd_5_95 (con_X8_remove l G hl0 a0) rfl rfl (Nat.le_of_ble_eq_true rfl) (by rw [hF]; decide) (by rw [hO]; exact Nat.le_of_ble_eq_true rfl) dL_remove_3 (fun j q => ?_) (fun x1 => ?_)
  · by_cases e1 : j = 1
    · subst e1
      refine Or.inl ⟨18, ctc0 (k := 1) C X rfl  (by decide) (by decide) wd_3_105 cast_1 rfl, ?_⟩
      refine s_eq rfl (show _ = pu 1 from rfl) ?_
      refine s_astore_n (lv' := [(2, .ref q), (0, .ref a0), (1, .ref a1)]) C dL_remove_18 rfl (by decide) rfl ?_
      refine s_iconst (v := 1) C dL_remove_19 (by decide) ?_
      exact s_iret C hr rfl dL_remove_20
    by_cases e0 : j = 0
    · subst e0
      refine Or.inl ⟨21, ctc1 (k := 0) (j0 := 1) C X rfl (by decide) (by decide) (by decide) (by decide) wd_3_105 (by decide) (by decide) wd_2_224 cast_0 rfl, ?_⟩
      refine s_eq rfl (show _ = pu 2 from rfl) ?_
      refine s_astore_n (lv' := [(2, .ref q), (0, .ref a0), (1, .ref a1)]) C dL_remove_21 rfl (by decide) rfl ?_
      refine s_iconst (v := 2) C dL_remove_22 (by decide) ?_
      exact s_iret C hr rfl dL_remove_23
    by_cases e2 : j = 2
    · subst e2
      refine Or.inl ⟨24, ctc2 (k := 2) (j0 := 1) (j1 := 0) C X rfl (by decide) (by decide) (by decide) (by decide) wd_3_105 (by decide) (by decide) (by decide) wd_2_224 (by decide) (by decide) wd_3_61 cast_2 rfl, ?_⟩
      refine s_eq rfl (show _ = pu 3 from rfl) ?_
      refine s_astore_n (lv' := [(2, .ref q), (0, .ref a0), (1, .ref a1)]) C dL_remove_24 rfl (by decide) rfl ?_
      refine s_iconst (v := 3) C dL_remove_25 (by decide) ?_
      exact s_iret C hr rfl dL_remove_26
    exact Or.inr (by simp only [it, if_neg e1, if_neg e0, if_neg e2])
  refine s_if_eq (tgt := 13) C dL_remove_6 (by decide) ?_ ?_
  · refine s_lconst (v := 0) C dL_remove_13 (by decide) ?_
    refine s_sub [] rfl ?_
    exact L_remove_b14_s C hF hO hr hm X hl0   0 0 a1
  refine s_lconst (v := 1) C dL_remove_9 (by decide) ?_
  refine s_goto (tgt := 14) C dL_remove_10 (by decide) ?_
  refine s_sub [] rfl ?_
  exact L_remove_b14_s C hF hO hr hm X hl0   1 0 a1

theorem dL_get_0 : decode cL_get 0 = .ok (.aload_n 1, 1) := by decide +kernel
theorem dL_get_1 : decode cL_get 1 = .ok (.iconst 0, 1) := by decide +kernel
theorem dL_get_2 : decode cL_get 2 = .ok (.aload_n 0, 1) := by decide +kernel
theorem dL_get_3 : decode cL_get 3 = .ok (.invokevirtual 31, 3) := by decide +kernel
theorem dL_get_6 : decode cL_get 6 = .ok (.i2l, 1) := by decide +kernel
theorem dL_get_7 : decode cL_get 7 = .ok (.lastore, 1) := by decide +kernel
theorem dL_get_8 : decode cL_get 8 = .ok (.goto 6, 3) := by decide +kernel
theorem dL_get_11 : decode cL_get 11 = .ok (.astore_n 2, 1) := by decide +kernel
theorem dL_get_12 : decode cL_get 12 = .ok (.iconst 1, 1) := by decide +kernel
theorem dL_get_13 : decode cL_get 13 = .ok (.ireturn, 1) := by decide +kernel
theorem dL_get_14 : decode cL_get 14 = .ok (.iconst 0, 1) := by decide +kernel
theorem dL_get_15 : decode cL_get 15 = .ok (.ireturn, 1) := by decide +kernel
def L_get (a0 : Nat) (a1 : Nat) : M Int32 := bd (ck 11 a0) (fun _ => bd (X8_get a0) (fun w => cs w (fun j => it (j = 1) (pu 1) (fl)) (fun x1 => bd (lz a1 0 ((x1 : Int32).toInt64)) (fun _ => pu 0))))
section
variable {G : Gx} {p : Program} {l : Launch} {e : Env} {R : Room} {s : State} {m : MethodId} {args : Array Value} {below : List Frame} {meth : Method} {c : Code} {h0 : Hp} {r : Int32} {h' : Hp}
end
set_option maxRecDepth 20000 in
theorem con_L_get (l : Launch) (G : Gx) (hl0 : l.stackTraces = false) (a0 : Nat) (a1 : Nat) : ConH G rvI l yL_get cL_get 3 (some .int) [(0, 8, 11, 25)] 7 208 [.ref a0, .ref a1] (L_get a0 a1) := by
  refine con_ofH (lv := [(0, .ref a0), (1, .ref a1)]) hl0 (by decide) (Nat.le_of_ble_eq_true rfl) rfl (fun p e R s m args below meth c h0 r h' C hF hO hr hm X => ?_)
  refine s_aload_n C 1 dL_get_0 rfl rfl ?_
  refine s_iconst (v := 0) C dL_get_1 (by decide) ?_
  refine s_aload_n C 0 dL_get_2 rfl rfl ?_
  refine s_invVT_i C X ci11 cy_X8_get wd_5_103 rfl wd_5_104 wd_5_105 (con_X8_get l G hl0 a0) rfl rfl (Nat.le_of_ble_eq_true rfl) (by rw [hF]; decide) (by rw [hO]; exact Nat.le_of_ble_eq_true rfl) dL_get_3 (fun j q => ?_) (fun x1 => ?_)
  · by_cases e1 : j = 1
    · subst e1
      refine Or.inl ⟨11, ctc0 (k := 1) C X rfl  (by decide) (by decide) wd_3_105 cast_1 rfl, ?_⟩
      refine s_eq rfl (show _ = pu 1 from rfl) ?_
      refine s_astore_n (lv' := [(2, .ref q), (0, .ref a0), (1, .ref a1)]) C dL_get_11 rfl (by decide) rfl ?_
      refine s_iconst (v := 1) C dL_get_12 (by decide) ?_
      exact s_iret C hr rfl dL_get_13
    exact Or.inr (by simp only [it, if_neg e1])
  refine s_i2l C dL_get_6 ?_
  refine s_lz C dL_get_7 ?_
  refine s_goto (tgt := 14) C dL_get_8 (by decide) ?_
  refine s_iconst (v := 0) C dL_get_14 (by decide) ?_
  exact s_iret C hr rfl dL_get_15

theorem dL_sync_0 : decode cL_sync 0 = .ok (.aload_n 1, 1) := by decide +kernel
theorem dL_sync_1 : decode cL_sync 1 = .ok (.iconst 0, 1) := by decide +kernel
theorem dL_sync_2 : decode cL_sync 2 = .ok (.aload_n 0, 1) := by decide +kernel
theorem dL_sync_3 : decode cL_sync 3 = .ok (.invokevirtual 35, 3) := by decide +kernel
theorem dL_sync_6 : decode cL_sync 6 = .ok (.i2l, 1) := by decide +kernel
theorem dL_sync_7 : decode cL_sync 7 = .ok (.lastore, 1) := by decide +kernel
theorem dL_sync_8 : decode cL_sync 8 = .ok (.goto 6, 3) := by decide +kernel
theorem dL_sync_11 : decode cL_sync 11 = .ok (.astore_n 2, 1) := by decide +kernel
theorem dL_sync_12 : decode cL_sync 12 = .ok (.iconst 1, 1) := by decide +kernel
theorem dL_sync_13 : decode cL_sync 13 = .ok (.ireturn, 1) := by decide +kernel
theorem dL_sync_14 : decode cL_sync 14 = .ok (.iconst 0, 1) := by decide +kernel
theorem dL_sync_15 : decode cL_sync 15 = .ok (.ireturn, 1) := by decide +kernel
def L_sync (a0 : Nat) (a1 : Nat) : M Int32 := bd (ck 11 a0) (fun _ => bd (X8_sync a0) (fun w => cs w (fun j => it (j = 1) (pu 1) (fl)) (fun x1 => bd (lz a1 0 ((x1 : Int32).toInt64)) (fun _ => pu 0))))
section
variable {G : Gx} {p : Program} {l : Launch} {e : Env} {R : Room} {s : State} {m : MethodId} {args : Array Value} {below : List Frame} {meth : Method} {c : Code} {h0 : Hp} {r : Int32} {h' : Hp}
end
set_option maxRecDepth 20000 in
theorem con_L_sync (l : Launch) (G : Gx) (hl0 : l.stackTraces = false) (a0 : Nat) (a1 : Nat) : ConH G rvI l yL_sync cL_sync 3 (some .int) [(0, 8, 11, 25)] 7 121 [.ref a0, .ref a1] (L_sync a0 a1) := by
  refine con_ofH (lv := [(0, .ref a0), (1, .ref a1)]) hl0 (by decide) (Nat.le_of_ble_eq_true rfl) rfl (fun p e R s m args below meth c h0 r h' C hF hO hr hm X => ?_)
  refine s_aload_n C 1 dL_sync_0 rfl rfl ?_
  refine s_iconst (v := 0) C dL_sync_1 (by decide) ?_
  refine s_aload_n C 0 dL_sync_2 rfl rfl ?_
  refine s_invVT_i C X ci11 cy_X8_sync wd_5_125 rfl wd_5_126 wd_5_127 (con_X8_sync l G hl0 a0) rfl rfl (Nat.le_of_ble_eq_true rfl) (by rw [hF]; decide) (by rw [hO]; exact Nat.le_of_ble_eq_true rfl) dL_sync_3 (fun j q => ?_) (fun x1 => ?_)
  · by_cases e1 : j = 1
    · subst e1
      refine Or.inl ⟨11, ctc0 (k := 1) C X rfl  (by decide) (by decide) wd_3_105 cast_1 rfl, ?_⟩
      refine s_eq rfl (show _ = pu 1 from rfl) ?_
      refine s_astore_n (lv' := [(2, .ref q), (0, .ref a0), (1, .ref a1)]) C dL_sync_11 rfl (by decide) rfl ?_
      refine s_iconst (v := 1) C dL_sync_12 (by decide) ?_
      exact s_iret C hr rfl dL_sync_13
    exact Or.inr (by simp only [it, if_neg e1])
  refine s_i2l C dL_sync_6 ?_
  refine s_lz C dL_sync_7 ?_
  refine s_goto (tgt := 14) C dL_sync_8 (by decide) ?_
  refine s_iconst (v := 0) C dL_sync_14 (by decide) ?_
  exact s_iret C hr rfl dL_sync_15

theorem dL_crash_0 : decode cL_crash 0 = .ok (.aload_n 2, 1) := by decide +kernel
theorem dL_crash_1 : decode cL_crash 1 = .ok (.iconst 0, 1) := by decide +kernel
theorem dL_crash_2 : decode cL_crash 2 = .ok (.aload_n 0, 1) := by decide +kernel
theorem dL_crash_3 : decode cL_crash 3 = .ok (.iload_n 1, 1) := by decide +kernel
theorem dL_crash_4 : decode cL_crash 4 = .ok (.invokevirtual 38, 3) := by decide +kernel
theorem dL_crash_7 : decode cL_crash 7 = .ok (.i2l, 1) := by decide +kernel
theorem dL_crash_8 : decode cL_crash 8 = .ok (.lastore, 1) := by decide +kernel
theorem dL_crash_9 : decode cL_crash 9 = .ok (.goto 9, 3) := by decide +kernel
theorem dL_crash_12 : decode cL_crash 12 = .ok (.astore_n 3, 1) := by decide +kernel
theorem dL_crash_13 : decode cL_crash 13 = .ok (.iconst 1, 1) := by decide +kernel
theorem dL_crash_14 : decode cL_crash 14 = .ok (.ireturn, 1) := by decide +kernel
theorem dL_crash_15 : decode cL_crash 15 = .ok (.astore_n 3, 1) := by decide +kernel
theorem dL_crash_16 : decode cL_crash 16 = .ok (.iconst 2, 1) := by decide +kernel
theorem dL_crash_17 : decode cL_crash 17 = .ok (.ireturn, 1) := by decide +kernel
theorem dL_crash_18 : decode cL_crash 18 = .ok (.iconst 0, 1) := by decide +kernel
theorem dL_crash_19 : decode cL_crash 19 = .ok (.ireturn, 1) := by decide +kernel
def L_crash (a0 : Nat) (i1 : Int32) (a2 : Nat) : M Int32 := bd (ck 11 a0) (fun _ => bd (X8_crash a0 i1) (fun w => cs w (fun j => it (j = 1) (pu 1) (it (j = 0) (pu 2) (fl))) (fun x1 => bd (lz a2 0 ((x1 : Int32).toInt64)) (fun _ => pu 0))))
section
variable {G : Gx} {p : Program} {l : Launch} {e : Env} {R : Room} {s : State} {m : MethodId} {args : Array Value} {below : List Frame} {meth : Method} {c : Code} {h0 : Hp} {r : Int32} {h' : Hp}
end
set_option maxRecDepth 20000 in
theorem con_L_crash (l : Launch) (G : Gx) (hl0 : l.stackTraces = false) (a0 : Nat) (i1 : Int32) (a2 : Nat) : ConH G rvI l yL_crash cL_crash 4 (some .int) [(0, 9, 12, 25), (0, 9, 15, 13)] 11 315 [.ref a0, .int i1, .ref a2] (L_crash a0 i1 a2) := by
  refine con_ofH (lv := [(0, .ref a0), (1, .int i1), (2, .ref a2)]) hl0 (by decide) (Nat.le_of_ble_eq_true rfl) rfl (fun p e R s m args below meth c h0 r h' C hF hO hr hm X => ?_)
  refine s_aload_n C 2 dL_crash_0 rfl rfl ?_
  refine s_iconst (v := 0) C dL_crash_1 (by decide) ?_
  refine s_aload_n C 0 dL_crash_2 rfl rfl ?_
  refine s_iload_n C 1 dL_crash_3 rfl rfl ?_
  refine s_invVT_i C X ci11 cy_X8_crash wd_5_136 rfl wd_5_137 wd_5_138 (con_X8_crash l G hl0 a0 i1) rfl rfl (Nat.le_of_ble_eq_true rfl) (by rw [hF]; decide) (by rw [hO]; exact Nat.le_of_ble_eq_true rfl) dL_crash_4 (fun j q => ?_) (fun x1 => ?_)
  · by_cases e1 : j = 1
    · subst e1
      refine Or.inl ⟨12, ctc0 (k := 1) C X rfl  (by decide) (by decide) wd_3_105 cast_1 rfl, ?_⟩
      refine s_eq rfl (show _ = pu 1 from rfl) ?_
      refine s_astore_n (lv' := [(3, .ref q), (0, .ref a0), (1, .int i1), (2, .ref a2)]) C dL_crash_12 rfl (by decide) rfl ?_
      refine s_iconst (v := 1) C dL_crash_13 (by decide) ?_
      exact s_iret C hr rfl dL_crash_14
    by_cases e0 : j = 0
    · subst e0
      refine Or.inl ⟨15, ctc1 (k := 0) (j0 := 1) C X rfl (by decide) (by decide) (by decide) (by decide) wd_3_105 (by decide) (by decide) wd_2_224 cast_0 rfl, ?_⟩
      refine s_eq rfl (show _ = pu 2 from rfl) ?_
      refine s_astore_n (lv' := [(3, .ref q), (0, .ref a0), (1, .int i1), (2, .ref a2)]) C dL_crash_15 rfl (by decide) rfl ?_
      refine s_iconst (v := 2) C dL_crash_16 (by decide) ?_
      exact s_iret C hr rfl dL_crash_17
    exact Or.inr (by simp only [it, if_neg e1, if_neg e0])
  refine s_i2l C dL_crash_7 ?_
  refine s_lz C dL_crash_8 ?_
  refine s_goto (tgt := 18) C dL_crash_9 (by decide) ?_
  refine s_iconst (v := 0) C dL_crash_18 (by decide) ?_
  exact s_iret C hr rfl dL_crash_19

theorem dL_open_0 : decode cL_open 0 = .ok (.aload_n 1, 1) := by decide +kernel
theorem dL_open_1 : decode cL_open 1 = .ok (.iconst 0, 1) := by decide +kernel
theorem dL_open_2 : decode cL_open 2 = .ok (.aload_n 0, 1) := by decide +kernel
theorem dL_open_3 : decode cL_open 3 = .ok (.invokevirtual 41, 3) := by decide +kernel
theorem dL_open_6 : decode cL_open 6 = .ok (.i2l, 1) := by decide +kernel
theorem dL_open_7 : decode cL_open 7 = .ok (.lastore, 1) := by decide +kernel
theorem dL_open_8 : decode cL_open 8 = .ok (.goto 6, 3) := by decide +kernel
theorem dL_open_11 : decode cL_open 11 = .ok (.astore_n 2, 1) := by decide +kernel
theorem dL_open_12 : decode cL_open 12 = .ok (.iconst 1, 1) := by decide +kernel
theorem dL_open_13 : decode cL_open 13 = .ok (.ireturn, 1) := by decide +kernel
theorem dL_open_14 : decode cL_open 14 = .ok (.iconst 0, 1) := by decide +kernel
theorem dL_open_15 : decode cL_open 15 = .ok (.ireturn, 1) := by decide +kernel
def L_open (a0 : Nat) (a1 : Nat) : M Int32 := bd (ck 11 a0) (fun _ => bd (X8_open a0) (fun w => cs w (fun j => it (j = 1) (pu 1) (fl)) (fun x1 => bd (lz a1 0 ((x1 : Int32).toInt64)) (fun _ => pu 0))))
section
variable {G : Gx} {p : Program} {l : Launch} {e : Env} {R : Room} {s : State} {m : MethodId} {args : Array Value} {below : List Frame} {meth : Method} {c : Code} {h0 : Hp} {r : Int32} {h' : Hp}
end
set_option maxRecDepth 20000 in
theorem con_L_open (l : Launch) (G : Gx) (hl0 : l.stackTraces = false) (a0 : Nat) (a1 : Nat) : ConH G rvI l yL_open cL_open 3 (some .int) [(0, 8, 11, 25)] 13 369 [.ref a0, .ref a1] (L_open a0 a1) := by
  refine con_ofH (lv := [(0, .ref a0), (1, .ref a1)]) hl0 (by decide) (Nat.le_of_ble_eq_true rfl) rfl (fun p e R s m args below meth c h0 r h' C hF hO hr hm X => ?_)
  refine s_aload_n C 1 dL_open_0 rfl rfl ?_
  refine s_iconst (v := 0) C dL_open_1 (by decide) ?_
  refine s_aload_n C 0 dL_open_2 rfl rfl ?_
  refine s_invVT_i C X ci11 cy_X8_open wd_5_158 rfl wd_5_159 wd_5_160 (con_X8_open l G hl0 a0) rfl rfl (Nat.le_of_ble_eq_true rfl) (by rw [hF]; decide) (by rw [hO]; exact Nat.le_of_ble_eq_true rfl) dL_open_3 (fun j q => ?_) (fun x1 => ?_)
  · by_cases e1 : j = 1
    · subst e1
      refine Or.inl ⟨11, ctc0 (k := 1) C X rfl  (by decide) (by decide) wd_3_105 cast_1 rfl, ?_⟩
      refine s_eq rfl (show _ = pu 1 from rfl) ?_
      refine s_astore_n (lv' := [(2, .ref q), (0, .ref a0), (1, .ref a1)]) C dL_open_11 rfl (by decide) rfl ?_
      refine s_iconst (v := 1) C dL_open_12 (by decide) ?_
      exact s_iret C hr rfl dL_open_13
    exact Or.inr (by simp only [it, if_neg e1])
  refine s_i2l C dL_open_6 ?_
  refine s_lz C dL_open_7 ?_
  refine s_goto (tgt := 14) C dL_open_8 (by decide) ?_
  refine s_iconst (v := 0) C dL_open_14 (by decide) ?_
  exact s_iret C hr rfl dL_open_15

theorem dL_mergeBegin_0 : decode cL_mergeBegin 0 = .ok (.aload_n 1, 1) := by decide +kernel
theorem dL_mergeBegin_1 : decode cL_mergeBegin 1 = .ok (.iconst 0, 1) := by decide +kernel
theorem dL_mergeBegin_2 : decode cL_mergeBegin 2 = .ok (.aload_n 0, 1) := by decide +kernel
theorem dL_mergeBegin_3 : decode cL_mergeBegin 3 = .ok (.invokevirtual 44, 3) := by decide +kernel
theorem dL_mergeBegin_6 : decode cL_mergeBegin 6 = .ok (.i2l, 1) := by decide +kernel
theorem dL_mergeBegin_7 : decode cL_mergeBegin 7 = .ok (.lastore, 1) := by decide +kernel
theorem dL_mergeBegin_8 : decode cL_mergeBegin 8 = .ok (.goto 9, 3) := by decide +kernel
theorem dL_mergeBegin_11 : decode cL_mergeBegin 11 = .ok (.astore_n 2, 1) := by decide +kernel
theorem dL_mergeBegin_12 : decode cL_mergeBegin 12 = .ok (.iconst 1, 1) := by decide +kernel
theorem dL_mergeBegin_13 : decode cL_mergeBegin 13 = .ok (.ireturn, 1) := by decide +kernel
theorem dL_mergeBegin_14 : decode cL_mergeBegin 14 = .ok (.astore_n 2, 1) := by decide +kernel
theorem dL_mergeBegin_15 : decode cL_mergeBegin 15 = .ok (.iconst 2, 1) := by decide +kernel
theorem dL_mergeBegin_16 : decode cL_mergeBegin 16 = .ok (.ireturn, 1) := by decide +kernel
theorem dL_mergeBegin_17 : decode cL_mergeBegin 17 = .ok (.iconst 0, 1) := by decide +kernel
theorem dL_mergeBegin_18 : decode cL_mergeBegin 18 = .ok (.ireturn, 1) := by decide +kernel
def L_mergeBegin (a0 : Nat) (a1 : Nat) : M Int32 := bd (ck 11 a0) (fun _ => bd (X8_mergeBegin a0) (fun w => cs w (fun j => it (j = 1) (pu 1) (it (j = 2) (pu 2) (fl))) (fun x1 => bd (lz a1 0 ((x1 : Int32).toInt64)) (fun _ => pu 0))))
section
variable {G : Gx} {p : Program} {l : Launch} {e : Env} {R : Room} {s : State} {m : MethodId} {args : Array Value} {below : List Frame} {meth : Method} {c : Code} {h0 : Hp} {r : Int32} {h' : Hp}
end
set_option maxRecDepth 20000 in
theorem con_L_mergeBegin (l : Launch) (G : Gx) (hl0 : l.stackTraces = false) (a0 : Nat) (a1 : Nat) : ConH G rvI l yL_mergeBegin cL_mergeBegin 3 (some .int) [(0, 8, 11, 25), (0, 8, 14, 19)] 8 182 [.ref a0, .ref a1] (L_mergeBegin a0 a1) := by
  refine con_ofH (lv := [(0, .ref a0), (1, .ref a1)]) hl0 (by decide) (Nat.le_of_ble_eq_true rfl) rfl (fun p e R s m args below meth c h0 r h' C hF hO hr hm X => ?_)
  refine s_aload_n C 1 dL_mergeBegin_0 rfl rfl ?_
  refine s_iconst (v := 0) C dL_mergeBegin_1 (by decide) ?_
  refine s_aload_n C 0 dL_mergeBegin_2 rfl rfl ?_
  refine s_invVT_i C X ci11 cy_X8_mergeBegin wd_6_3 rfl wd_6_4 wd_6_5 (con_X8_mergeBegin l G hl0 a0) rfl rfl (Nat.le_of_ble_eq_true rfl) (by rw [hF]; decide) (by rw [hO]; exact Nat.le_of_ble_eq_true rfl) dL_mergeBegin_3 (fun j q => ?_) (fun x1 => ?_)
  · by_cases e1 : j = 1
    · subst e1
      refine Or.inl ⟨11, ctc0 (k := 1) C X rfl  (by decide) (by decide) wd_3_105 cast_1 rfl, ?_⟩
      refine s_eq rfl (show _ = pu 1 from rfl) ?_
      refine s_astore_n (lv' := [(2, .ref q), (0, .ref a0), (1, .ref a1)]) C dL_mergeBegin_11 rfl (by decide) rfl ?_
      refine s_iconst (v := 1) C dL_mergeBegin_12 (by decide) ?_
      exact s_iret C hr rfl dL_mergeBegin_13
    by_cases e2 : j = 2
    · subst e2
      refine Or.inl ⟨14, ctc1 (k := 2) (j0 := 1) C X rfl (by decide) (by decide) (by decide) (by decide) wd_3_105 (by decide) (by decide) wd_3_61 cast_2 rfl, ?_⟩
      refine s_eq rfl (show _ = pu 2 from rfl) ?_
      refine s_astore_n (lv' := [(2, .ref q), (0, .ref a0), (1, .ref a1)]) C dL_mergeBegin_14 rfl (by decide) rfl ?_
      refine s_iconst (v := 2) C dL_mergeBegin_15 (by decide) ?_
      exact s_iret C hr rfl dL_mergeBegin_16
    exact Or.inr (by simp only [it, if_neg e1, if_neg e2])
  refine s_i2l C dL_mergeBegin_6 ?_
  refine s_lz C dL_mergeBegin_7 ?_
  refine s_goto (tgt := 17) C dL_mergeBegin_8 (by decide) ?_
  refine s_iconst (v := 0) C dL_mergeBegin_17 (by decide) ?_
  exact s_iret C hr rfl dL_mergeBegin_18

theorem dL_mergeStep_0 : decode cL_mergeStep 0 = .ok (.aload_n 2, 1) := by decide +kernel
theorem dL_mergeStep_1 : decode cL_mergeStep 1 = .ok (.iconst 0, 1) := by decide +kernel
theorem dL_mergeStep_2 : decode cL_mergeStep 2 = .ok (.aload_n 0, 1) := by decide +kernel
theorem dL_mergeStep_3 : decode cL_mergeStep 3 = .ok (.iload_n 1, 1) := by decide +kernel
theorem dL_mergeStep_4 : decode cL_mergeStep 4 = .ok (.invokevirtual 47, 3) := by decide +kernel
theorem dL_mergeStep_7 : decode cL_mergeStep 7 = .ok (.i2l, 1) := by decide +kernel
theorem dL_mergeStep_8 : decode cL_mergeStep 8 = .ok (.lastore, 1) := by decide +kernel
theorem dL_mergeStep_9 : decode cL_mergeStep 9 = .ok (.goto 9, 3) := by decide +kernel
theorem dL_mergeStep_12 : decode cL_mergeStep 12 = .ok (.astore_n 3, 1) := by decide +kernel
theorem dL_mergeStep_13 : decode cL_mergeStep 13 = .ok (.iconst 1, 1) := by decide +kernel
theorem dL_mergeStep_14 : decode cL_mergeStep 14 = .ok (.ireturn, 1) := by decide +kernel
theorem dL_mergeStep_15 : decode cL_mergeStep 15 = .ok (.astore_n 3, 1) := by decide +kernel
theorem dL_mergeStep_16 : decode cL_mergeStep 16 = .ok (.iconst 2, 1) := by decide +kernel
theorem dL_mergeStep_17 : decode cL_mergeStep 17 = .ok (.ireturn, 1) := by decide +kernel
theorem dL_mergeStep_18 : decode cL_mergeStep 18 = .ok (.iconst 0, 1) := by decide +kernel
theorem dL_mergeStep_19 : decode cL_mergeStep 19 = .ok (.ireturn, 1) := by decide +kernel
def L_mergeStep (a0 : Nat) (i1 : Int32) (a2 : Nat) : M Int32 := bd (ck 11 a0) (fun _ => bd (X8_mergeStep a0 i1) (fun w => cs w (fun j => it (j = 1) (pu 1) (it (j = 0) (pu 2) (fl))) (fun x1 => bd (lz a2 0 ((x1 : Int32).toInt64)) (fun _ => pu 0))))
section
variable {G : Gx} {p : Program} {l : Launch} {e : Env} {R : Room} {s : State} {m : MethodId} {args : Array Value} {below : List Frame} {meth : Method} {c : Code} {h0 : Hp} {r : Int32} {h' : Hp}
end
set_option maxRecDepth 20000 in
theorem con_L_mergeStep (l : Launch) (G : Gx) (hl0 : l.stackTraces = false) (a0 : Nat) (i1 : Int32) (a2 : Nat) : ConH G rvI l yL_mergeStep cL_mergeStep 4 (some .int) [(0, 9, 12, 25), (0, 9, 15, 13)] 13 370 [.ref a0, .int i1, .ref a2] (L_mergeStep a0 i1 a2) := by
  refine con_ofH (lv := [(0, .ref a0), (1, .int i1), (2, .ref a2)]) hl0 (by decide) (Nat.le_of_ble_eq_true rfl) rfl (fun p e R s m args below meth c h0 r h' C hF hO hr hm X => ?_)
  refine s_aload_n C 2 dL_mergeStep_0 rfl rfl ?_
  refine s_iconst (v := 0) C dL_mergeStep_1 (by decide) ?_
  refine s_aload_n C 0 dL_mergeStep_2 rfl rfl ?_
  refine s_iload_n C 1 dL_mergeStep_3 rfl rfl ?_
  refine s_invVT_i C X ci11 cy_X8_mergeStep wd_6_38 rfl wd_6_39 wd_6_40 (con_X8_mergeStep l G hl0 a0 i1) rfl rfl (Nat.le_of_ble_eq_true rfl) (by rw [hF]; decide) (by rw [hO]; exact Nat.le_of_ble_eq_true rfl) dL_mergeStep_4 (fun j q => ?_) (fun x1 => ?_)
  · by_cases e1 : j = 1
    · subst e1
      refine Or.inl ⟨12, ctc0 (k := 1) C X rfl  (by decide) (by decide) wd_3_105 cast_1 rfl, ?_⟩
      refine s_eq rfl (show _ = pu 1 from rfl) ?_
      refine s_astore_n (lv' := [(3, .ref q), (0, .ref a0), (1, .int i1), (2, .ref a2)]) C dL_mergeStep_12 rfl (by decide) rfl ?_
      refine s_iconst (v := 1) C dL_mergeStep_13 (by decide) ?_
      exact s_iret C hr rfl dL_mergeStep_14
    by_cases e0 : j = 0
    · subst e0
      refine Or.inl ⟨15, ctc1 (k := 0) (j0 := 1) C X rfl (by decide) (by decide) (by decide) (by decide) wd_3_105 (by decide) (by decide) wd_2_224 cast_0 rfl, ?_⟩
      refine s_eq rfl (show _ = pu 2 from rfl) ?_
      refine s_astore_n (lv' := [(3, .ref q), (0, .ref a0), (1, .int i1), (2, .ref a2)]) C dL_mergeStep_15 rfl (by decide) rfl ?_
      refine s_iconst (v := 2) C dL_mergeStep_16 (by decide) ?_
      exact s_iret C hr rfl dL_mergeStep_17
    exact Or.inr (by simp only [it, if_neg e1, if_neg e0])
  refine s_i2l C dL_mergeStep_7 ?_
  refine s_lz C dL_mergeStep_8 ?_
  refine s_goto (tgt := 18) C dL_mergeStep_9 (by decide) ?_
  refine s_iconst (v := 0) C dL_mergeStep_18 (by decide) ?_
  exact s_iret C hr rfl dL_mergeStep_19

theorem dL_patch_0 : decode cL_patch 0 = .ok (.aload 4, 2) := by decide +kernel
theorem dL_patch_2 : decode cL_patch 2 = .ok (.iconst 0, 1) := by decide +kernel
theorem dL_patch_3 : decode cL_patch 3 = .ok (.aload_n 0, 1) := by decide +kernel
theorem dL_patch_4 : decode cL_patch 4 = .ok (.iload_n 1, 1) := by decide +kernel
theorem dL_patch_5 : decode cL_patch 5 = .ok (.iload_n 2, 1) := by decide +kernel
theorem dL_patch_6 : decode cL_patch 6 = .ok (.iload_n 3, 1) := by decide +kernel
theorem dL_patch_7 : decode cL_patch 7 = .ok (.invokevirtual 50, 3) := by decide +kernel
theorem dL_patch_10 : decode cL_patch 10 = .ok (.i2l, 1) := by decide +kernel
theorem dL_patch_11 : decode cL_patch 11 = .ok (.lastore, 1) := by decide +kernel
theorem dL_patch_12 : decode cL_patch 12 = .ok (.goto 11, 3) := by decide +kernel
theorem dL_patch_15 : decode cL_patch 15 = .ok (.astore 5, 2) := by decide +kernel
theorem dL_patch_17 : decode cL_patch 17 = .ok (.iconst 1, 1) := by decide +kernel
theorem dL_patch_18 : decode cL_patch 18 = .ok (.ireturn, 1) := by decide +kernel
theorem dL_patch_19 : decode cL_patch 19 = .ok (.astore 5, 2) := by decide +kernel
theorem dL_patch_21 : decode cL_patch 21 = .ok (.iconst 2, 1) := by decide +kernel
theorem dL_patch_22 : decode cL_patch 22 = .ok (.ireturn, 1) := by decide +kernel
theorem dL_patch_23 : decode cL_patch 23 = .ok (.iconst 0, 1) := by decide +kernel
theorem dL_patch_24 : decode cL_patch 24 = .ok (.ireturn, 1) := by decide +kernel
def L_patch (a0 : Nat) (i1 : Int32) (i2 : Int32) (i3 : Int32) (a4 : Nat) : M Int32 := bd (ck 11 a0) (fun _ => bd (X8_patch a0 i1 i2 i3) (fun w => cs w (fun j => it (j = 1) (pu 1) (it (j = 3) (pu 2) (fl))) (fun x1 => bd (lz a4 0 ((x1 : Int32).toInt64)) (fun _ => pu 0))))
section
variable {G : Gx} {p : Program} {l : Launch} {e : Env} {R : Room} {s : State} {m : MethodId} {args : Array Value} {below : List Frame} {meth : Method} {c : Code} {h0 : Hp} {r : Int32} {h' : Hp}
end
set_option maxRecDepth 20000 in
theorem con_L_patch (l : Launch) (G : Gx) (hl0 : l.stackTraces = false) (a0 : Nat) (i1 : Int32) (i2 : Int32) (i3 : Int32) (a4 : Nat) : ConH G rvI l yL_patch cL_patch 6 (some .int) [(0, 12, 15, 25), (0, 12, 19, 54)] 7 125 [.ref a0, .int i1, .int i2, .int i3, .ref a4] (L_patch a0 i1 i2 i3 a4) := by
  refine con_ofH (lv := [(0, .ref a0), (1, .int i1), (2, .int i2), (3, .int i3), (4, .ref a4)]) hl0 (by decide) (Nat.le_of_ble_eq_true rfl) rfl (fun p e R s m args below meth c h0 r h' C hF hO hr hm X => ?_)
  refine s_aload C 4 dL_patch_0 rfl ?_
  refine s_iconst (v := 0) C dL_patch_2 (by decide) ?_
  refine s_aload_n C 0 dL_patch_3 rfl rfl ?_
  refine s_iload_n C 1 dL_patch_4 rfl rfl ?_
  refine s_iload_n C 2 dL_patch_5 rfl rfl ?_
  refine s_iload_n C 3 dL_patch_6 rfl rfl ?_
  refine s_invVT_i C X ci11 cy_X8_patch wd_6_90 rfl wd_6_91 wd_6_92 (con_X8_patch l G hl0 a0 i1 i2 i3) rfl rfl (Nat.le_of_ble_eq_true rfl) (by rw [hF]; decide) (by rw [hO]; exact Nat.le_of_ble_eq_true rfl) dL_patch_7 (fun j q => ?_) (fun x1 => ?_)
  · by_cases e1 : j = 1
    · subst e1
      refine Or.inl ⟨15, ctc0 (k := 1) C X rfl  (by decide) (by decide) wd_3_105 cast_1 rfl, ?_⟩
      refine s_eq rfl (show _ = pu 1 from rfl) ?_
      refine s_astore (lv' := [(5, .ref q), (0, .ref a0), (1, .int i1), (2, .int i2), (3, .int i3), (4, .ref a4)]) C dL_patch_15 (by decide) rfl ?_
      refine s_iconst (v := 1) C dL_patch_17 (by decide) ?_
      exact s_iret C hr rfl dL_patch_18
    by_cases e3 : j = 3
    · subst e3
      refine Or.inl ⟨19, ctc1 (k := 3) (j0 := 1) C X rfl (by decide) (by decide) (by decide) (by decide) wd_3_105 (by decide) (by decide) wd_6_89 cast_3 rfl, ?_⟩
      refine s_eq rfl (show _ = pu 2 from rfl) ?_
      refine s_astore (lv' := [(5, .ref q), (0, .ref a0), (1, .int i1), (2, .int i2), (3, .int i3), (4, .ref a4)]) C dL_patch_19 (by decide) rfl ?_
      refine s_iconst (v := 2) C dL_patch_21 (by decide) ?_
      exact s_iret C hr rfl dL_patch_22
    exact Or.inr (by simp only [it, if_neg e1, if_neg e3])
  refine s_i2l C dL_patch_10 ?_
  refine s_lz C dL_patch_11 ?_
  refine s_goto (tgt := 23) C dL_patch_12 (by decide) ?_
  refine s_iconst (v := 0) C dL_patch_23 (by decide) ?_
  exact s_iret C hr rfl dL_patch_24

theorem dL_bad_0 : decode cL_bad 0 = .ok (.aload_n 1, 1) := by decide +kernel
theorem dL_bad_1 : decode cL_bad 1 = .ok (.iconst 0, 1) := by decide +kernel
theorem dL_bad_2 : decode cL_bad 2 = .ok (.aload_n 0, 1) := by decide +kernel
theorem dL_bad_3 : decode cL_bad 3 = .ok (.invokevirtual 56, 3) := by decide +kernel
theorem dL_bad_6 : decode cL_bad 6 = .ok (.i2l, 1) := by decide +kernel
theorem dL_bad_7 : decode cL_bad 7 = .ok (.lastore, 1) := by decide +kernel
theorem dL_bad_8 : decode cL_bad 8 = .ok (.goto 6, 3) := by decide +kernel
theorem dL_bad_11 : decode cL_bad 11 = .ok (.astore_n 2, 1) := by decide +kernel
theorem dL_bad_12 : decode cL_bad 12 = .ok (.iconst 1, 1) := by decide +kernel
theorem dL_bad_13 : decode cL_bad 13 = .ok (.ireturn, 1) := by decide +kernel
theorem dL_bad_14 : decode cL_bad 14 = .ok (.iconst 0, 1) := by decide +kernel
theorem dL_bad_15 : decode cL_bad 15 = .ok (.ireturn, 1) := by decide +kernel
def L_bad (a0 : Nat) (a1 : Nat) : M Int32 := bd (ck 11 a0) (fun _ => bd (X8_bad a0) (fun w => cs w (fun j => it (j = 1) (pu 1) (fl)) (fun x1 => bd (lz a1 0 ((x1 : Int32).toInt64)) (fun _ => pu 0))))
section
variable {G : Gx} {p : Program} {l : Launch} {e : Env} {R : Room} {s : State} {m : MethodId} {args : Array Value} {below : List Frame} {meth : Method} {c : Code} {h0 : Hp} {r : Int32} {h' : Hp}
end
set_option maxRecDepth 20000 in
theorem con_L_bad (l : Launch) (G : Gx) (hl0 : l.stackTraces = false) (a0 : Nat) (a1 : Nat) : ConH G rvI l yL_bad cL_bad 3 (some .int) [(0, 8, 11, 25)] 7 135 [.ref a0, .ref a1] (L_bad a0 a1) := by
  refine con_ofH (lv := [(0, .ref a0), (1, .ref a1)]) hl0 (by decide) (Nat.le_of_ble_eq_true rfl) rfl (fun p e R s m args below meth c h0 r h' C hF hO hr hm X => ?_)
  refine s_aload_n C 1 dL_bad_0 rfl rfl ?_
  refine s_iconst (v := 0) C dL_bad_1 (by decide) ?_
  refine s_aload_n C 0 dL_bad_2 rfl rfl ?_
  refine s_invVT_i C X ci11 cy_X8_bad wd_6_101 rfl wd_6_102 wd_6_103 (con_X8_bad l G hl0 a0) rfl rfl (Nat.le_of_ble_eq_true rfl) (by rw [hF]; decide) (by rw [hO]; exact Nat.le_of_ble_eq_true rfl) dL_bad_3 (fun j q => ?_) (fun x1 => ?_)
  · by_cases e1 : j = 1
    · subst e1
      refine Or.inl ⟨11, ctc0 (k := 1) C X rfl  (by decide) (by decide) wd_3_105 cast_1 rfl, ?_⟩
      refine s_eq rfl (show _ = pu 1 from rfl) ?_
      refine s_astore_n (lv' := [(2, .ref q), (0, .ref a0), (1, .ref a1)]) C dL_bad_11 rfl (by decide) rfl ?_
      refine s_iconst (v := 1) C dL_bad_12 (by decide) ?_
      exact s_iret C hr rfl dL_bad_13
    exact Or.inr (by simp only [it, if_neg e1])
  refine s_i2l C dL_bad_6 ?_
  refine s_lz C dL_bad_7 ?_
  refine s_goto (tgt := 14) C dL_bad_8 (by decide) ?_
  refine s_iconst (v := 0) C dL_bad_14 (by decide) ?_
  exact s_iret C hr rfl dL_bad_15
