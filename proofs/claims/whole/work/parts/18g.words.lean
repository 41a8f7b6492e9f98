set_option maxRecDepth 100000 in
theorem hat_63 : ∀ w ∈ vx_atS RX8 63 (exc 0) excN, w ∈ wb ∨ w ∈ otl := by decide +kernel
set_option maxRecDepth 100000 in
theorem hat_78 : ∀ w ∈ vx_atS RX8 78 (exc 2) excN, w ∈ wb ∨ w ∈ otl := by decide +kernel
set_option maxRecDepth 100000 in
theorem hat_94 : ∀ w ∈ vx_atS RX8 94 (exc 1) excN, w ∈ wb ∨ w ∈ otl := by decide +kernel
set_option maxRecDepth 100000 in
theorem hat_258 : ∀ w ∈ vx_atS RX8 258 (exc 3) excN, w ∈ wb ∨ w ∈ otl := by decide +kernel
set_option maxRecDepth 100000 in
theorem str_61 : (61, "capacity is not 128 to 16384") ∈ strL := by decide +kernel
set_option maxRecDepth 100000 in
theorem str_66 : (66, "fileMost is not 128 to 4096") ∈ strL := by decide +kernel
set_option maxRecDepth 100000 in
theorem str_68 : (68, "n is not 1 to 16") ∈ strL := by decide +kernel
set_option maxRecDepth 100000 in
theorem str_76 : (76, "the tape would have more than 80 bytes") ∈ strL := by decide +kernel
set_option maxRecDepth 100000 in
theorem str_92 : (92, "the store is not open") ∈ strL := by decide +kernel
set_option maxRecDepth 100000 in
theorem str_95 : (95, "no such key or value on the tape") ∈ strL := by decide +kernel
set_option maxRecDepth 100000 in
theorem str_105 : (105, "full") ∈ strL := by decide +kernel
set_option maxRecDepth 100000 in
theorem str_127 : (127, "the tape has not 1 to 16 bytes") ∈ strL := by decide +kernel
set_option maxRecDepth 100000 in
theorem str_182 : (182, "there are not so many bytes to keep") ∈ strL := by decide +kernel
set_option maxRecDepth 100000 in
theorem str_190 : (190, "the store is open") ∈ strL := by decide +kernel
set_option maxRecDepth 100000 in
theorem str_217 : (217, "the store is not open, or a merge is under way") ∈ strL := by decide +kernel
set_option maxRecDepth 100000 in
theorem str_231 : (231, "there is no room to merge") ∈ strL := by decide +kernel
set_option maxRecDepth 100000 in
theorem str_239 : (239, "the store is not open, or no merge is under way") ∈ strL := by decide +kernel
set_option maxRecDepth 100000 in
theorem str_241 : (241, "n is below 1") ∈ strL := by decide +kernel
set_option maxRecDepth 100000 in
theorem str_256 : (256, "there is no such byte") ∈ strL := by decide +kernel
set_option maxRecDepth 100000 in
theorem cast_0 : Cond.castable (exc 0) (exc 0) ∈ otl := by decide +kernel
set_option maxRecDepth 100000 in
theorem cast_1 : Cond.castable (exc 1) (exc 1) ∈ otl := by decide +kernel
set_option maxRecDepth 100000 in
theorem cast_2 : Cond.castable (exc 2) (exc 2) ∈ otl := by decide +kernel
set_option maxRecDepth 100000 in
theorem cast_3 : Cond.castable (exc 3) (exc 3) ∈ otl := by decide +kernel
theorem cy_L_format : CyH yL_format cL_format 4 (some .int) [(0, 6, 9, 13)] 3 := ⟨wd_2_223, wd_1_0, ⟨by decide +kernel, by decide +kernel⟩, by decide +kernel⟩
theorem cy_L_feed : CyH yL_feed cL_feed 8 (some .int) [(0, 13, 16, 13), (0, 13, 20, 19)] 5 := ⟨wd_3_60, wd_1_0, ⟨by decide +kernel, by decide +kernel⟩, by decide +kernel⟩
theorem cy_L_put : CyH yL_put cL_put 4 (some .int) [(0, 9, 12, 25), (0, 9, 15, 13), (0, 9, 18, 19)] 3 := ⟨wd_3_104, wd_1_0, ⟨by decide +kernel, by decide +kernel⟩, by decide +kernel⟩
theorem cy_L_remove : CyH yL_remove cL_remove 3 (some .int) [(0, 15, 18, 25), (0, 15, 21, 13), (0, 15, 24, 19)] 2 := ⟨wd_5_92, wd_1_0, ⟨by decide +kernel, by decide +kernel⟩, by decide +kernel⟩
theorem cy_L_get : CyH yL_get cL_get 3 (some .int) [(0, 8, 11, 25)] 2 := ⟨wd_5_102, wd_1_0, ⟨by decide +kernel, by decide +kernel⟩, by decide +kernel⟩
theorem cy_L_sync : CyH yL_sync cL_sync 3 (some .int) [(0, 8, 11, 25)] 2 := ⟨wd_5_124, wd_1_0, ⟨by decide +kernel, by decide +kernel⟩, by decide +kernel⟩
theorem cy_L_crash : CyH yL_crash cL_crash 4 (some .int) [(0, 9, 12, 25), (0, 9, 15, 13)] 3 := ⟨wd_5_135, wd_1_0, ⟨by decide +kernel, by decide +kernel⟩, by decide +kernel⟩
theorem cy_L_open : CyH yL_open cL_open 3 (some .int) [(0, 8, 11, 25)] 2 := ⟨wd_5_157, wd_1_0, ⟨by decide +kernel, by decide +kernel⟩, by decide +kernel⟩
theorem cy_L_mergeBegin : CyH yL_mergeBegin cL_mergeBegin 3 (some .int) [(0, 8, 11, 25), (0, 8, 14, 19)] 2 := ⟨wd_6_2, wd_1_0, ⟨by decide +kernel, by decide +kernel⟩, by decide +kernel⟩
theorem cy_L_mergeStep : CyH yL_mergeStep cL_mergeStep 4 (some .int) [(0, 9, 12, 25), (0, 9, 15, 13)] 3 := ⟨wd_6_37, wd_1_0, ⟨by decide +kernel, by decide +kernel⟩, by decide +kernel⟩
theorem cy_L_patch : CyH yL_patch cL_patch 6 (some .int) [(0, 12, 15, 25), (0, 12, 19, 54)] 5 := ⟨wd_6_88, wd_1_0, ⟨by decide +kernel, by decide +kernel⟩, by decide +kernel⟩
theorem cy_L_bad : CyH yL_bad cL_bad 3 (some .int) [(0, 8, 11, 25)] 2 := ⟨wd_6_100, wd_1_0, ⟨by decide +kernel, by decide +kernel⟩, by decide +kernel⟩
/-- what the law's own end needs -/
def LawR (G : Gx) (R : Room) (args : Array Value) (meth : Method) (s : State) (r : Int32) (h0 h' : Hp) : Prop := R = room_1 ∧ (∃ b, args = #[Value.ref b]) ∧ meth.sig.returnType = ret ∧ r = 1 ∧ hn h' - hn h0 ≤ 601024 ∧ sl h' - sl h0 ≤ 7293034 ∧ (gH G).size = s.heap.size
theorem s_lawret {G : Gx} {p : Program} {l : Launch} {e : Env} {R : Room} {s : State} {m : MethodId} {args : Array Value} {below : List Frame} {meth : Method} {c : Code} {nL : Nat} {own : String} {h0 : Hp} {r : Int32} {h' : Hp} {pc : Nat} {lv : List (Nat × Value)} (C : Cx G p R s m args meth c cL_law nL own h0 h') (hr : LawR G R args meth s r h0 h') {v : Int32} (d : decode cL_law pc = .ok (.ireturn, 1)) : Sm G (lw_Z below args s) p l e R s m args below meth c nL h0 r h' pc lv [.int v] (pu v) := fun h H locs ls hR hL hn0 hs0 hl hz => by
  obtain ⟨hx, hb, hml, hown, hts, hSt, hlo, hRc, hRs⟩ := C
  obtain ⟨q1, ⟨b, q2⟩, q3, q4, q5, q6, q7⟩ := hr
  cases hz
  subst q1 q2 q4
  refine va_forget (fun q hq => by have := hL q hq; unfold bs at this; rw [q7] at this; exact this) (W.widen q5 q6 (lw_ret hx hb q3 hlo d))
