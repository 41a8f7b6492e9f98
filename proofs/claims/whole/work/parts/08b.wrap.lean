abbrev rvI : Int32 → Option Value := fun x => some (.int x)
abbrev rvL : Int64 → Option Value := fun x => some (.long x)
abbrev rvR : Nat → Option Value := fun x => some (.ref x)
abbrev rvO : Option Nat → Option Value := fun x => some (va_rf x)
abbrev rvU : Unit → Option Value := fun _ => none
def imx (x y : Int32) : Int32 := if x < y then y else x
def imn (x y : Int32) : Int32 := if y < x then y else x
/-- an answer that is a truth value -/
def zr (v : Int32) : M Int32 := it (v = 0 ∨ v = 1) (pu v) fl
section WR
variable {ρ : Type} {G : Gx} {Q : State → Prop} {p : Program} {l : Launch} {e : Env} {R : Room} {s : State} {m : MethodId} {args : Array Value} {below : List Frame} {meth : Method} {c : Code} {cc : ByteArray} {nL : Nat} {own : String} {h0 : Hp} {r : ρ} {h' : Hp} {pc : Nat} {lv lv' : List (Nat × Value)} {st : List Value} {z z1 z2 : M ρ}

theorem s_let {x : Int32} {y : Int32 → M ρ} (k : ∀ v, Sm G Q p l e R s m args below meth c nL h0 r h' pc lv (.int v :: st) (y v)) : Sm G Q p l e R s m args below meth c nL h0 r h' pc lv (.int x :: st) (bd (pu x) y) :=
  fun h H locs ls hR hL hn hs hl hz => k x h H locs ls hR hL hn hs hl hz
theorem s_nullO (C : Cx G p R s m args meth c cc nL own h0 h') (d : decode cc pc = .ok (.aconst_null, 1)) (k : Sm G Q p l e R s m args below meth c nL h0 r h' (pc + 1) lv (va_rf none :: st) z) : Sm G Q p l e R s m args below meth c nL h0 r h' pc lv st z := s_null C d k
theorem s_nn2 {x : Option Nat} {y : Nat → M ρ} (k : ∀ a, x = some a → Sm G Q p l e R s m args below meth c nL h0 r h' pc lv st (y a)) : Sm G Q p l e R s m args below meth c nL h0 r h' pc lv st (nn x y) := fun h H locs ls hR hL hn hs hl hz => by
  cases x with
  | none => cases hz
  | some a => exact k a rfl h H locs ls hR hL hn hs hl hz
theorem s_mmax (C : Cx G p R s m args meth c cc nL own h0 h') {index : Nat} {x y : Int32} (w1 : Cond.methodLink own index Lib.Math.max.name ∈ wb) (w2 : Cond.static Lib.Math.max.name ∈ wb) (w3 : Cond.initialized "java/lang/Math" ∈ wb) (w4 : Cond.code Lib.Math.max.name Lib.Math.max.code 2 (some .int) ∈ wb) (hf : 1 ≤ R.frames) (hlc : (st.map fun v => v.category).sum + 13 ≤ R.locals) (d : decode cc pc = .ok (.invokestatic index, 3)) (k : Sm G Q p l e R s m args below meth c nL h0 r h' (pc + 3) lv (.int (imx x y) :: st) z) : Sm G Q p l e R s m args below meth c nL h0 r h' pc lv (.int y :: .int x :: st) z := fun h H locs ls hR hL hn0 hs0 hl hz => by
  obtain ⟨hx, hb, hml, hown, hts, hSt, hlo, hRc, hRs⟩ := C
  obtain ⟨g1, g2⟩ := z.2 _ _ _ hz
  exact va_mmax hx hb (hml.trans hl.1.symm) hown (hts _ w1) (hts _ w2) (hts _ w3) (hts _ w4) hf hlc (by omega) (by omega) d (k h H locs ls hR hL hn0 hs0 hl hz)
theorem s_mmin (C : Cx G p R s m args meth c cc nL own h0 h') {index : Nat} {x y : Int32} (w1 : Cond.methodLink own index Lib.Math.min.name ∈ wb) (w2 : Cond.static Lib.Math.min.name ∈ wb) (w3 : Cond.initialized "java/lang/Math" ∈ wb) (w4 : Cond.code Lib.Math.min.name Lib.Math.min.code 2 (some .int) ∈ wb) (hf : 1 ≤ R.frames) (hlc : (st.map fun v => v.category).sum + 13 ≤ R.locals) (d : decode cc pc = .ok (.invokestatic index, 3)) (k : Sm G Q p l e R s m args below meth c nL h0 r h' (pc + 3) lv (.int (imn x y) :: st) z) : Sm G Q p l e R s m args below meth c nL h0 r h' pc lv (.int y :: .int x :: st) z := fun h H locs ls hR hL hn0 hs0 hl hz => by
  obtain ⟨hx, hb, hml, hown, hts, hSt, hlo, hRc, hRs⟩ := C
  obtain ⟨g1, g2⟩ := z.2 _ _ _ hz
  exact va_mmin hx hb (hml.trans hl.1.symm) hown (hts _ w1) (hts _ w2) (hts _ w3) (hts _ w4) hf hlc (by omega) (by omega) d (k h H locs ls hR hL hn0 hs0 hl hz)
theorem rowO {h : Hp} {H : Heap} {a : Nat} (hSt : St G s) (hR : Rz G h H) (hk : kd h a = 24) : ∃ cell : Cell, H[a]? = some cell ∧ cell.vm.isStatics = false ∧ s.vm.findClass "[Ljava/lang/Object;" = some cell.cls :=
  ⟨_, (hR.2.2.2.2.2.2.2.1 a hk).2.2, rfl, va_nmO (hSt.1.2 3 (gO G, .object "java/lang/Object") rfl).2 (by decide)⟩
theorem s_getC (C : Cx G p R s m args meth c cc nL own h0 h') {a index : Nat} (w1 : Cond.methodLink own index ⟨"java/lang/Object", "getClass", "()Ljava/lang/Class;"⟩ ∈ wb) (w2 : Cond.selects "[Ljava/lang/Object;" ⟨"java/lang/Object", "getClass", "()Ljava/lang/Class;"⟩ ⟨"java/lang/Object", "getClass", "()Ljava/lang/Class;"⟩ ∈ wb) (w3 : Cond.instanceMethod ⟨"java/lang/Object", "getClass", "()Ljava/lang/Class;"⟩ ∈ wb) (w4 : Cond.native ⟨"java/lang/Object", "getClass", "()Ljava/lang/Class;"⟩ ∈ wb) (hf : 1 ≤ R.frames) (hlc : (st.map fun v => v.category).sum + 14 ≤ R.locals) (d : decode cc pc = .ok (.invokevirtual index, 3)) {y : Unit → M ρ} (k : Sm G Q p l e R s m args below meth c nL h0 r h' (pc + 3) lv (.ref (gM G) :: st) (y ())) : Sm G Q p l e R s m args below meth c nL h0 r h' pc lv (.ref a :: st) (bd (ck 23 a) y) := fun h H locs ls hR hL hn0 hs0 hl hz => by
  obtain ⟨hx, hb, hml, hown, hts, hSt, hlo, hRc, hRs⟩ := C
  obtain ⟨u, h1, e1, e2⟩ := bd_inv hz
  obtain ⟨e3, e4⟩ := rd_inv e1
  rw [e4] at e2
  split at e3
  · rename_i hc
    exact va_getC hx hb (hml.trans hl.1.symm) hown (hts _ w1) (va_Dc.use hSt.2.2.2.2.2.2.2.2.2) (hts _ w2) (hts _ w3) (hts _ w4) hSt.2.2.2.2.2.2.2.2.1 (rowO hSt hR hc) hf hlc d (k h H locs ls hR hL hn0 hs0 hl e2)
  · cases e3
theorem s_ldcM (C : Cx G p R s m args meth c cc nL own h0 h') {index : Nat} (w1 : Cond.classLink own index "[Ljava/lang/Object;" ∈ wb) (d : decode cc pc = .ok (.ldc index, 2)) (k : Sm G Q p l e R s m args below meth c nL h0 r h' (pc + 2) lv (.ref (gM G) :: st) z) : Sm G Q p l e R s m args below meth c nL h0 r h' pc lv st z := fun h H locs ls hR hL hn0 hs0 hl hz =>
  va_ldcM C.1 C.2.1 C.2.2.2.1 (C.2.2.2.2.1 _ w1) C.2.2.2.2.2.1.2.2.2.2.2.2.2.2.1 d (k h H locs ls hR hL hn0 hs0 hl hz)
theorem s_castA (C : Cx G p R s m args meth c cc nL own h0 h') {a index : Nat} (w1 : Cond.classLink own index "[Ljava/lang/Object;" ∈ wb) (d : decode cc pc = .ok (.checkcast index, 3)) {y : Unit → M ρ} (k : Sm G Q p l e R s m args below meth c nL h0 r h' (pc + 3) lv (.ref a :: st) (y ())) : Sm G Q p l e R s m args below meth c nL h0 r h' pc lv (.ref a :: st) (bd (ck 23 a) y) := fun h H locs ls hR hL hn0 hs0 hl hz => by
  obtain ⟨hx, hb, hml, hown, hts, hSt, hlo, hRc, hRs⟩ := C
  obtain ⟨u, h1, e1, e2⟩ := bd_inv hz
  obtain ⟨e3, e4⟩ := rd_inv e1
  rw [e4] at e2
  split at e3
  · rename_i hc
    obtain ⟨cell, q1, q2, q3⟩ := rowO hSt hR hc
    intro T hT X
    obtain ⟨vm', X', sg⟩ := X.checkcastYes hx hown (hts _ w1) (by rw [hT]; exact q1) q2 q3 (va_asg _ _) (g := F0 m pc ls (.ref a :: st)) rfl rfl (by rw [hb]; exact d)
    obtain ⟨t, a1, b1⟩ := k h H locs ls hR hL hn0 hs0 hl e2 (T.setVm vm') hT X'
    exact ⟨t, sg t a1, b1⟩
  · cases e3
/-- two class objects that are the same one -/
theorem s_acmpM (C : Cx G p R s m args meth c cc nL own h0 h') {b : Nat} {off : Int} (d : decode cc pc = .ok (.if_acmp .ne off, 3)) {tgt : Nat} (ht : (pc : Int) + off = (tgt : Int)) (k : Sm G Q p l e R s m args below meth c nL h0 r h' (pc + 3) lv st z) : Sm G Q p l e R s m args below meth c nL h0 r h' pc lv (.ref b :: .ref b :: st) z := fun h H locs ls hR hL hn0 hs0 hl hz =>
  lv_acmp_ne (rx := some b) (ry := some b) C.1 C.2.1 d ht (fun q => absurd rfl q) (fun _ => k h H locs ls hR hL hn0 hs0 hl hz)
theorem s_ifnullR (C : Cx G p R s m args meth c cc nL own h0 h') {a : Nat} {off : Int} (d : decode cc pc = .ok (.ifnull off, 3)) (k : Sm G Q p l e R s m args below meth c nL h0 r h' (pc + 3) lv st z) : Sm G Q p l e R s m args below meth c nL h0 r h' pc lv (.ref a :: st) z :=
  sm_of (fun H locs cells slots ls hl kk => lv_ifnull C.1 C.2.1 d (kk ls hl)) k
theorem s_ifnonnullR (C : Cx G p R s m args meth c cc nL own h0 h') {a : Nat} {off : Int} {tgt : Nat} (d : decode cc pc = .ok (.ifnonnull off, 3)) (ht : (pc : Int) + off = (tgt : Int)) (k : Sm G Q p l e R s m args below meth c nL h0 r h' tgt lv st z) : Sm G Q p l e R s m args below meth c nL h0 r h' pc lv (.ref a :: st) z :=
  sm_of (fun H locs cells slots ls hl kk => lv_ifnonnull C.1 C.2.1 d ht (kk ls hl)) k
theorem s_iincK (C : Cx G p R s m args meth c cc nL own h0 h') {i : Nat} {n : Int} {x w : Int32} (j : Nat) (d : decode cc pc = .ok (.iinc i n, 3)) (hk : lv[j]? = some (i, .int x)) (hw : Int32.ofInt n = w) (hn : i < nL) (hl : (i, Value.int (x + w)) :: (lv.filter (fun q => !(q.1 == i) && !(q.1 + 1 == i && q.2.category == 2))) = lv') (k : Sm G Q p l e R s m args below meth c nL h0 r h' (pc + 3) lv' st z) : Sm G Q p l e R s m args below meth c nL h0 r h' pc lv st z :=
  s_iinc C j d hk (by rw [hw]) hn hl k
end WR
section WZ
variable {G : Gx} {p : Program} {l : Launch} {e : Env} {R : Room} {s : State} {m : MethodId} {args : Array Value} {below : List Frame} {meth : Method} {c : Code} {cc : ByteArray} {nL : Nat} {own : String} {h0 : Hp} {r : Int32} {h' : Hp} {pc : Nat} {lv : List (Nat × Value)}
theorem s_zretC (C : Cx G p R s m args meth c cc nL own h0 h') (hr : meth.sig.returnType = some .boolean) {v : Int32} (d : decode cc pc = .ok (.ireturn, 1)) : Sm G (QM G rvI below args s h0 r h') p l e R s m args below meth c nL h0 r h' pc lv [.int v] (zr v) := fun h H locs ls hR hL hn hs hl hz => by
  unfold zr it at hz
  by_cases hv : v = 0 ∨ v = 1
  · rw [if_pos hv] at hz
    exact s_zret (rv := rvI) (rq := v) C hr rfl hv d h H locs ls hR hL hn hs hl hz
  · rw [if_neg hv] at hz; cases hz
end WZ
section WI
variable {ρ : Type} {G : Gx} {Q : State → Prop} {p : Program} {l : Launch} {e : Env} {R : Room} {s : State} {m : MethodId} {args : Array Value} {below : List Frame} {meth : Method} {c : Code} {cc : ByteArray} {nL : Nat} {own : String} {h0 : Hp} {r : ρ} {h' : Hp} {pc : Nat} {lv lv' : List (Nat × Value)} {st : List Value}
theorem s_invV_i (C : Cx G p R s m args meth c cc nL own h0 h') {ci : Nat} {Cn : String} {T : u_T} {N : Nat} {ty : Nat → FieldType} (K : Ci ci Cn T N ty) {y : MethodName} {cc' : ByteArray} {nL' : Nat} {ret' : Option FieldType} {n fr lo index : Nat} (Y : Cy y cc' nL' ret' n) (L : Lm own index y) (hcls : y.cls = Cn) (wI : Cond.instanceMethod y ∈ wb) (wS : Cond.selects y.cls y y ∈ wb) {b : Nat} {As : List Value} {x : M (Int32)} (hM : Con G rvI l y cc' nL' ret' fr lo (.ref b :: As) x) (hn' : As.length = n) {st0 : List Value} (hst : st0 = As.reverse ++ .ref b :: st) (hcat : (st.map fun v => v.category).sum ≤ 8) (hfr : fr + 1 ≤ R.frames) (hlc : 8 + (nL' + 11) + lo ≤ R.locals) (d : decode cc pc = .ok (.invokevirtual index, 3)) {k : Int32 → M ρ} (kk : ∀ v, Sm G Q p l e R s m args below meth c nL h0 r h' (pc + 3) lv (.int v :: st) (k v)) : Sm G Q p l e R s m args below meth c nL h0 r h' pc lv st0 (bd (ck ci b) (fun _ => bd x k)) :=
  s_invV C K Y L hcls wI wS hM hn' hst hcat hfr hlc d kk
theorem s_invS_i (C : Cx G p R s m args meth c cc nL own h0 h') {y : MethodName} {cc' : ByteArray} {nL' : Nat} {ret' : Option FieldType} {n fr lo index : Nat} (Y : Cy y cc' nL' ret' n) (L : Lm own index y) (wI : Cond.static y ∈ wb) {As : List Value} {x : M (Int32)} (hM : Con G rvI l y cc' nL' ret' fr lo As x) (hn' : As.length = n) {st0 : List Value} (hst : st0 = As.reverse ++ st) (hcat : (st.map fun v => v.category).sum ≤ 8) (hfr : fr + 1 ≤ R.frames) (hlc : 8 + (nL' + 11) + lo ≤ R.locals) (d : decode cc pc = .ok (.invokestatic index, 3)) {k : Int32 → M ρ} (kk : ∀ v, Sm G Q p l e R s m args below meth c nL h0 r h' (pc + 3) lv (.int v :: st) (k v)) : Sm G Q p l e R s m args below meth c nL h0 r h' pc lv st0 (bd x k) :=
  s_invS C Y L wI hM hn' hst hcat hfr hlc d kk
theorem s_invV_l (C : Cx G p R s m args meth c cc nL own h0 h') {ci : Nat} {Cn : String} {T : u_T} {N : Nat} {ty : Nat → FieldType} (K : Ci ci Cn T N ty) {y : MethodName} {cc' : ByteArray} {nL' : Nat} {ret' : Option FieldType} {n fr lo index : Nat} (Y : Cy y cc' nL' ret' n) (L : Lm own index y) (hcls : y.cls = Cn) (wI : Cond.instanceMethod y ∈ wb) (wS : Cond.selects y.cls y y ∈ wb) {b : Nat} {As : List Value} {x : M (Int64)} (hM : Con G rvL l y cc' nL' ret' fr lo (.ref b :: As) x) (hn' : As.length = n) {st0 : List Value} (hst : st0 = As.reverse ++ .ref b :: st) (hcat : (st.map fun v => v.category).sum ≤ 8) (hfr : fr + 1 ≤ R.frames) (hlc : 8 + (nL' + 11) + lo ≤ R.locals) (d : decode cc pc = .ok (.invokevirtual index, 3)) {k : Int64 → M ρ} (kk : ∀ v, Sm G Q p l e R s m args below meth c nL h0 r h' (pc + 3) lv (.long v :: st) (k v)) : Sm G Q p l e R s m args below meth c nL h0 r h' pc lv st0 (bd (ck ci b) (fun _ => bd x k)) :=
  s_invV C K Y L hcls wI wS hM hn' hst hcat hfr hlc d kk
theorem s_invS_l (C : Cx G p R s m args meth c cc nL own h0 h') {y : MethodName} {cc' : ByteArray} {nL' : Nat} {ret' : Option FieldType} {n fr lo index : Nat} (Y : Cy y cc' nL' ret' n) (L : Lm own index y) (wI : Cond.static y ∈ wb) {As : List Value} {x : M (Int64)} (hM : Con G rvL l y cc' nL' ret' fr lo As x) (hn' : As.length = n) {st0 : List Value} (hst : st0 = As.reverse ++ st) (hcat : (st.map fun v => v.category).sum ≤ 8) (hfr : fr + 1 ≤ R.frames) (hlc : 8 + (nL' + 11) + lo ≤ R.locals) (d : decode cc pc = .ok (.invokestatic index, 3)) {k : Int64 → M ρ} (kk : ∀ v, Sm G Q p l e R s m args below meth c nL h0 r h' (pc + 3) lv (.long v :: st) (k v)) : Sm G Q p l e R s m args below meth c nL h0 r h' pc lv st0 (bd x k) :=
  s_invS C Y L wI hM hn' hst hcat hfr hlc d kk
theorem s_invV_r (C : Cx G p R s m args meth c cc nL own h0 h') {ci : Nat} {Cn : String} {T : u_T} {N : Nat} {ty : Nat → FieldType} (K : Ci ci Cn T N ty) {y : MethodName} {cc' : ByteArray} {nL' : Nat} {ret' : Option FieldType} {n fr lo index : Nat} (Y : Cy y cc' nL' ret' n) (L : Lm own index y) (hcls : y.cls = Cn) (wI : Cond.instanceMethod y ∈ wb) (wS : Cond.selects y.cls y y ∈ wb) {b : Nat} {As : List Value} {x : M (Nat)} (hM : Con G rvR l y cc' nL' ret' fr lo (.ref b :: As) x) (hn' : As.length = n) {st0 : List Value} (hst : st0 = As.reverse ++ .ref b :: st) (hcat : (st.map fun v => v.category).sum ≤ 8) (hfr : fr + 1 ≤ R.frames) (hlc : 8 + (nL' + 11) + lo ≤ R.locals) (d : decode cc pc = .ok (.invokevirtual index, 3)) {k : Nat → M ρ} (kk : ∀ v, Sm G Q p l e R s m args below meth c nL h0 r h' (pc + 3) lv (.ref v :: st) (k v)) : Sm G Q p l e R s m args below meth c nL h0 r h' pc lv st0 (bd (ck ci b) (fun _ => bd x k)) :=
  s_invV C K Y L hcls wI wS hM hn' hst hcat hfr hlc d kk
theorem s_invS_r (C : Cx G p R s m args meth c cc nL own h0 h') {y : MethodName} {cc' : ByteArray} {nL' : Nat} {ret' : Option FieldType} {n fr lo index : Nat} (Y : Cy y cc' nL' ret' n) (L : Lm own index y) (wI : Cond.static y ∈ wb) {As : List Value} {x : M (Nat)} (hM : Con G rvR l y cc' nL' ret' fr lo As x) (hn' : As.length = n) {st0 : List Value} (hst : st0 = As.reverse ++ st) (hcat : (st.map fun v => v.category).sum ≤ 8) (hfr : fr + 1 ≤ R.frames) (hlc : 8 + (nL' + 11) + lo ≤ R.locals) (d : decode cc pc = .ok (.invokestatic index, 3)) {k : Nat → M ρ} (kk : ∀ v, Sm G Q p l e R s m args below meth c nL h0 r h' (pc + 3) lv (.ref v :: st) (k v)) : Sm G Q p l e R s m args below meth c nL h0 r h' pc lv st0 (bd x k) :=
  s_invS C Y L wI hM hn' hst hcat hfr hlc d kk
theorem s_invV_o (C : Cx G p R s m args meth c cc nL own h0 h') {ci : Nat} {Cn : String} {T : u_T} {N : Nat} {ty : Nat → FieldType} (K : Ci ci Cn T N ty) {y : MethodName} {cc' : ByteArray} {nL' : Nat} {ret' : Option FieldType} {n fr lo index : Nat} (Y : Cy y cc' nL' ret' n) (L : Lm own index y) (hcls : y.cls = Cn) (wI : Cond.instanceMethod y ∈ wb) (wS : Cond.selects y.cls y y ∈ wb) {b : Nat} {As : List Value} {x : M (Option Nat)} (hM : Con G rvO l y cc' nL' ret' fr lo (.ref b :: As) x) (hn' : As.length = n) {st0 : List Value} (hst : st0 = As.reverse ++ .ref b :: st) (hcat : (st.map fun v => v.category).sum ≤ 8) (hfr : fr + 1 ≤ R.frames) (hlc : 8 + (nL' + 11) + lo ≤ R.locals) (d : decode cc pc = .ok (.invokevirtual index, 3)) {k : Option Nat → M ρ} (kk : ∀ v, Sm G Q p l e R s m args below meth c nL h0 r h' (pc + 3) lv (va_rf v :: st) (k v)) : Sm G Q p l e R s m args below meth c nL h0 r h' pc lv st0 (bd (ck ci b) (fun _ => bd x k)) :=
  s_invV C K Y L hcls wI wS hM hn' hst hcat hfr hlc d kk
theorem s_invS_o (C : Cx G p R s m args meth c cc nL own h0 h') {y : MethodName} {cc' : ByteArray} {nL' : Nat} {ret' : Option FieldType} {n fr lo index : Nat} (Y : Cy y cc' nL' ret' n) (L : Lm own index y) (wI : Cond.static y ∈ wb) {As : List Value} {x : M (Option Nat)} (hM : Con G rvO l y cc' nL' ret' fr lo As x) (hn' : As.length = n) {st0 : List Value} (hst : st0 = As.reverse ++ st) (hcat : (st.map fun v => v.category).sum ≤ 8) (hfr : fr + 1 ≤ R.frames) (hlc : 8 + (nL' + 11) + lo ≤ R.locals) (d : decode cc pc = .ok (.invokestatic index, 3)) {k : Option Nat → M ρ} (kk : ∀ v, Sm G Q p l e R s m args below meth c nL h0 r h' (pc + 3) lv (va_rf v :: st) (k v)) : Sm G Q p l e R s m args below meth c nL h0 r h' pc lv st0 (bd x k) :=
  s_invS C Y L wI hM hn' hst hcat hfr hlc d kk
theorem s_invV_u (C : Cx G p R s m args meth c cc nL own h0 h') {ci : Nat} {Cn : String} {T : u_T} {N : Nat} {ty : Nat → FieldType} (K : Ci ci Cn T N ty) {y : MethodName} {cc' : ByteArray} {nL' : Nat} {ret' : Option FieldType} {n fr lo index : Nat} (Y : Cy y cc' nL' ret' n) (L : Lm own index y) (hcls : y.cls = Cn) (wI : Cond.instanceMethod y ∈ wb) (wS : Cond.selects y.cls y y ∈ wb) {b : Nat} {As : List Value} {x : M (Unit)} (hM : Con G rvU l y cc' nL' ret' fr lo (.ref b :: As) x) (hn' : As.length = n) {st0 : List Value} (hst : st0 = As.reverse ++ .ref b :: st) (hcat : (st.map fun v => v.category).sum ≤ 8) (hfr : fr + 1 ≤ R.frames) (hlc : 8 + (nL' + 11) + lo ≤ R.locals) (d : decode cc pc = .ok (.invokevirtual index, 3)) {k : Unit → M ρ} (kk : Sm G Q p l e R s m args below meth c nL h0 r h' (pc + 3) lv st (k ())) : Sm G Q p l e R s m args below meth c nL h0 r h' pc lv st0 (bd (ck ci b) (fun _ => bd x k)) :=
  s_invV C K Y L hcls wI wS hM hn' hst hcat hfr hlc d (fun _ => kk)
theorem s_invS_u (C : Cx G p R s m args meth c cc nL own h0 h') {y : MethodName} {cc' : ByteArray} {nL' : Nat} {ret' : Option FieldType} {n fr lo index : Nat} (Y : Cy y cc' nL' ret' n) (L : Lm own index y) (wI : Cond.static y ∈ wb) {As : List Value} {x : M (Unit)} (hM : Con G rvU l y cc' nL' ret' fr lo As x) (hn' : As.length = n) {st0 : List Value} (hst : st0 = As.reverse ++ st) (hcat : (st.map fun v => v.category).sum ≤ 8) (hfr : fr + 1 ≤ R.frames) (hlc : 8 + (nL' + 11) + lo ≤ R.locals) (d : decode cc pc = .ok (.invokestatic index, 3)) {k : Unit → M ρ} (kk : Sm G Q p l e R s m args below meth c nL h0 r h' (pc + 3) lv st (k ())) : Sm G Q p l e R s m args below meth c nL h0 r h' pc lv st0 (bd x k) :=
  s_invS C Y L wI hM hn' hst hcat hfr hlc d (fun _ => kk)
theorem s_invI_u (C : Cx G p R s m args meth c cc nL own h0 h') {y : MethodName} {cc' : ByteArray} {nL' : Nat}  {n fr lo index : Nat} (Y : Cy y cc' nL' none n) (L : Lm own index y) (hy1 : y.name = "<init>") (wI : Cond.instanceMethod y ∈ wb) {b : Nat} {As : List Value} {x : M (Unit)} (hM : Con G rvU l y cc' nL' none fr lo (.ref b :: As) x) (hn' : As.length = n) {st0 : List Value} (hst : st0 = As.reverse ++ .ref b :: st) (hcat : (st.map fun v => v.category).sum ≤ 8) (hfr : fr + 1 ≤ R.frames) (hlc : 8 + (nL' + 11) + lo ≤ R.locals) (d : decode cc pc = .ok (.invokespecial index, 3)) {k : Unit → M ρ} (kk : Sm G Q p l e R s m args below meth c nL h0 r h' (pc + 3) lv st (k ())) : Sm G Q p l e R s m args below meth c nL h0 r h' pc lv st0 (bd x k) :=
  s_invI C Y L hy1 wI hM hn' hst hcat hfr hlc d (fun _ => kk)
end WI
