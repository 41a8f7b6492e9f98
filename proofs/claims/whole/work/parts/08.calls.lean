/-- a method's contract: wherever its program comes to an end, the machine does just that -/
def Con {ρ : Type} (G : Gx) (rv : ρ → Option Value) (l : Launch) (y : MethodName) (cc : ByteArray) (nL : Nat) (ret : Option FieldType) (fr lo : Nat) (av : List Value) (x : M ρ) : Prop :=
  ∀ (h : Hp) (r : ρ) (h' : Hp), x.1 h = some (r, h') → Met l y (.code y cc nL ret :: wb) { frames := fr, cells := hn h' - hn h, slots := sl h' - sl h, locals := lo } (va_Pc av (fun U => St G U ∧ Rz G h U.heap)) (Fi G rv r h') (hn h' - hn h) (sl h' - sl h) (bs G)
/-- what the tables say of a callee -/
def Cy (y : MethodName) (cc : ByteArray) (nL : Nat) (ret : Option FieldType) (n : Nat) : Prop :=
  Cond.code y cc nL ret ∈ wb ∧ Cond.initialized y.cls ∈ wb ∧ (y.cls ≠ "java/lang/invoke/MethodHandle" ∧ y.cls ≠ "java/lang/invoke/VarHandle") ∧ (parseMethodDescriptor y.desc).map (fun d => d.parameters.length) = some n
/-- a method's link, by its own name or a nest mate's -/
def Lm (own : String) (index : Nat) (y : MethodName) : Prop := (Cond.methodLink own index y ∈ wb) ∨ ∃ host, Cond.methodLinkNest own index y host ∈ nwl
theorem wb_good {w : Cond} (h : w ∈ wb) : (w.onTables && w.keeps) = true ∨ ∃ ty, w = .arrayClass ty := good_of_word (List.mem_filter.mp h).2
section CL
variable {ρ ρ' α : Type} {G : Gx} {Q : State → Prop} {rv' : ρ' → Option Value} {p : Program} {l : Launch} {e : Env} {R : Room} {s : State} {m : MethodId} {args : Array Value} {below : List Frame} {meth : Method} {c : Code} {cc : ByteArray} {nL : Nat} {own : String} {h0 : Hp} {r : ρ} {h' : Hp} {pc : Nat} {lv lv' : List (Nat × Value)} {st : List Value} {z z1 z2 : M ρ}
theorem con_of {rv : ρ → Option Value} {y : MethodName} {ret : Option FieldType} {fr lo : Nat} {av : List Value} {x : M ρ} (hy : plainName y.cls = true) (hln : (lg_sl av).length ≤ nL) (hlv : lv_args 0 av = lv)
    (body : ∀ (p : Program) (e : Env) (R : Room) (s : State) (m : MethodId) (args : Array Value) (below : List Frame) (meth : Method) (c : Code) (h0 : Hp) (r : ρ) (h' : Hp), Cx G p R s m args meth c cc nL y.cls h0 h' → R.frames = fr → R.locals = lo → meth.sig.returnType = ret → meth.name = y.name → Sm G (QM G rv below args s h0 r h') p l e R s m args below meth c nL h0 r h' 0 lv [] x) : Con G rv l y cc nL ret fr lo av x := by
  intro h r h' hz
  refine Met.ofW (cc := cc) (maxL := nL) (ret := ret) hy rfl ?_
  intro p e s m args below meth c s₁ B hml hv
  obtain ⟨rfl, hSt, hR⟩ := hv
  have hts := atoms_spec (ws := .code y cc nL ret :: wb) B.pre
  have hown : s.vm.findClass y.cls = some m.cls := findClass_of_methodNamed B.named
  have hl := lv_entry av (n := nL) hln
  rw [hlv] at hl
  rw [lg_entry_eq]
  have C : Cx G p (headSpec (.code y cc nL ret :: wb) { frames := fr, cells := hn h' - hn h, slots := sl h' - sl h, locals := lo }).room s m av.toArray meth c cc nL y.cls h h' := ⟨B.exec, B.bytes, hml, hown, fun w hw => hts w (List.mem_cons_of_mem _ hw), hSt, B.notSynchronized, Nat.le_refl _, Nat.le_refl _⟩
  refine W.cs (cells' := hn h - hn h) (slots' := sl h - sl h) (Nat.sub_self _).symm (Nat.sub_self _).symm ?_
  exact body p e _ s m av.toArray below meth c h r h' C rfl rfl B.returns (name_of_methodNamed B.named B.method).1 h s.heap [] _ hR (fun q hq => by cases hq) (Nat.le_refl _) (Nat.le_refl _) hl hz
theorem blind {h : Hp} {av : List Value} : FrameBlind (va_Pc av (fun U => St G U ∧ Rz G h U.heap)) := fun a U g mk q => ⟨q.1, St.moved (u := U) (U := U.calling g mk a) (State.WarmedH.refl U) q.2.1, q.2.2⟩
theorem w_call {H : Heap} {locs : List Loc} {cells slots mc ms : Nat} {ls : Array Slot} {st0 : List Value} {a : Array Value} {r' : ρ'} {h1 : Hp} (hr : va_Run p l e R s m args below meth c H locs cells slots mc ms (F0 m pc ls st0) st (Fi G rv' r' h1 a) (bs G)) (hL : ∀ q ∈ locs, bs G q.base)
    (kk : ∀ (H1 : Heap) (locs1 : List Loc), Rz G h1 H1 → (∀ q ∈ locs1, bs G q.base) → W p l e R s m args below meth c H1 locs1 (cells + mc) (slots + ms) Q (F0 m (pc + 3) ls ((rv' r').toList ++ st))) : W p l e R s m args below meth c H locs cells slots Q (F0 m pc ls st0) := by
  intro T hT X
  obtain ⟨v, st₀, t, T', L, e0, X', hLL, e1, e2, ⟨hv, hRz⟩, sg⟩ := hr T hT X
  cases hv
  obtain ⟨t2, a1, b1⟩ := kk T'.heap (locs ++ L) (by rw [e1]; exact hRz) (fun q hq => by
    rcases List.mem_append.mp hq with h | h
    · exact hL q h
    · exact hLL q h) T' rfl X'
  exact ⟨t2, sg t2 a1, b1⟩
theorem wb_all (hts : ∀ w ∈ wb, w.before args s = true) {y : MethodName} {cc' : ByteArray} {nL' : Nat} {ret' : Option FieldType} (hc : Cond.code y cc' nL' ret' ∈ wb) : ∀ w ∈ (Cond.code y cc' nL' ret' :: wb), ∀ (a' : Array Value) (U : State), s.WarmedH U.vm → w.before a' U = true := by
  intro w hw a' U hW
  have hw : w ∈ wb := by
    rcases List.mem_cons.mp hw with q | q
    · rw [q]; exact hc
    · exact q
  exact word_at hW (wb_good hw) (hts w hw)
theorem n_of {y : MethodName} {n : Nat} (h : (parseMethodDescriptor y.desc).map (fun d => d.parameters.length) = some n) : ∀ sig, parseMethodDescriptor y.desc = some sig → n = sig.parameters.length := by
  intro sig q
  rw [q] at h
  exact (Option.some.inj h).symm
theorem s_invV (C : Cx G p R s m args meth c cc nL own h0 h') {ci : Nat} {Cn : String} {T : u_T} {N : Nat} {ty : Nat → FieldType} (K : Ci ci Cn T N ty) {y : MethodName} {cc' : ByteArray} {nL' : Nat} {ret' : Option FieldType} {n fr lo index : Nat} (Y : Cy y cc' nL' ret' n) (L : Lm own index y) (hcls : y.cls = Cn) (wI : Cond.instanceMethod y ∈ wb) (wS : Cond.selects y.cls y y ∈ wb) {b : Nat} {As : List Value} {x : M ρ'} (hM : Con G rv' l y cc' nL' ret' fr lo (.ref b :: As) x) (hn' : As.length = n) {st0 : List Value} (hst : st0 = As.reverse ++ .ref b :: st) (hcat : (st.map fun v => v.category).sum ≤ 8) (hfr : fr + 1 ≤ R.frames) (hlc : 8 + (nL' + 11) + lo ≤ R.locals) (d : decode cc pc = .ok (.invokevirtual index, 3)) {k : ρ' → M ρ} (kk : ∀ v, Sm G Q p l e R s m args below meth c nL h0 r h' (pc + 3) lv ((rv' v).toList ++ st) (k v)) : Sm G Q p l e R s m args below meth c nL h0 r h' pc lv st0 (bd (ck ci b) (fun _ => bd x k)) := fun h H locs ls hR hL hn0 hs0 hl hz => by
  obtain ⟨hx, hb, hml, hown, hts, hSt, hlo, hRc, hRs⟩ := C
  obtain ⟨k1, k2, k3, k4, k5, k6, k7⟩ := K
  obtain ⟨u, h1, e1, e2⟩ := bd_inv hz
  obtain ⟨e3, e4⟩ := rd_inv e1
  rw [e4] at e2
  split at e3
  · rename_i hc
    obtain ⟨-, cell, q1, q2, q3, -⟩ := hR.2.2.2.1 b ci hc k1
    have hKn := hSt.1.1 ci _ k2
    obtain ⟨v, h2, f1, f2⟩ := bd_inv e2
    clear e1 e3 hz
    obtain ⟨g1, g2⟩ := x.2 _ _ _ f1
    obtain ⟨g3, g4⟩ := (k v).2 _ _ _ f2
    refine w_call (mc := hn h2 - hn h) (ms := sl h2 - sl h) (a := (Value.ref b :: As).toArray) (rv' := rv') (r' := v) (h1 := h2) ?_ hL (fun H1 locs1 hR1 hL1 => W.cs (cells' := hn h2 - hn h0) (slots' := sl h2 - sl h0) (by omega) (by omega) (kk v h2 H1 locs1 ls hR1 hL1 (by omega) (by omega) hl f2))
    rcases L with L | ⟨host, L⟩
    · exact va_runV (C := y.cls) (Ts := wb) (own := own) (As := As) (rest := st) (bytes := cc') (maxL := nL') (ret := ret') ⟨hx, hb, hml, hown, hts⟩ (hM h v h2 f1) ⟨⟨rfl, rfl, hfr, hlc, wb_all hts Y.1, List.mem_cons_self, hts _ Y.1, hts _ Y.2.1, Y.2.2.1, n_of Y.2.2.2, hts _ L⟩, ⟨hts _ wI, hts _ wS⟩⟩ ⟨blind, ⟨cell, q1, by rw [q3]; rfl, by rw [q2]; rw [hcls]; exact hKn.2.1⟩, fun U hU hW => ⟨rfl, St.moved hW hSt, by rw [hU]; exact hR⟩⟩ rfl hn' hl.1 hst (lv_room hcat) d ⟨by omega, by omega⟩
    · exact va_runVN (C := y.cls) (Ts := wb) (own := own) (As := As) (rest := st) (bytes := cc') (maxL := nL') (ret := ret') ⟨hx, hb, hml, hown, hts⟩ (hM h v h2 f1) ⟨⟨⟨rfl, rfl, hfr, hlc, wb_all hts Y.1, List.mem_cons_self⟩, hts _ Y.1, hts _ Y.2.1, Y.2.2.1, n_of Y.2.2.2, va_Nw.use rfl (hSt.2.2.2.2.2.1 _ L)⟩, ⟨hts _ wI, hts _ wS⟩⟩ ⟨blind, ⟨cell, q1, by rw [q3]; rfl, by rw [q2]; rw [hcls]; exact hKn.2.1⟩, fun U hU hW => ⟨rfl, St.moved hW hSt, by rw [hU]; exact hR⟩⟩ rfl hn' hl.1 hst (lv_room hcat) d ⟨by omega, by omega⟩
  · cases e3
theorem s_invS (C : Cx G p R s m args meth c cc nL own h0 h') {y : MethodName} {cc' : ByteArray} {nL' : Nat} {ret' : Option FieldType} {n fr lo index : Nat} (Y : Cy y cc' nL' ret' n) (L : Lm own index y) (wI : Cond.static y ∈ wb) {As : List Value} {x : M ρ'} (hM : Con G rv' l y cc' nL' ret' fr lo As x) (hn' : As.length = n) {st0 : List Value} (hst : st0 = As.reverse ++ st) (hcat : (st.map fun v => v.category).sum ≤ 8) (hfr : fr + 1 ≤ R.frames) (hlc : 8 + (nL' + 11) + lo ≤ R.locals) (d : decode cc pc = .ok (.invokestatic index, 3)) {k : ρ' → M ρ} (kk : ∀ v, Sm G Q p l e R s m args below meth c nL h0 r h' (pc + 3) lv ((rv' v).toList ++ st) (k v)) : Sm G Q p l e R s m args below meth c nL h0 r h' pc lv st0 (bd x k) := fun h H locs ls hR hL hn0 hs0 hl hz => by
  obtain ⟨hx, hb, hml, hown, hts, hSt, hlo, hRc, hRs⟩ := C
  obtain ⟨v, h2, f1, f2⟩ := bd_inv hz
  obtain ⟨g1, g2⟩ := x.2 _ _ _ f1
  obtain ⟨g3, g4⟩ := (k v).2 _ _ _ f2
  refine w_call (mc := hn h2 - hn h) (ms := sl h2 - sl h) (a := (As).toArray) (rv' := rv') (r' := v) (h1 := h2) ?_ hL (fun H1 locs1 hR1 hL1 => W.cs (cells' := hn h2 - hn h0) (slots' := sl h2 - sl h0) (by omega) (by omega) (kk v h2 H1 locs1 ls hR1 hL1 (by omega) (by omega) hl f2))
  rcases L with L | ⟨host, L⟩
  · exact va_runS (Ts := wb) (own := own) (As := As) (rest := st) (bytes := cc') (maxL := nL') (ret := ret') ⟨hx, hb, hml, hown, hts⟩ (hM h v h2 f1) ⟨⟨rfl, rfl, hfr, hlc, wb_all hts Y.1, List.mem_cons_self, hts _ Y.1, hts _ Y.2.1, Y.2.2.1, n_of Y.2.2.2, hts _ L⟩, hts _ wI⟩ ⟨blind, fun U hU hW => ⟨rfl, St.moved hW hSt, by rw [hU]; exact hR⟩⟩ rfl hn' hl.1 hst (lv_room hcat) d ⟨by omega, by omega⟩
  · exact va_runSN (Ts := wb) (own := own) (As := As) (rest := st) (bytes := cc') (maxL := nL') (ret := ret') ⟨hx, hb, hml, hown, hts⟩ (hM h v h2 f1) ⟨⟨⟨rfl, rfl, hfr, hlc, wb_all hts Y.1, List.mem_cons_self⟩, hts _ Y.1, hts _ Y.2.1, Y.2.2.1, n_of Y.2.2.2, va_Nw.use rfl (hSt.2.2.2.2.2.1 _ L)⟩, ⟨hts _ wI, trivial⟩⟩ ⟨blind, fun U hU hW => ⟨rfl, St.moved hW hSt, by rw [hU]; exact hR⟩⟩ rfl hn' hl.1 hst (lv_room hcat) d ⟨by omega, by omega⟩
theorem s_invI (C : Cx G p R s m args meth c cc nL own h0 h') {y : MethodName} {cc' : ByteArray} {nL' : Nat}  {n fr lo index : Nat} (Y : Cy y cc' nL' none n) (L : Lm own index y) (hy1 : y.name = "<init>") (wI : Cond.instanceMethod y ∈ wb) {b : Nat} {As : List Value} {x : M ρ'} (hM : Con G rv' l y cc' nL' none fr lo (.ref b :: As) x) (hn' : As.length = n) {st0 : List Value} (hst : st0 = As.reverse ++ .ref b :: st) (hcat : (st.map fun v => v.category).sum ≤ 8) (hfr : fr + 1 ≤ R.frames) (hlc : 8 + (nL' + 11) + lo ≤ R.locals) (d : decode cc pc = .ok (.invokespecial index, 3)) {k : ρ' → M ρ} (kk : ∀ v, Sm G Q p l e R s m args below meth c nL h0 r h' (pc + 3) lv ((rv' v).toList ++ st) (k v)) : Sm G Q p l e R s m args below meth c nL h0 r h' pc lv st0 (bd x k) := fun h H locs ls hR hL hn0 hs0 hl hz => by
  obtain ⟨hx, hb, hml, hown, hts, hSt, hlo, hRc, hRs⟩ := C
  obtain ⟨v, h2, f1, f2⟩ := bd_inv hz
  obtain ⟨g1, g2⟩ := x.2 _ _ _ f1
  obtain ⟨g3, g4⟩ := (k v).2 _ _ _ f2
  refine w_call (mc := hn h2 - hn h) (ms := sl h2 - sl h) (a := (Value.ref b :: As).toArray) (rv' := rv') (r' := v) (h1 := h2) ?_ hL (fun H1 locs1 hR1 hL1 => W.cs (cells' := hn h2 - hn h0) (slots' := sl h2 - sl h0) (by omega) (by omega) (kk v h2 H1 locs1 ls hR1 hL1 (by omega) (by omega) hl f2))
  rcases L with L | ⟨host, L⟩
  · exact va_runI (Ts := wb) (own := own) (As := As) (rest := st) (bytes := cc') (maxL := nL')  ⟨hx, hb, hml, hown, hts⟩ (hM h v h2 f1) ⟨⟨rfl, rfl, hfr, hlc, wb_all hts Y.1, List.mem_cons_self, hts _ Y.1, hts _ Y.2.1, Y.2.2.1, n_of Y.2.2.2, hts _ L⟩, ⟨hy1, hts _ wI⟩⟩ ⟨blind, fun U hU hW => ⟨rfl, St.moved hW hSt, by rw [hU]; exact hR⟩⟩ rfl hn' hl.1 hst (lv_room hcat) d ⟨by omega, by omega⟩
  · exact va_runIN (Ts := wb) (own := own) (As := As) (rest := st) (bytes := cc') (maxL := nL')  ⟨hx, hb, hml, hown, hts⟩ (hM h v h2 f1) ⟨⟨⟨rfl, rfl, hfr, hlc, wb_all hts Y.1, List.mem_cons_self⟩, hts _ Y.1, hts _ Y.2.1, Y.2.2.1, n_of Y.2.2.2, va_Nw.use rfl (hSt.2.2.2.2.2.1 _ L)⟩, ⟨hy1, hts _ wI⟩⟩ ⟨blind, fun U hU hW => ⟨rfl, St.moved hW hSt, by rw [hU]; exact hR⟩⟩ rfl hn' hl.1 hst (lv_room hcat) d ⟨by omega, by omega⟩
theorem s_obj (C : Cx G p R s m args meth c cc nL own h0 h') {a index : Nat} (w1 : Cond.methodLink own index objectInit ∈ wb) (w2 : Cond.instanceMethod objectInit ∈ wb) (w3 : Cond.code objectInit ⟨#[0xb1]⟩ 1 none ∈ wb) (hfr : 1 ≤ R.frames) (hlc : (st.map fun v => v.category).sum + 12 ≤ R.locals) (d : decode cc pc = .ok (.invokespecial index, 3)) (k : Sm G Q p l e R s m args below meth c nL h0 r h' (pc + 3) lv st z) : Sm G Q p l e R s m args below meth c nL h0 r h' pc lv (.ref a :: st) z := fun h H locs ls hR hL hn0 hs0 hl hz => by
  obtain ⟨hx, hb, hml, hown, hts, hSt, hlo, hRc, hRs⟩ := C
  exact W.objInit hx hb hown (hts _ w1) (hts _ w2) (hts _ w3) rfl (by rw [hml]; exact hl.1) rfl d hfr (by show 2 * 0 + _ + 12 ≤ _; omega) (k h H locs ls hR hL hn0 hs0 hl hz)
end CL
