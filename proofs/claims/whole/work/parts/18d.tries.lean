section VXS
variable {p : Program} {l : Launch} {e : Env} {R : Room} {s : State} {m : MethodId} {args : Array Value} {below : List Frame} {meth : Method} {c : Code} {T : State} {H : Heap} {locs : List Loc} {cells slots : Nat}
abbrev vx_CSW (R : Room) (s : State) (args : Array Value) (own : String) (index : Nat) (y : MethodName) (bytes : ByteArray) (maxL : Nat) (ret : Option FieldType) (hh : List (Nat × Nat × Nat × Nat)) (ws : List Cond) (rm : Room) (mc ms n : Nat) : Prop :=
  (rm.cells = mc ∧ rm.slots = ms ∧ rm.frames + 1 ≤ R.frames ∧ 8 + (maxL + 11) + rm.locals ≤ R.locals ∧ (∀ w ∈ ws, ∀ (a' : Array Value) (U : State), s.WarmedH U.vm → w.before a' U = true) ∧ Cond.codeWith y bytes maxL ret hh ∈ ws) ∧
  (Cond.codeWith y bytes maxL ret hh).before args s = true ∧ (Cond.initialized y.cls).before args s = true ∧ (y.cls ≠ "java/lang/invoke/MethodHandle" ∧ y.cls ≠ "java/lang/invoke/VarHandle") ∧
  (∀ sig, parseMethodDescriptor y.desc = some sig → n = sig.parameters.length) ∧ (Cond.methodLink own index y).before args s = true ∧ (Cond.static y).before args s = true
theorem vx_callSW (X : Stand p l e R s m args below meth c T locs cells slots) (hexec : p.tables.exec = Jvm.exec) {own : String} {index : Nat} {y : MethodName} {bytes : ByteArray} {maxL : Nat} {ret : Option FieldType} {hh : List (Nat × Nat × Nat × Nat)}
    (hown : s.vm.findClass own = some m.cls) (hlink : (Cond.methodLink own index y).before args s = true) (hstat : (Cond.static y).before args s = true) (hinit : (Cond.initialized y.cls).before args s = true)
    (hcode : (Cond.codeWith y bytes maxL ret hh).before args s = true) (hy : y.cls ≠ "java/lang/invoke/MethodHandle" ∧ y.cls ≠ "java/lang/invoke/VarHandle")
    {W9 : Nat} {Pre : Pt → Array Value → Prop} {Post : Pt → Array Value → Option Value → Pt → Prop} (hK : Back l R p e below s args y 3 W9 Pre Post)
    {g : JFrame} (hg : g.method = m) (hsize : g.locals.size = c.maxLocals) {argsL rest : List Value} (hlen : ∀ sig, parseMethodDescriptor y.desc = some sig → argsL.length = sig.parameters.length)
    (hstack : g.stack = argsL.reverse ++ rest) (hW : 2 * g.monitorRoom + (rest.map fun v => v.category).sum ≤ W9) (hdg : decode c.code g.pc = .ok (.invokestatic index, 3))
    (hpre : ∀ vm₁, s.WarmedH vm₁ → Pre ⟨T.setVm vm₁, locs, cells, slots⟩ argsL.toArray) :
    ∃ (v : Option Value) (vm₁ : Vm) (B : Pt), s.WarmedH vm₁ ∧ Stand p l e R s m args below meth c B.U B.locs B.cells B.slots ∧ Post ⟨T.setVm vm₁, locs, cells, slots⟩ argsL.toArray v B ∧
      ∀ target, Steps p.tables e below (B.U.setTop { g with pc := g.pc + 3, stack := v.toList ++ rest }) target → Steps p.tables e below (T.setTop g) target := by
  obtain ⟨mk, methM, cM, hnamed, hmethM, -, -, -, -, -, -, hsigM⟩ := Cond.codeWith_spec hcode
  have hstatic : methM.isStatic = true := Cond.static_spec hnamed hmethM hstat
  obtain ⟨kP, hkP, -⟩ := className_of_methodNamed hnamed
  have hinitP : kP.init = .initialized := Cond.initialized_spec (findClass_of_methodNamed hnamed) hkP hinit
  obtain ⟨vm₁, X₁, hstep₁⟩ := X.invokestatic hexec hown hlink hnamed hmethM hstatic hkP hinitP hy (g := g) hg (argsL := argsL) (rest := rest) (hlen _ hsigM) hstack hdg
  obtain ⟨v, B, X', hpost, hsteps⟩ := hK m meth c ⟨T.setVm vm₁, locs, cells, slots⟩ { g with stack := rest } (.invokestatic index) mk argsL.toArray X₁ hg hsize hdg hW (X₁.named hnamed) (hpre vm₁ X₁.warmed)
  exact ⟨v, vm₁, B, X₁.warmed, X', hpost, fun target h => hstep₁ _ fun acts => by rw [doInvoke_state]; exact hsteps.trans h⟩
theorem vx_runSW {y : MethodName} {bytes cc : ByteArray} {maxL nL mc ms n index : Nat} {ret : Option FieldType} {hh : List (Nat × Nat × Nat × Nat)} {ws : List Cond} {rm : Room} {Pc : Array Value → State → Prop} {Qc : Array Value → State → Outcome → State → Prop} {free : Addr → Prop} {Ts : List Cond} {own : String} {As rest : List Value} {g : JFrame}
    (S : CallFix p m c cc nL s args Ts own) (hM : Met l y ws rm Pc Qc mc ms free) (cw : vx_CSW R s args own index y bytes maxL ret hh ws rm mc ms n) (hp : PreS s H Pc As)
    (hg : g.method = m) (hn : As.length = n) (hsize : g.locals.size = nL) (hstack : g.stack = As.reverse ++ rest) (hW : 2 * g.monitorRoom + (rest.map fun v => v.category).sum ≤ 8) (hdg : decode cc g.pc = .ok (.invokestatic index, 3)) (hf : cells + mc ≤ R.cells ∧ slots + ms ≤ R.slots) :
    va_Run p l e R s m args below meth c H locs cells slots mc ms g rest (Qc As.toArray) (free) := by
  obtain ⟨⟨hrc, hrs, hfr, hlo, hws, hcw⟩, hcode, hini, hy, hlen, hl, hstt⟩ := cw
  have hK : Back l R p e below s args y 3 8 (PreOf R mc ms Pc) (PostOf Qc mc ms free) := va_backW (hh := hh) (bytes := bytes) (maxL := maxL) (ret := ret) hM hp.1 hrc hrs hfr hlo hws hcw (fun a' U hW => word_at hW (Or.inl (by first | rfl | simp [Cond.onTables, Cond.keeps, Cond.steady])) hini)
  obtain ⟨hx, hb, hml, ho, -⟩ := S
  intro T hT X
  obtain ⟨v, vm₁, ⟨U', l2, c2, s2⟩, hW₁, X', ⟨g', mk, t, L, e1, e2, hq, h1, hL, h2, h3⟩, st⟩ := vx_callSW X hx (hh := hh) (bytes := bytes) (maxL := maxL) (ret := ret) ho hl hstt hini hcode hy hK hg (hsize.trans hml.symm) (argsL := As) (rest := rest) (fun sig h => hn.trans (hlen sig h)) hstack hW (by rw [hb]; exact hdg)
    (fun vm₁ hW₁ => ⟨hf.1, hf.2, hp.2 (T.setVm vm₁) hT hW₁⟩)
  dsimp only [Pt.U, Pt.locs, Pt.cells, Pt.slots] at X' e1 e2 h1 h2 h3 st
  subst h1; subst h2; subst h3
  exact ⟨v, (T.setVm vm₁).calling g' mk As.toArray, t, U', L, hT, X', hL, e1, e2, hq, st⟩
end VXS
/-- an exception of class E, thrown at pc, is caught at hp -/
def Ctc (own : String) (s : State) (args : Array Value) (c : Code) (pc : Nat) (E : String) (hp : Nat) : Prop := ∃ (pre : List ExceptionTableEntry) (x : ExceptionTableEntry) (suf : List ExceptionTableEntry) (name : String), c.exceptionTable.toList = pre ++ x :: suf ∧ (∀ z ∈ pre, covers z pc = false ∨ (z.catchType ≠ 0 ∧ ∃ nm : String, (Cond.classLink own z.catchType nm).before args s = true ∧ va_Nc E nm s)) ∧ covers x pc = true ∧ x.catchType ≠ 0 ∧ (Cond.classLink own x.catchType name).before args s = true ∧ (Cond.castable E name).before args s = true ∧ x.handlerPc = hp
def ConH {ρ : Type} (G : Gx) (rv : ρ → Option Value) (l : Launch) (y : MethodName) (cc : ByteArray) (nL : Nat) (ret : Option FieldType) (hh : List (Nat × Nat × Nat × Nat)) (fr lo : Nat) (av : List Value) (x : M ρ) : Prop :=
  ∀ (h : Hp) (r : ρ) (h' : Hp), x.1 h = some (r, h') → Met l y (.codeWith y cc nL ret hh :: wb) { frames := fr, cells := hn h' - hn h, slots := sl h' - sl h, locals := lo } (PcX G av h) (Fi G rv r h') (hn h' - hn h) (sl h' - sl h) (bs G)
def CyH (y : MethodName) (cc : ByteArray) (nL : Nat) (ret : Option FieldType) (hh : List (Nat × Nat × Nat × Nat)) (n : Nat) : Prop :=
  Cond.codeWith y cc nL ret hh ∈ wb ∧ Cond.initialized y.cls ∈ wb ∧ (y.cls ≠ "java/lang/invoke/MethodHandle" ∧ y.cls ≠ "java/lang/invoke/VarHandle") ∧ (parseMethodDescriptor y.desc).map (fun d => d.parameters.length) = some n
section TC
variable {ρ ρ' : Type} {G : Gx} {Q : State → Prop} {p : Program} {l : Launch} {e : Env} {R : Room} {s : State} {m : MethodId} {args : Array Value} {below : List Frame} {meth : Method} {c : Code} {cc : ByteArray} {nL : Nat} {own : String} {h0 : Hp} {r : ρ} {h' : Hp} {pc : Nat} {lv lv' : List (Nat × Value)} {st : List Value} {rv : ρ → Option Value} {rv' : ρ' → Option Value}
theorem ctc0 (C : Cx G p R s m args meth c cc nL own h0 h') {tb : List ExceptionTableEntry} (X : CxT G l s c h0 tb) {x : ExceptionTableEntry} {suf : List ExceptionTableEntry} (ht : tb = x :: suf) {k hp : Nat} (hx : covers x pc = true) (h9 : x.catchType ≠ 0) (w1 : Cond.classLink own x.catchType (exc k) ∈ wb) (w2 : Cond.castable (exc k) (exc k) ∈ otl) (hp9 : x.handlerPc = hp) : Ctc own s args c pc (exc k) hp :=
  ⟨[], x, suf, exc k, by rw [X.2.2.2, ht]; rfl, fun z hz => (by cases hz), hx, h9, C.2.2.2.2.1 _ w1, va_Nw.use rfl (X.2.1.2.2.2.1 _ w2), hp9⟩
theorem ctc1 (C : Cx G p R s m args meth c cc nL own h0 h') {tb : List ExceptionTableEntry} (X : CxT G l s c h0 tb) {z0 x : ExceptionTableEntry} {suf : List ExceptionTableEntry} (ht : tb = z0 :: x :: suf) {k j0 hp : Nat} (hk : k < 4) (hj : j0 < 4) (hkj : k ≠ j0) (hz : z0.catchType ≠ 0) (v0 : Cond.classLink own z0.catchType (exc j0) ∈ wb) (hx : covers x pc = true) (h9 : x.catchType ≠ 0) (w1 : Cond.classLink own x.catchType (exc k) ∈ wb) (w2 : Cond.castable (exc k) (exc k) ∈ otl) (hp9 : x.handlerPc = hp) : Ctc own s args c pc (exc k) hp :=
  ⟨[z0], x, suf, exc k, by rw [X.2.2.2, ht]; rfl, fun z hz' => (by rw [List.mem_singleton.mp hz']; exact Or.inr ⟨hz, exc j0, C.2.2.2.2.1 _ v0, X.2.1.2.2.2.2 k j0 hk hj hkj⟩), hx, h9, C.2.2.2.2.1 _ w1, va_Nw.use rfl (X.2.1.2.2.2.1 _ w2), hp9⟩
theorem ctc2 (C : Cx G p R s m args meth c cc nL own h0 h') {tb : List ExceptionTableEntry} (X : CxT G l s c h0 tb) {z0 z1 x : ExceptionTableEntry} {suf : List ExceptionTableEntry} (ht : tb = z0 :: z1 :: x :: suf) {k j0 j1 hp : Nat} (hk : k < 4) (hj : j0 < 4) (hkj : k ≠ j0) (hz : z0.catchType ≠ 0) (v0 : Cond.classLink own z0.catchType (exc j0) ∈ wb) (hj1 : j1 < 4) (hkj1 : k ≠ j1) (hz1 : z1.catchType ≠ 0) (v1 : Cond.classLink own z1.catchType (exc j1) ∈ wb) (hx : covers x pc = true) (h9 : x.catchType ≠ 0) (w1 : Cond.classLink own x.catchType (exc k) ∈ wb) (w2 : Cond.castable (exc k) (exc k) ∈ otl) (hp9 : x.handlerPc = hp) : Ctc own s args c pc (exc k) hp := by
  refine ⟨[z0, z1], x, suf, exc k, by rw [X.2.2.2, ht]; rfl, fun z hz' => ?_, hx, h9, C.2.2.2.2.1 _ w1, va_Nw.use rfl (X.2.1.2.2.2.1 _ w2), hp9⟩
  rcases List.mem_cons.mp hz' with q | q
  · rw [q]; exact Or.inr ⟨hz, exc j0, C.2.2.2.2.1 _ v0, X.2.1.2.2.2.2 k j0 hk hj hkj⟩
  · rw [List.mem_singleton.mp q]; exact Or.inr ⟨hz1, exc j1, C.2.2.2.2.1 _ v1, X.2.1.2.2.2.2 k j1 hk hj1 hkj1⟩
theorem s_invVT (C : Cx G p R s m args meth c cc nL own h0 h') {tb : List ExceptionTableEntry} (X : CxT G l s c h0 tb) {ci : Nat} {Cn : String} {T : u_T} {N : Nat} {ty : Nat → FieldType} (K : Ci ci Cn T N ty) {y : MethodName} {cc' : ByteArray} {nL' : Nat} {ret' : Option FieldType} {n fr lo index : Nat} (Y : Cy y cc' nL' ret' n) (L : Cond.methodLink own index y ∈ wb) (hcls : y.cls = Cn) (wI : Cond.instanceMethod y ∈ wb) (wS : Cond.selects y.cls y y ∈ wb) {b : Nat} {As : List Value} {x : M (Nat ⊕ ρ')} (hM : ConT G rv' l y cc' nL' ret' fr lo (.ref b :: As) x) (hn' : As.length = n) {st0 : List Value} (hst : st0 = As.reverse ++ .ref b :: st) (hcat : (st.map fun v => v.category).sum ≤ 8) (hfr : fr + 1 ≤ R.frames) (hlc : 8 + (nL' + 11) + lo ≤ R.locals) (d : decode cc pc = .ok (.invokevirtual index, 3)) {hd : Nat → M ρ} {k : ρ' → M ρ}
    (kx : ∀ j q, (∃ hp, Ctc own s args c pc (exc j) hp ∧ Sm G Q p l e R s m args below meth c nL h0 r h' hp lv [.ref q] (hd j)) ∨ hd j = fl) (kk : ∀ v, Sm G Q p l e R s m args below meth c nL h0 r h' (pc + 3) lv ((rv' v).toList ++ st) (k v)) : Sm G Q p l e R s m args below meth c nL h0 r h' pc lv st0 (bd (ck ci b) (fun _ => bd x (fun q => cs q hd k))) := fun h H locs ls hR hL hn0 hs0 hl hz => by
  have hown0 := C.2.2.2.1
  obtain ⟨hx, hb, hml, hown, hts, hSt, hlo, hRc, hRs⟩ := C
  obtain ⟨k1, k2, k3, k4, k5, k6, k7⟩ := K
  obtain ⟨u, h1, e1, e2⟩ := bd_inv hz
  obtain ⟨e3, e4⟩ := rd_inv e1
  rw [e4] at e2
  split at e3
  · rename_i hc
    obtain ⟨-, cell, q1, q2, q3, -⟩ := hR.2.2.2.1 b ci hc k1
    have hKn := hSt.1.1 ci _ k2
    obtain ⟨w, h2, f1, f2⟩ := bd_inv e2
    obtain ⟨g1, g2⟩ := x.2 _ _ _ f1
    obtain ⟨g3, g4⟩ := (cs w hd k).2 _ _ _ f2
    have hr := vx_runV (meth := meth) (C := y.cls) (Ts := wb) (own := own) (As := As) (rest := st) (bytes := cc') (maxL := nL') (ret := ret') (index := index) (H := H) (locs := locs) (e := e) (below := below) (g := F0 m pc ls st0) (cells := hn h - hn h0) (slots := sl h - sl h0) ⟨hx, hb, hml, hown, hts⟩ (hM h w h2 f1) ⟨⟨rfl, rfl, hfr, hlc, wb_all hts Y.1, List.mem_cons_self, hts _ Y.1, hts _ Y.2.1, Y.2.2.1, n_of Y.2.2.2, hts _ L⟩, hts _ wI, hts _ wS⟩ ⟨blindX, ⟨cell, q1, by rw [q3]; rfl, by rw [q2]; rw [hcls]; exact hKn.2.1⟩, fun U hU hW => ⟨rfl, St.moved hW hSt, SX.moved hW X.2.1, by rw [hU]; exact hR⟩⟩ rfl hn' hl.1 hst (lv_room hcat) d ⟨by omega, by omega⟩
    intro TT hT XX
    rcases hr TT hT XX with ⟨v, st₀, t, T', LL, e0, X', hLL, a1, a2, hq, sg⟩ | ⟨qx, st₀, t, T', LL, E, ce, e0, X', hLL, a1, a2, hq, hce, hcv, hcl, sg⟩
    · cases w with
      | inl j => exact absurd hq id
      | inr rr =>
        obtain ⟨hv, hRz⟩ := hq
        cases hv
        have hw : W p l e R s m args below meth c T'.heap (locs ++ LL) (hn h - hn h0 + (hn h2 - hn h)) (sl h - sl h0 + (sl h2 - sl h)) Q (F0 m (pc + 3) ls ((rv' rr).toList ++ st)) := W.cs (cells' := hn h2 - hn h0) (slots' := sl h2 - sl h0) (by omega) (by omega) (kk rr h2 T'.heap (locs ++ LL) ls (by rw [a1]; exact hRz) (fun q hq => by
          rcases List.mem_append.mp hq with h | h
          · exact hL q h
          · exact hLL q h) (by omega) (by omega) hl f2)
        obtain ⟨t2, b1, b2⟩ := hw T' rfl X'
        exact ⟨t2, sg t2 b1, b2⟩
    · cases w with
      | inr rr => exact absurd hq id
      | inl j =>
        obtain ⟨hE, hRz⟩ := hq
        subst hE
        rcases kx j qx with ⟨hp, ⟨pre, xx, suf, name, c1, c2, c3, c4, c5, c6, c7⟩, ksm⟩ | kf
        · have hw : W p l e R s m args below meth c T'.heap (locs ++ LL) (hn h - hn h0 + (hn h2 - hn h)) (sl h - sl h0 + (sl h2 - sl h)) Q (F0 m xx.handlerPc ls [.ref qx]) := by
            rw [c7]
            exact W.cs (cells' := hn h2 - hn h0) (slots' := sl h2 - sl h0) (by omega) (by omega) (ksm h2 T'.heap (locs ++ LL) ls (by rw [a1]; exact hRz) (fun q hq => by
              rcases List.mem_append.mp hq with h | h
              · exact hL q h
              · exact hLL q h) (by omega) (by omega) hl f2)
          obtain ⟨t2, b1, b2⟩ := kx_catch (rest := st) hown0 pre xx suf c1 c2 c3 c4 c5 c6 (by rw [a1]; exact hce) hcv hcl hw T' rfl X'
          exact ⟨t2, sg.trans b1, b2⟩
        · have f2 : (hd j).1 h2 = some (r, h') := f2
          rw [kf] at f2
          cases f2
  · cases e3
theorem con_ofH {y : MethodName} {ret : Option FieldType} {hh : List (Nat × Nat × Nat × Nat)} {fr lo : Nat} {av : List Value} {x : M ρ} (hl0 : l.stackTraces = false) (hy : plainName y.cls = true) (hln : (lg_sl av).length ≤ nL) (hlv : lv_args 0 av = lv)
    (body : ∀ (p : Program) (e : Env) (R : Room) (s : State) (m : MethodId) (args : Array Value) (below : List Frame) (meth : Method) (c : Code) (h0 : Hp) (r : ρ) (h' : Hp), Cx G p R s m args meth c cc nL y.cls h0 h' → R.frames = fr → R.locals = lo → meth.sig.returnType = ret → meth.name = y.name → CxT G l s c h0 (tableOf hh) → Sm G (QM G rv below args s h0 r h') p l e R s m args below meth c nL h0 r h' 0 lv [] x) : ConH G rv l y cc nL ret hh fr lo av x := by
  intro h r h' hz
  refine MetFree.of_bodyS (code := cc) (maxLocals := nL) (ret := ret) hy ?_ ?_
  · intro args s m hq hn
    obtain ⟨m9, meth, c, hn9, h1, h2, h3, h4, -, h5, h6, -⟩ := Cond.codeWith_spec (atoms_spec (ws := .codeWith y cc nL ret hh :: wb) hq _ List.mem_cons_self)
    cases hn.symm.trans hn9
    exact ⟨meth, c, h1, h2, h3, h4, h5, h6⟩
  · intro p e s m args below meth c s₁ B hml hv _
    obtain ⟨rfl, hSt, hSX, hR⟩ := hv
    have hh0 : s₁.heap = s.heap := by rw [B.state]; rfl
    have hts := atoms_spec (ws := .codeWith y cc nL ret hh :: wb) B.pre
    have hown : s.vm.findClass y.cls = some m.cls := findClass_of_methodNamed B.named
    have htb := vx_table (x := y) B (hts _ List.mem_cons_self)
    have hl := lv_entry av (n := nL) hln
    rw [hlv] at hl
    have C : Cx G p (headSpec (.codeWith y cc nL ret hh :: wb) { frames := fr, cells := hn h' - hn h, slots := sl h' - sl h, locals := lo }).room s m av.toArray meth c cc nL y.cls h h' := ⟨B.exec, B.bytes, hml, hown, fun w hw => hts w (List.mem_cons_of_mem _ hw), hSt, B.notSynchronized, Nat.le_refl _, Nat.le_refl _⟩
    have hw : W p l e (headSpec (.codeWith y cc nL ret hh :: wb) { frames := fr, cells := hn h' - hn h, slots := sl h' - sl h, locals := lo }).room s m av.toArray below meth c s.heap [] 0 0 (QM G rv below av.toArray s h r h') (entryFrame m av.toArray nL) := by
      rw [lg_entry_eq]
      refine W.cs (cells' := hn h - hn h) (slots' := sl h - sl h) (Nat.sub_self _).symm (Nat.sub_self _).symm ?_
      exact body p e _ s m av.toArray below meth c h r h' C rfl rfl B.returns (name_of_methodNamed B.named B.method).1 ⟨hR, hSX, hl0, htb⟩ h s.heap [] _ hR (fun q hq => by cases hq) (Nat.le_refl _) (Nat.le_refl _) hl hz
    obtain ⟨t, a1, o, b1, b2, b3⟩ := hw s₁ hh0 (Stand.of_body B)
    exact ⟨t, o, a1, b1, b2, b3⟩
theorem wbH_all (hts : ∀ w ∈ wb, w.before args s = true) {w0 : Cond} (hc : w0 ∈ wb) : ∀ w ∈ (w0 :: wb), ∀ (a' : Array Value) (U : State), s.WarmedH U.vm → w.before a' U = true := by
  intro w hw a' U hW
  have hw : w ∈ wb := by
    rcases List.mem_cons.mp hw with q | q
    · rw [q]; exact hc
    · exact q
  exact word_at hW (wb_good hw) (hts w hw)
theorem s_invSH (C : Cx G p R s m args meth c cc nL own h0 h') (X : SX G s) {y : MethodName} {cc' : ByteArray} {nL' : Nat} {ret' : Option FieldType} {hh : List (Nat × Nat × Nat × Nat)} {n fr lo index : Nat} (Y : CyH y cc' nL' ret' hh n) (L : Cond.methodLink own index y ∈ wb) (wI : Cond.static y ∈ wb) {As : List Value} {x : M Int32} (hM : ConH G rvI l y cc' nL' ret' hh fr lo As x) (hn' : As.length = n) {st0 : List Value} (hst : st0 = As.reverse ++ st) (hcat : (st.map fun v => v.category).sum ≤ 8) (hfr : fr + 1 ≤ R.frames) (hlc : 8 + (nL' + 11) + lo ≤ R.locals) (d : decode cc pc = .ok (.invokestatic index, 3)) {k : Int32 → M ρ} (kk : ∀ v, Sm G Q p l e R s m args below meth c nL h0 r h' (pc + 3) lv (.int v :: st) (k v)) : Sm G Q p l e R s m args below meth c nL h0 r h' pc lv st0 (bd x k) := fun h H locs ls hR hL hn0 hs0 hl hz => by
  obtain ⟨hx, hb, hml, hown, hts, hSt, hlo, hRc, hRs⟩ := C
  obtain ⟨v, h2, f1, f2⟩ := bd_inv hz
  obtain ⟨g1, g2⟩ := x.2 _ _ _ f1
  obtain ⟨g3, g4⟩ := (k v).2 _ _ _ f2
  refine w_call (mc := hn h2 - hn h) (ms := sl h2 - sl h) (a := As.toArray) (rv' := rvI) (r' := v) (h1 := h2) (st := st) ?_ hL (fun H1 locs1 hR1 hL1 => W.cs (cells' := hn h2 - hn h0) (slots' := sl h2 - sl h0) (by omega) (by omega) (kk v h2 H1 locs1 ls hR1 hL1 (by omega) (by omega) hl f2))
  exact vx_runSW (Ts := wb) (own := own) (As := As) (rest := st) (bytes := cc') (maxL := nL') (ret := ret') (hh := hh) ⟨hx, hb, hml, hown, hts⟩ (hM h v h2 f1) ⟨⟨rfl, rfl, hfr, hlc, wbH_all hts Y.1, List.mem_cons_self⟩, hts _ Y.1, hts _ Y.2.1, Y.2.2.1, n_of Y.2.2.2, hts _ L, hts _ wI⟩ ⟨blindX, fun U hU hW => ⟨rfl, St.moved hW hSt, SX.moved hW X, by rw [hU]; exact hR⟩⟩ rfl hn' hl.1 hst (lv_room hcat) d ⟨by omega, by omega⟩
end TC
