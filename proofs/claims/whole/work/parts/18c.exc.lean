/-- the exceptions that the class throws, by number -/
def exc (k : Nat) : String := (["java/lang/IllegalArgumentException", "java/lang/IllegalStateException", "java/lang/UnsupportedOperationException", "java/lang/IndexOutOfBoundsException"] : List String).getD k ""
abbrev excN : List String := ["java/lang/RuntimeException", "java/lang/Exception"]
def isOt (w : Cond) : Bool := match w with
  | .castable _ _ => true
  | .declares _ => true
  | _ => false
def otl : List Cond := lw_tbl.filter isOt
/-- the texts of the exceptions -/
def strL : List (Nat × String) := lw_tbl.filterMap (fun w => match w with
  | .stringRef o i t => if o = RX8 then some (i, t) else none
  | _ => none)
/-- what is known of the state where something is thrown or caught -/
def SX (G : Gx) (U : State) : Prop :=
  vx_Zq Bundle.tN "UNASSIGNED_STACK" Bundle.steD (bs G) U (gH G) ∧ vx_Zq Bundle.tN "SUPPRESSED_SENTINEL" Bundle.listD (bs G) U (gH G) ∧ (∀ q ∈ strL, ∃ sa, vk_R RX8 q.1 q.2 sa U) ∧ (∀ w ∈ otl, va_Nw w U) ∧ (∀ i j, i < 4 → j < 4 → i ≠ j → va_Nc (exc i) (exc j) U)
theorem SX.moved {G : Gx} {u U : State} (hW : u.WarmedH U.vm) (h : SX G u) : SX G U := by
  obtain ⟨h1, h2, h3, h4, h5⟩ := h
  refine ⟨vx_Zq.moved hW.alike h1, vx_Zq.moved hW.alike h2, fun q hq => ?_, fun w hw => ?_, fun i j hi hj hij => va_Nc.moved hW.alike (h5 i j hi hj hij)⟩
  · obtain ⟨sa, h⟩ := h3 q hq
    exact ⟨sa, vk_R.warm hW h⟩
  · have hn := h4 w hw
    have hi := (List.mem_filter.mp hw).2
    unfold isOt at hi
    split at hi
    · exact va_Nw.warmC hW hn
    · exact va_Nw.warmD hW hn
    · cases hi
/-- behind a throw: one cell more, of which nobody asks -/
def nX (h : Hp) : Hp := (hn h + 1, kd h, ln h, fd h, ar h, la h, ra h, sl h + 6)
def th {ρ : Type} (k : Nat) : M (Nat ⊕ ρ) := md (fun _ => true) (fun h => (.inl k, nX h)) (fun _ => ⟨Nat.le_succ _, Nat.le_add_right _ _⟩)
/-- by what came of a call: an exception, or an answer -/
def cs {α β : Type} (q : Nat ⊕ α) (f : Nat → M β) (g : α → M β) : M β := match q with
  | .inl k => f k
  | .inr v => g v
theorem Rz.nx {G : Gx} {h : Hp} {H H1 : Heap} (hR : Rz G h H) (z : H1.size = H.size + 1) (oq : ∀ q : Nat, q < H.size → H1[q]? = H[q]?) : Rz G (nX h) H1 := by
  obtain ⟨r1, r2, r3, r4, r5, r6, r7, r8, r9, r10⟩ := hR
  have cl : ∀ {a : Nat} {c : Cell}, H[a]? = some c → H1[a]? = some c := fun e => by rw [oq _ (Array.getElem?_eq_some_iff.mp e).1]; exact e
  refine ⟨by show hn h + 1 = _; rw [z, r1], by omega, fun q hq => by rw [oq q (by omega)]; exact r3 q hq, fun b ci hk hc => ?_, fun b hk => ⟨(r5 b hk).1, (r5 b hk).2.1, cl (r5 b hk).2.2⟩, fun b hk => ⟨(r6 b hk).1, cl (r6 b hk).2⟩, fun b hk => ⟨(r7 b hk).1, cl (r7 b hk).2⟩, fun b hk => ⟨(r8 b hk).1, (r8 b hk).2.1, cl (r8 b hk).2.2⟩, r9, r10⟩
  obtain ⟨g1, cell, g2, g3⟩ := r4 b ci hk hc
  exact ⟨g1, cell, cl g2, g3⟩
/-- the end of a method that may throw -/
def FiT {ρ : Type} (G : Gx) (rv : ρ → Option Value) (q : Nat ⊕ ρ) (h' : Hp) : Array Value → State → Outcome → State → Prop := fun _ _ o t => match q with
  | .inl _ => False
  | .inr r => o = .returned (rv r) ∧ Rz G h' t.heap
def XT {ρ : Type} (G : Gx) (q : Nat ⊕ ρ) (h' : Hp) : String → State → State → Prop := fun E _ t => match q with
  | .inl k => E = exc k ∧ Rz G h' t.heap
  | .inr _ => False
abbrev QT {ρ : Type} (G : Gx) (rv : ρ → Option Value) (below : List Frame) (args : Array Value) (s : State) (h0 : Hp) (q : Nat ⊕ ρ) (h' : Hp) : State → Prop := vx_MQ below (FiT G rv q h') (XT G q h') args s (hn h' - hn h0) (sl h' - sl h0) (bs G)
def PcX (G : Gx) (av : List Value) (h : Hp) : Array Value → State → Prop := va_Pc av (fun U => St G U ∧ SX G U ∧ Rz G h U.heap)
def ConT {ρ : Type} (G : Gx) (rv : ρ → Option Value) (l : Launch) (y : MethodName) (cc : ByteArray) (nL : Nat) (ret : Option FieldType) (fr lo : Nat) (av : List Value) (x : M (Nat ⊕ ρ)) : Prop :=
  ∀ (h : Hp) (q : Nat ⊕ ρ) (h' : Hp), x.1 h = some (q, h') → vx_Met l y (.code y cc nL ret :: wb) { frames := fr, cells := hn h' - hn h, slots := sl h' - sl h, locals := lo } (PcX G av h) (FiT G rv q h') (XT G q h') (hn h' - hn h) (sl h' - sl h) (bs G)
/-- more that holds in a body that throws or catches -/
def CxT (G : Gx) (l : Launch) (s : State) (c : Code) (h0 : Hp) (tb : List ExceptionTableEntry) : Prop := Rz G h0 s.heap ∧ SX G s ∧ l.stackTraces = false ∧ c.exceptionTable.toList = tb
section TX
variable {ρ ρ' : Type} {G : Gx} {Q : State → Prop} {p : Program} {l : Launch} {e : Env} {R : Room} {s : State} {m : MethodId} {args : Array Value} {below : List Frame} {meth : Method} {c : Code} {cc : ByteArray} {nL : Nat} {own : String} {h0 : Hp} {h' : Hp} {pc : Nat} {lv lv' : List (Nat × Value)} {st : List Value} {rv : ρ → Option Value}
theorem blindX {h : Hp} {av : List Value} : FrameBlind (PcX G av h) := fun a U g mk q => ⟨q.1, St.moved (u := U) (U := U.calling g mk a) (State.WarmedH.refl U) q.2.1, SX.moved (u := U) (U := U.calling g mk a) (State.WarmedH.refl U) q.2.2.1, q.2.2.2⟩
theorem con_ofT {y : MethodName} {ret : Option FieldType} {fr lo : Nat} {av : List Value} {x : M (Nat ⊕ ρ)} (hl0 : l.stackTraces = false) (hy : plainName y.cls = true) (hln : (lg_sl av).length ≤ nL) (hlv : lv_args 0 av = lv)
    (body : ∀ (p : Program) (e : Env) (R : Room) (s : State) (m : MethodId) (args : Array Value) (below : List Frame) (meth : Method) (c : Code) (h0 : Hp) (r : Nat ⊕ ρ) (h' : Hp), Cx G p R s m args meth c cc nL y.cls h0 h' → R.frames = fr → R.locals = lo → meth.sig.returnType = ret → meth.name = y.name → CxT G l s c h0 [] → Sm G (QT G rv below args s h0 r h') p l e R s m args below meth c nL h0 r h' 0 lv [] x) : ConT G rv l y cc nL ret fr lo av x := by
  intro h r h' hz
  refine vx_ofW (cc := cc) (maxL := nL) (ret := ret) hy rfl ?_
  intro p e s m args below meth c s₁ B hml htb hv
  obtain ⟨rfl, hSt, hSX, hR⟩ := hv
  have hts := atoms_spec (ws := .code y cc nL ret :: wb) B.pre
  have hown : s.vm.findClass y.cls = some m.cls := findClass_of_methodNamed B.named
  have hl := lv_entry av (n := nL) hln
  rw [hlv] at hl
  rw [lg_entry_eq]
  have ht0 : c.exceptionTable.toList = [] := List.eq_nil_iff_forall_not_mem.mpr (fun x hx => htb x hx)
  have C : Cx G p (headSpec (.code y cc nL ret :: wb) { frames := fr, cells := hn h' - hn h, slots := sl h' - sl h, locals := lo }).room s m av.toArray meth c cc nL y.cls h h' := ⟨B.exec, B.bytes, hml, hown, fun w hw => hts w (List.mem_cons_of_mem _ hw), hSt, B.notSynchronized, Nat.le_refl _, Nat.le_refl _⟩
  refine W.cs (cells' := hn h - hn h) (slots' := sl h - sl h) (Nat.sub_self _).symm (Nat.sub_self _).symm ?_
  exact body p e _ s m av.toArray below meth c h r h' C rfl rfl B.returns (name_of_methodNamed B.named B.method).1 ⟨hR, hSX, hl0, ht0⟩ h s.heap [] _ hR (fun q hq => by cases hq) (Nat.le_refl _) (Nat.le_refl _) hl hz
theorem t_iret {r : Nat ⊕ Int32} (C : Cx G p R s m args meth c cc nL own h0 h') (hr : meth.sig.returnType = some .int) {v : Int32} (d : decode cc pc = .ok (.ireturn, 1)) : Sm G (QT G rvI below args s h0 r h') p l e R s m args below meth c nL h0 r h' pc lv [.int v] (pu (.inr v)) := fun h H locs ls hR hL hn0 hs0 hl hz => by
  obtain ⟨hx, hb, hml, hown, hts, hSt, hlo, hRc, hRs⟩ := C
  cases hz
  exact vx_ret (W.iret hx hb hr (fun t ht hW => ⟨rfl, by rw [ht]; exact hR⟩) hL d)
theorem t_zret {r : Nat ⊕ Int32} (C : Cx G p R s m args meth c cc nL own h0 h') (hr : meth.sig.returnType = some .boolean) {v : Int32} (hb1 : v = 0 ∨ v = 1) (d : decode cc pc = .ok (.ireturn, 1)) : Sm G (QT G rvI below args s h0 r h') p l e R s m args below meth c nL h0 r h' pc lv [.int v] (pu (.inr v)) := fun h H locs ls hR hL hn0 hs0 hl hz => by
  obtain ⟨hx, hb, hml, hown, hts, hSt, hlo, hRc, hRs⟩ := C
  cases hz
  exact vx_ret (W.zret hx hb hr (by rcases hb1 with q | q <;> subst q <;> decide +kernel) (fun t ht hW => ⟨rfl, by rw [ht]; exact hR⟩) hL d)
theorem t_vret {r : Nat ⊕ Unit} (C : Cx G p R s m args meth c cc nL own h0 h') (hr : meth.sig.returnType = none) (d : decode cc pc = .ok (.return_, 1)) : Sm G (QT G rvU below args s h0 r h') p l e R s m args below meth c nL h0 r h' pc lv [] (pu (.inr ())) := fun h H locs ls hR hL hn0 hs0 hl hz => by
  obtain ⟨hx, hb, hml, hown, hts, hSt, hlo, hRc, hRs⟩ := C
  cases hz
  exact vx_ret (W.vret hx hb hr (fun t ht hW => ⟨rfl, by rw [ht]; exact hR⟩) hL d)
/-- throw new E("text") -/
theorem t_throw {r : Nat ⊕ ρ} (C : Cx G p R s m args meth c cc nL own h0 h') (X : CxT G l s c h0 []) (hown2 : own = RX8) {k ik is ic : Nat} {text : String} (w1 : Cond.classLink own ik (exc k) ∈ wb) (w2 : Cond.initialized (exc k) ∈ wb) (hfit : Bundle.fit (exc k) = true) (hstr : (is, text) ∈ strL) (hat : ∀ w ∈ vx_atS own ic (exc k) excN, w ∈ wb ∨ w ∈ otl)
    (d0 : decode cc pc = .ok (.new ik, 3)) (d3 : decode cc (pc + 3) = .ok (.dup, 1)) (d4 : decode cc (pc + 4) = .ok (.ldc is, 2)) (d6 : decode cc (pc + 6) = .ok (.invokespecial ic, 3)) (d9 : decode cc (pc + 9) = .ok (.athrow, 1)) (hfr : 5 < R.frames) (hlc : (st.map fun v => v.category).sum + 82 ≤ R.locals) :
    Sm G (QT G rv below args s h0 r h') p l e R s m args below meth c nL h0 r h' pc lv st (th k) := fun h H locs ls hR hL hn0 hs0 hl hz => by
  obtain ⟨hx, hb, hml, hown, hts, hSt, hlo, hRc, hRs⟩ := C
  obtain ⟨hR0, ⟨x1, x2, x3, x4, x5⟩, hl0, htb⟩ := X
  obtain ⟨-, e4⟩ := md_inv hz
  cases e4
  obtain ⟨sa, hsa⟩ := x3 _ hstr
  subst hown2
  have e1 : hn (nX h) = hn h + 1 := rfl
  have e2 : sl (nX h) = sl h + 6 := rfl
  rw [e1] at hRc
  rw [e2] at hRs
  have g0 := hR0.1
  have g1 := hR.1
  have hS : va_S (bs G) s.heap H locs := ⟨by omega, fun q hq hA => by
    have hq2 : q < (gH G).size := Nat.not_le.mp hA
    rw [hR.2.2.1 q hq2, hR0.2.2.1 q hq2], hL⟩
  have kp : ∀ a : Nat, a < (gH G).size → ¬ bs G a → s.heap[a]? = (gH G)[a]? := fun a ha _ => hR0.2.2.1 a ha
  have hot : ∀ w : Cond, w ∈ wb ∨ w ∈ otl → vx_ot w = true := by
    intro w hw
    unfold vx_ot
    rcases hw with hw | hw
    · rw [(List.mem_filter.mp hw).2]; simp
    · have hi := (List.mem_filter.mp hw).2
      unfold isOt at hi
      split at hi
      · simp [Cond.onTables]
      · simp [Cond.onTables]
      · cases hi
  refine vx_throwS (A := bs G) hx hb hl0 (names := excN) hown hfit (by decide +kernel) (hts _ w1) (hts _ w2) hsa (fun w hw => ?_) (fun w hw => ?_) (x1.kept kp) (x2.kept kp) hS (by rw [hml]; exact hl.1) d0 d3 d4 d6 d9 (fun x hx => by rw [htb] at hx; cases hx) hfr (by show _ + (13 * (2 + 1) + 43) ≤ _; omega) (by omega) (by omega) hlo (fun t hvm hsz hq => ⟨rfl, hR.nx hsz hq⟩) hL (by omega) (by omega)
  · rcases hat w hw with q | q
    · exact hts w q
    · have hi := (List.mem_filter.mp q).2
      unfold isOt at hi
      split at hi
      · exact va_Nw.use rfl (x4 _ q)
      · exact va_Nw.use rfl (x4 _ q)
      · cases hi
  · rcases List.mem_cons.mp hw with q | q
    · rw [q]; exact hot _ (Or.inl w1)
    · rcases List.mem_cons.mp q with q | q
      · rw [q]; exact hot _ (Or.inl w2)
      · exact hot _ (hat w q)
/-- the same, the text by a wide index -/
theorem t_throwW {r : Nat ⊕ ρ} (C : Cx G p R s m args meth c cc nL own h0 h') (X : CxT G l s c h0 []) (hown2 : own = RX8) {k ik is ic : Nat} {text : String} (w1 : Cond.classLink own ik (exc k) ∈ wb) (w2 : Cond.initialized (exc k) ∈ wb) (hfit : Bundle.fit (exc k) = true) (hstr : (is, text) ∈ strL) (hat : ∀ w ∈ vx_atS own ic (exc k) excN, w ∈ wb ∨ w ∈ otl)
    (d0 : decode cc pc = .ok (.new ik, 3)) (d3 : decode cc (pc + 3) = .ok (.dup, 1)) (d4 : decode cc (pc + 4) = .ok (.ldc_w is, 3)) (d6 : decode cc (pc + 7) = .ok (.invokespecial ic, 3)) (d9 : decode cc (pc + 10) = .ok (.athrow, 1)) (hfr : 5 < R.frames) (hlc : (st.map fun v => v.category).sum + 82 ≤ R.locals) :
    Sm G (QT G rv below args s h0 r h') p l e R s m args below meth c nL h0 r h' pc lv st (th k) := fun h H locs ls hR hL hn0 hs0 hl hz => by
  obtain ⟨hx, hb, hml, hown, hts, hSt, hlo, hRc, hRs⟩ := C
  obtain ⟨hR0, ⟨x1, x2, x3, x4, x5⟩, hl0, htb⟩ := X
  obtain ⟨-, e4⟩ := md_inv hz
  cases e4
  obtain ⟨sa, hsa⟩ := x3 _ hstr
  subst hown2
  have e1 : hn (nX h) = hn h + 1 := rfl
  have e2 : sl (nX h) = sl h + 6 := rfl
  rw [e1] at hRc
  rw [e2] at hRs
  have g0 := hR0.1
  have g1 := hR.1
  have hS : va_S (bs G) s.heap H locs := ⟨by omega, fun q hq hA => by
    have hq2 : q < (gH G).size := Nat.not_le.mp hA
    rw [hR.2.2.1 q hq2, hR0.2.2.1 q hq2], hL⟩
  have kp : ∀ a : Nat, a < (gH G).size → ¬ bs G a → s.heap[a]? = (gH G)[a]? := fun a ha _ => hR0.2.2.1 a ha
  have hot : ∀ w : Cond, w ∈ wb ∨ w ∈ otl → vx_ot w = true := by
    intro w hw
    unfold vx_ot
    rcases hw with hw | hw
    · rw [(List.mem_filter.mp hw).2]; simp
    · have hi := (List.mem_filter.mp hw).2
      unfold isOt at hi
      split at hi
      · simp [Cond.onTables]
      · simp [Cond.onTables]
      · cases hi
  refine vx_throwSW (A := bs G) hx hb hl0 (names := excN) hown hfit (by decide +kernel) (hts _ w1) (hts _ w2) hsa (fun w hw => ?_) (fun w hw => ?_) (x1.kept kp) (x2.kept kp) hS (by rw [hml]; exact hl.1) d0 d3 d4 d6 d9 (fun x hx => by rw [htb] at hx; cases hx) hfr (by show _ + (13 * (2 + 1) + 43) ≤ _; omega) (by omega) (by omega) hlo (fun t hvm hsz hq => ⟨rfl, hR.nx hsz hq⟩) hL (by omega) (by omega)
  · rcases hat w hw with q | q
    · exact hts w q
    · have hi := (List.mem_filter.mp q).2
      unfold isOt at hi
      split at hi
      · exact va_Nw.use rfl (x4 _ q)
      · exact va_Nw.use rfl (x4 _ q)
      · cases hi
  · rcases List.mem_cons.mp hw with q | q
    · rw [q]; exact hot _ (Or.inl w1)
    · rcases List.mem_cons.mp q with q | q
      · rw [q]; exact hot _ (Or.inl w2)
      · exact hot _ (hat w q)
end TX
