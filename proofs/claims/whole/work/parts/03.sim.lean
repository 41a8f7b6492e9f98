/-! the tables' words that last -/
def wb : List Cond := lw_tbl.filter goodWord
def isNest (w : Cond) : Bool := match w with
  | .fieldLinkNest _ _ _ _ _ _ => true
  | .methodLinkNest _ _ _ _ => true
  | _ => false
def nwl : List Cond := lw_tbl.filter isNest
/-- what a run takes along: the classes' numbers, the rows' classes, the heap at the start, the address of the empty row and of the sum's table -/
abbrev Gx : Type := va_G × (ClassId × ClassId × ClassId × ClassId) × Heap × Nat × Nat × Nat
def gD (G : Gx) : va_G := G.1
def gB (G : Gx) : ClassId := G.2.1.1
def gN (G : Gx) : ClassId := G.2.1.2.1
def gL (G : Gx) : ClassId := G.2.1.2.2.1
def gO (G : Gx) : ClassId := G.2.1.2.2.2
def gH (G : Gx) : Heap := G.2.2.1
def gE (G : Gx) : Nat := G.2.2.2.1
def gS (G : Gx) : Nat := G.2.2.2.2.1
/-- the class object of the rows of objects -/
def gM (G : Gx) : Nat := G.2.2.2.2.2
abbrev gT (G : Gx) : List (ClassId × FieldType) := [(gB G, .byte), (gN G, .int), (gL G, .long), (gO G, .object "java/lang/Object")]
def bs (G : Gx) : Nat → Prop := fun q => (gH G).size ≤ q
def nF (ci : Nat) : Nat := ([4, 4, 3, 2, 2, 2, 7, 4, 10, 7, 5, 11, 54] : List Nat).getD ci 0
def fv (h : Hp) (ci a : Nat) : Nat → Value := fun k => fd h (100 * ci + k) a
/-- rows of bytes hold bytes; rows of references hold arrivals, files, directory rows -/
def okB (h : Hp) (a : Nat) : Prop := ∀ j : Nat, fits .byte (.int (ar h a j)) = true
def okK (k : Nat) : Prop := k = 4 ∨ k = 8 ∨ k = 11
def okE (h : Hp) (a : Nat) : Prop := ∀ j y : Nat, ra h a j = some y → okK (kd h y)
/-- the machine's heap H holds what h says -/
def Rz (G : Gx) (h : Hp) (H : Heap) : Prop :=
  hn h = H.size ∧ (gH G).size ≤ H.size ∧ (∀ q : Nat, q < (gH G).size → H[q]? = (gH G)[q]?) ∧
  (∀ a ci : Nat, kd h a = ci + 1 → ci < 13 → bs G a ∧ t_OB a ((gD G).1 ci) (nF ci) ((gD G).2 ci) H (fv h ci a)) ∧
  (∀ a : Nat, kd h a = 21 → bs G a ∧ okB h a ∧ H[a]? = some (vp_cell (gB G) (ln h a, .inl (ar h a)))) ∧
  (∀ a : Nat, kd h a = 22 → bs G a ∧ H[a]? = some (vp_cell (gN G) (ln h a, .inl (ar h a)))) ∧
  (∀ a : Nat, kd h a = 23 → bs G a ∧ H[a]? = some (vp_cell (gL G) (ln h a, .inr (.inl (la h a))))) ∧
  (∀ a : Nat, kd h a = 24 → bs G a ∧ okE h a ∧ H[a]? = some (vp_cell (gO G) (ln h a, .inr (.inr (.inr (.inr (ra h a))))))) ∧
  (∀ a : Nat, kd h a = 25 → a = gE G) ∧ fd h 99 0 = .ref (gE G)
/-- what is known of the state: classes, statics, nest mates -/
def St (G : Gx) (U : State) : Prop :=
  va_K (gD G) vwCl (gT G) U ∧
  va_Z RX8 "SUM_STEPS" "[I" (.ref (gS G)) (bs G) U (gH G) ∧ va_T .int (gS G) 16 (fun j => .int (sumT j)) (bs G) U (gH G) ∧
  va_Z RJx4a65c "DEFAULTCAPACITY_EMPTY_ELEMENTDATA" "[Ljava/lang/Object;" (.ref (gE G)) (bs G) U (gH G) ∧ va_T (.object "java/lang/Object") (gE G) 0 (fun _ => .null) (bs G) U (gH G) ∧
  (∀ w ∈ nwl, va_Nw w U) ∧ va_AO "java/lang/Object" U ∧ (∀ ci : Nat, okK (ci + 1) → ∀ comp : ClassId, U.vm.findClass "java/lang/Object" = some comp → U.vm.assignable ((gD G).1 ci) comp = true) ∧ va_Mi "[Ljava/lang/Object;" (gM G) U ∧ va_Dc U
theorem St.moved {G : Gx} {u U : State} (hW : u.WarmedH U.vm) (h : St G u) : St G U := by
  obtain ⟨h1, h2, h3, h4, h5, h6, h7, h8, h9, h10⟩ := h
  refine ⟨va_K.moved hW.alike h1, va_Z.moved hW.alike h2, va_T.moved hW.alike h3, va_Z.moved hW.alike h4, va_T.moved hW.alike h5, fun w hw => ?_, va_AO.moved hW.alike h7, fun ci hk comp hf => by rw [hW.alike.assignable]; exact h8 ci hk comp (by rw [← hW.alike.findClass]; exact hf), va_Mi.moved hW.alike h9, va_Dc.moved hW.alike h10⟩
  have hn := h6 w hw
  have hi := (List.mem_filter.mp hw).2
  unfold isNest at hi
  split at hi
  · exact va_Nw.warmF hW hn
  · exact va_Nw.warmM hW hn
  · cases hi
theorem Rz.wr {G : Gx} {h h1 : Hp} {H H1 : Heap} {a : Nat} (hR : Rz G h H) (ha : bs G a) (z : H1.size = H.size) (oq : ∀ q : Nat, q ≠ a → H1[q]? = H[q]?) (en : hn h1 = hn h) (ek : kd h1 = kd h) (e9 : fd h1 99 0 = fd h 99 0)
    (eo : ∀ ci b : Nat, b ≠ a → ∀ k, k < nF ci → fv h1 ci b k = fv h ci b k) (er : ∀ b : Nat, b ≠ a → ln h1 b = ln h b ∧ ar h1 b = ar h b ∧ la h1 b = la h b ∧ ra h1 b = ra h b)
    (ho : ∀ ci : Nat, kd h a = ci + 1 → ci < 13 → t_OB a ((gD G).1 ci) (nF ci) ((gD G).2 ci) H1 (fv h1 ci a))
    (h21 : kd h a = 21 → okB h1 a ∧ H1[a]? = some (vp_cell (gB G) (ln h1 a, .inl (ar h1 a)))) (h22 : kd h a = 22 → H1[a]? = some (vp_cell (gN G) (ln h1 a, .inl (ar h1 a))))
    (h23 : kd h a = 23 → H1[a]? = some (vp_cell (gL G) (ln h1 a, .inr (.inl (la h1 a))))) (h24 : kd h a = 24 → okE h1 a ∧ H1[a]? = some (vp_cell (gO G) (ln h1 a, .inr (.inr (.inr (.inr (ra h1 a))))))) : Rz G h1 H1 := by
  obtain ⟨r1, r2, r3, r4, r5, r6, r7, r8, r9, r10⟩ := hR
  have hb : (gH G).size ≤ a := ha
  refine ⟨by rw [en, z]; exact r1, by rw [z]; exact r2, fun q hq => ?_, fun b ci hk hc => ?_, fun b hk => ?_, fun b hk => ?_, fun b hk => ?_, fun b hk => ?_, fun b hk => ?_, by rw [e9]; exact r10⟩
  · rw [oq q (by omega)]; exact r3 q hq
  · rw [ek] at hk
    by_cases hba : b = a
    · subst hba; exact ⟨ha, ho ci hk hc⟩
    · exact ⟨(r4 b ci hk hc).1, ((r4 b ci hk hc).2.kept (oq b hba)).to (fun k hk => (eo ci b hba k hk).symm)⟩
  · rw [ek] at hk
    by_cases hba : b = a
    · subst hba; exact ⟨ha, h21 hk⟩
    · obtain ⟨e1, e2, e3, e4⟩ := er b hba; rw [oq b hba]; unfold okB; rw [e1, e2]; exact r5 b hk
  · rw [ek] at hk
    by_cases hba : b = a
    · subst hba; exact ⟨ha, h22 hk⟩
    · obtain ⟨e1, e2, e3, e4⟩ := er b hba; rw [oq b hba, e1, e2]; exact r6 b hk
  · rw [ek] at hk
    by_cases hba : b = a
    · subst hba; exact ⟨ha, h23 hk⟩
    · obtain ⟨e1, e2, e3, e4⟩ := er b hba; rw [oq b hba, e1, e3]; exact r7 b hk
  · rw [ek] at hk
    by_cases hba : b = a
    · subst hba; exact ⟨ha, h24 hk⟩
    · obtain ⟨e1, e2, e3, e4⟩ := er b hba; rw [oq b hba]; unfold okE; rw [e1, e4, ek]; exact r8 b hk
  · rw [ek] at hk; exact r9 b hk
theorem Rz.nw {G : Gx} {h h1 : Hp} {H H1 : Heap} {k : Nat} (hR : Rz G h H) (z : H1.size = H.size + 1) (oq : ∀ q : Nat, q < H.size → H1[q]? = H[q]?) (en : hn h1 = hn h + 1) (ek : kd h1 = va_up (kd h) (hn h) k) (e9 : fd h1 99 0 = fd h 99 0)
    (eo : ∀ ci b : Nat, b ≠ hn h → ∀ k, k < nF ci → fv h1 ci b k = fv h ci b k) (er : ∀ b : Nat, b ≠ hn h → ln h1 b = ln h b ∧ ar h1 b = ar h b ∧ la h1 b = la h b ∧ ra h1 b = ra h b)
    (ho : ∀ ci : Nat, k = ci + 1 → ci < 13 → t_OB (hn h) ((gD G).1 ci) (nF ci) ((gD G).2 ci) H1 (fv h1 ci (hn h)))
    (h21 : k = 21 → okB h1 (hn h) ∧ H1[hn h]? = some (vp_cell (gB G) (ln h1 (hn h), .inl (ar h1 (hn h))))) (h22 : k = 22 → H1[hn h]? = some (vp_cell (gN G) (ln h1 (hn h), .inl (ar h1 (hn h)))))
    (h23 : k = 23 → H1[hn h]? = some (vp_cell (gL G) (ln h1 (hn h), .inr (.inl (la h1 (hn h)))))) (h24 : k = 24 → okE h1 (hn h) ∧ H1[hn h]? = some (vp_cell (gO G) (ln h1 (hn h), .inr (.inr (.inr (.inr (ra h1 (hn h)))))))) (h25 : k ≠ 25) : Rz G h1 H1 := by
  obtain ⟨r1, r2, r3, r4, r5, r6, r7, r8, r9, r10⟩ := hR
  have hb : bs G (hn h) := by rw [r1]; exact r2
  have kq : ∀ b : Nat, b ≠ hn h → kd h1 b = kd h b := fun b hb => by rw [ek]; exact if_neg hb
  have kn : kd h1 (hn h) = k := by rw [ek]; exact if_pos rfl
  have cl : ∀ {a : Nat} {c : Cell}, H[a]? = some c → a < H.size := fun e => (Array.getElem?_eq_some_iff.mp e).1
  have hlt : ∀ y : Nat, okK (kd h y) → y ≠ hn h := by
    intro y hy e
    have : y < H.size := by
      rcases hy with q | q | q
      · obtain ⟨cell, q1, -⟩ := (r4 y 3 q (by omega)).2; exact cl q1
      · obtain ⟨cell, q1, -⟩ := (r4 y 7 q (by omega)).2; exact cl q1
      · obtain ⟨cell, q1, -⟩ := (r4 y 10 q (by omega)).2; exact cl q1
    omega
  refine ⟨by rw [en, z, r1], by omega, fun q hq => ?_, fun b ci hk hc => ?_, fun b hk => ?_, fun b hk => ?_, fun b hk => ?_, fun b hk => ?_, fun b hk => ?_, by rw [e9]; exact r10⟩
  · rw [oq q (by omega)]; exact r3 q hq
  · by_cases hba : b = hn h
    · subst hba; rw [kn] at hk; exact ⟨hb, ho ci hk hc⟩
    · rw [kq b hba] at hk
      obtain ⟨g1, g2⟩ := r4 b ci hk hc
      have hl : b < H.size := by obtain ⟨cell, q1, -⟩ := g2; exact cl q1
      exact ⟨g1, (g2.kept (oq b hl)).to (fun k hk => (eo ci b hba k hk).symm)⟩
  · by_cases hba : b = hn h
    · subst hba; rw [kn] at hk; exact ⟨hb, h21 hk⟩
    · rw [kq b hba] at hk
      obtain ⟨g1, g2, g3⟩ := r5 b hk
      obtain ⟨e1, e2, e3, e4⟩ := er b hba; rw [oq b (cl g3)]; unfold okB; rw [e1, e2]; exact ⟨g1, g2, g3⟩
  · by_cases hba : b = hn h
    · subst hba; rw [kn] at hk; exact ⟨hb, h22 hk⟩
    · rw [kq b hba] at hk
      obtain ⟨g1, g3⟩ := r6 b hk
      obtain ⟨e1, e2, e3, e4⟩ := er b hba; rw [oq b (cl g3), e1, e2]; exact ⟨g1, g3⟩
  · by_cases hba : b = hn h
    · subst hba; rw [kn] at hk; exact ⟨hb, h23 hk⟩
    · rw [kq b hba] at hk
      obtain ⟨g1, g3⟩ := r7 b hk
      obtain ⟨e1, e2, e3, e4⟩ := er b hba; rw [oq b (cl g3), e1, e3]; exact ⟨g1, g3⟩
  · by_cases hba : b = hn h
    · subst hba; rw [kn] at hk; exact ⟨hb, h24 hk⟩
    · rw [kq b hba] at hk
      obtain ⟨g1, g2, g3⟩ := r8 b hk
      obtain ⟨e1, e2, e3, e4⟩ := er b hba; rw [oq b (cl g3)]; rw [e1, e4]
      refine ⟨g1, fun j y hy => ?_, g3⟩
      rw [e4] at hy
      have := g2 j y hy
      rw [kq y (hlt y this)]; exact this
  · by_cases hba : b = hn h
    · subst hba; rw [kn] at hk; exact absurd hk h25
    · rw [kq b hba] at hk; exact r9 b hk
/-- a method's end: its answer, and the heap that it leaves -/
def Fi {ρ : Type} (G : Gx) (rv : ρ → Option Value) (r : ρ) (h' : Hp) : Array Value → State → Outcome → State → Prop := fun _ _ o t => o = .returned (rv r) ∧ Rz G h' t.heap
/-- from pc on, with these locals and this stack, the machine does what the program x does -/
def Sm {ρ : Type} (G : Gx) (Q : State → Prop) (p : Program) (l : Launch) (e : Env) (R : Room) (s : State) (m : MethodId) (args : Array Value) (below : List Frame) (meth : Method) (c : Code) (nL : Nat) (h0 : Hp) (r : ρ) (h' : Hp) (pc : Nat) (lv : List (Nat × Value)) (st : List Value) (x : M ρ) : Prop :=
  ∀ (h : Hp) (H : Heap) (locs : List Loc) (ls : Array Slot), Rz G h H → (∀ q ∈ locs, bs G q.base) → hn h0 ≤ hn h → sl h0 ≤ sl h → lv_has ls nL lv → x.1 h = some (r, h') →
    W p l e R s m args below meth c H locs (hn h - hn h0) (sl h - sl h0) Q (F0 m pc ls st)
/-- the end of a method that returns -/
abbrev QM {ρ : Type} (G : Gx) (rv : ρ → Option Value) (below : List Frame) (args : Array Value) (s : State) (h0 : Hp) (r : ρ) (h' : Hp) : State → Prop := MQ below (Fi G rv r h') args s (hn h' - hn h0) (sl h' - sl h0) (bs G)
/-- what holds in a method's body -/
def Cx (G : Gx) (p : Program) (R : Room) (s : State) (m : MethodId) (args : Array Value) (meth : Method) (c : Code) (cc : ByteArray) (nL : Nat) (own : String) (h0 h' : Hp) : Prop :=
  p.tables.exec = Jvm.exec ∧ c.code = cc ∧ c.maxLocals = nL ∧ s.vm.findClass own = some m.cls ∧ (∀ w ∈ wb, w.before args s = true) ∧ St G s ∧ meth.locks = false ∧ hn h' - hn h0 ≤ R.cells ∧ sl h' - sl h0 ≤ R.slots
section SM
variable {ρ α : Type} {G : Gx} {Q : State → Prop} {p : Program} {l : Launch} {e : Env} {R : Room} {s : State} {m : MethodId} {args : Array Value} {below : List Frame} {meth : Method} {c : Code} {cc : ByteArray} {nL : Nat} {own : String} {h0 : Hp} {r : ρ} {h' : Hp} {pc : Nat} {lv : List (Nat × Value)} {st : List Value} {z : M ρ}
theorem bd_inv {x : M α} {k : α → M ρ} {h : Hp} {q : ρ × Hp} (e : (bd x k).1 h = some q) : ∃ v h1, x.1 h = some (v, h1) ∧ (k v).1 h1 = some q := by
  change bq (x.1 h) (fun v h1 => (k v).1 h1) = some q at e
  cases hx : x.1 h with
  | none => rw [hx] at e; cases e
  | some w => obtain ⟨v, h1⟩ := w; rw [hx] at e; exact ⟨v, h1, rfl, e⟩
theorem rd_inv {f : Hp → Option α} {h h1 : Hp} {v : α} (e : (rd f).1 h = some (v, h1)) : f h = some v ∧ h1 = h := by
  change (f h).map (fun v => (v, h)) = some (v, h1) at e
  cases hx : f h with
  | none => rw [hx] at e; cases e
  | some w => rw [hx] at e; cases e; exact ⟨rfl, rfl⟩
theorem md_inv {c : Hp → Bool} {g : Hp → α × Hp} {hg} {h h1 : Hp} {v : α} (e : (md c g hg).1 h = some (v, h1)) : c h = true ∧ g h = (v, h1) := by
  change (if c h = true then some (g h) else none) = some (v, h1) at e
  split at e
  · exact ⟨by assumption, Option.some.inj e⟩
  · cases e
/-- a row that moves locals, stack and pc alone -/
theorem sm_of {pc' : Nat} {lv' : List (Nat × Value)} {st' : List Value} (f : ∀ (H : Heap) (locs : List Loc) (cells slots : Nat) (ls : Array Slot), lv_has ls nL lv → (∀ ls' : Array Slot, lv_has ls' nL lv' → W p l e R s m args below meth c H locs cells slots Q (F0 m pc' ls' st')) → W p l e R s m args below meth c H locs cells slots Q (F0 m pc ls st))
    (k : Sm G Q p l e R s m args below meth c nL h0 r h' pc' lv' st' z) : Sm G Q p l e R s m args below meth c nL h0 r h' pc lv st z :=
  fun h H locs ls hR hL hn hs hl hz => f H locs _ _ ls hl (fun ls' hl' => k h H locs ls' hR hL hn hs hl' hz)
end SM
