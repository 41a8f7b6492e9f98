/-- the heap at the law's start: nothing of ours, but the empty row's address -/
def h00 (n eA : Nat) : Hp := (n, (fun a => if a = eA then 25 else 0), (fun _ => 0), (fun j a => if j = 99 ∧ a = 0 then .ref eA else .int 0), (fun _ _ => 0), (fun _ _ => 0), (fun _ _ => none), 0)
/-- WHAT IS LEFT: the law's program, on every script, comes to its end with 1, within the room -/
def PureGoal : Prop := ∀ (xs : Nat → Int32) (L n eA : Nat), L ≤ 3072 → eA < n → ∃ h' : Hp, (L_law xs L).1 (h00 n eA) = some (1, h') ∧ hn h' - n ≤ 601024 ∧ sl h' ≤ 7293034
section START
variable {args : Array Value} {s : State}
set_option maxRecDepth 100000 in
theorem st_words : ∀ w ∈ lw_tbl.filter isNest, w.onTables = true := by decide +kernel
set_option maxRecDepth 100000 in
theorem st_otw : ∀ w ∈ lw_tbl.filter isOt, w.onTables = true := by decide +kernel
theorem st_class (hts : ∀ w ∈ lw_tbl, w.before args s = true) {C : String} {T : u_T} {N n : Nat} (hin : ∀ w ∈ u_ws C T N, w ∈ lw_tbl) (hi : Cond.instantiable C n ∈ lw_tbl) : ∃ q : ClassId × (Nat → Nat), u_Kn s C T N q.1 q.2 := by
  obtain ⟨cC, iS, h⟩ := u_known hts hin (hts _ hi)
  exact ⟨(cC, iS), h⟩
set_option maxRecDepth 100000 in
theorem st_all (hts : ∀ w ∈ lw_tbl, w.before args s = true) : ∃ D : va_G, ∀ (c : Nat) (q : vw_C), vwCl[c]? = some q → u_Kn s q.1 q.2.1 q.2.2 (D.1 c) (D.2 c) := by
  have h0 := st_class hts (C := RJ0) (T := TJ0) (N := 4) (n := 4) (by decide +kernel) (by decide +kernel)
  have h1 := st_class hts (C := RJ4) (T := TJ4) (N := 4) (n := 4) (by decide +kernel) (by decide +kernel)
  have h2 := st_class hts (C := RJx4a65c) (T := TJx4a65c) (N := 3) (n := 3) (by decide +kernel) (by decide +kernel)
  have h3 := st_class hts (C := RX0) (T := TX0) (N := 2) (n := 2) (by decide +kernel) (by decide +kernel)
  have h4 := st_class hts (C := RX1) (T := TX1) (N := 2) (n := 2) (by decide +kernel) (by decide +kernel)
  have h5 := st_class hts (C := RX2) (T := TX2) (N := 2) (n := 2) (by decide +kernel) (by decide +kernel)
  have h6 := st_class hts (C := RX3) (T := TX3) (N := 7) (n := 7) (by decide +kernel) (by decide +kernel)
  have h7 := st_class hts (C := RX4) (T := TX4) (N := 4) (n := 4) (by decide +kernel) (by decide +kernel)
  have h8 := st_class hts (C := RX5) (T := TX5) (N := 10) (n := 10) (by decide +kernel) (by decide +kernel)
  have h9 := st_class hts (C := RX6) (T := TX6) (N := 7) (n := 7) (by decide +kernel) (by decide +kernel)
  have h10 := st_class hts (C := RX7) (T := TX7) (N := 5) (n := 5) (by decide +kernel) (by decide +kernel)
  have h11 := st_class hts (C := RX8) (T := TX8) (N := 11) (n := 11) (by decide +kernel) (by decide +kernel)
  have h12 := st_class hts (C := RX9) (T := TX9) (N := 54) (n := 54) (by decide +kernel) (by decide +kernel)
  have key : ∀ c : Nat, ∃ q : ClassId × (Nat → Nat), ∀ w : vw_C, vwCl[c]? = some w → u_Kn s w.1 w.2.1 w.2.2 q.1 q.2 := by
    intro c
    match c with
    | 0 => exact h0.elim (fun q h => ⟨q, fun w e => by cases e; exact h⟩)
    | 1 => exact h1.elim (fun q h => ⟨q, fun w e => by cases e; exact h⟩)
    | 2 => exact h2.elim (fun q h => ⟨q, fun w e => by cases e; exact h⟩)
    | 3 => exact h3.elim (fun q h => ⟨q, fun w e => by cases e; exact h⟩)
    | 4 => exact h4.elim (fun q h => ⟨q, fun w e => by cases e; exact h⟩)
    | 5 => exact h5.elim (fun q h => ⟨q, fun w e => by cases e; exact h⟩)
    | 6 => exact h6.elim (fun q h => ⟨q, fun w e => by cases e; exact h⟩)
    | 7 => exact h7.elim (fun q h => ⟨q, fun w e => by cases e; exact h⟩)
    | 8 => exact h8.elim (fun q h => ⟨q, fun w e => by cases e; exact h⟩)
    | 9 => exact h9.elim (fun q h => ⟨q, fun w e => by cases e; exact h⟩)
    | 10 => exact h10.elim (fun q h => ⟨q, fun w e => by cases e; exact h⟩)
    | 11 => exact h11.elim (fun q h => ⟨q, fun w e => by cases e; exact h⟩)
    | 12 => exact h12.elim (fun q h => ⟨q, fun w e => by cases e; exact h⟩)
    | c + 13 => exact ⟨(0, fun _ => 0), fun w e => by cases e⟩
  exact ⟨(fun c => (Classical.choose (key c)).1, fun c => (Classical.choose (key c)).2), fun c q h => Classical.choose_spec (key c) q h⟩
theorem st_row (hts : ∀ w ∈ lw_tbl, w.before args s = true) {ty : FieldType} (hw : Cond.arrayClass ty ∈ lw_tbl) (hra : ∀ cA, s.vm.findClass ("[" ++ ty.toString) = some cA → va_RA s cA ty) : ∃ cA, ArrOfT s cA ty ∧ va_RA s cA ty := by
  obtain ⟨cA, kA, comp, h1, h2, h3⟩ := Cond.arrayClass_spec (hts _ hw)
  exact ⟨cA, fun n z => ⟨fun k h => (by cases h), kA, h2, comp, h3⟩, hra cA h1⟩
theorem st_rowO (h : va_AO "java/lang/Object" s) : ∃ cA, ArrOfT s cA (.object "java/lang/Object") ∧ va_RA s cA (.object "java/lang/Object") := by
  obtain ⟨comp, c, k, h1, h2, h3, h4, h5⟩ := Cond.arrayOver_spec h
  exact ⟨c, fun n z => ⟨fun k h => (by cases h), k, h3, comp, h4⟩, k, comp, h3, h4, h1, h5⟩
set_option maxRecDepth 100000 in
theorem st_ss {A : Nat → Prop} (hgv : (Jvm.Cond.and given_1 narrow_1).before args s = true) (hA : ∀ a : Nat, a < s.heap.size → ¬ A a) : ∃ t : Nat, (Term.static RX8 "SUM_STEPS" "[I").eval args s none [] s = some (.ref t) ∧ va_T .int t 16 (fun j => .int (sumT j)) A s s.heap := by
  have hs := flat_of_before _ hgv
  refine va_Tof (by decide) (hs _ (by decide +kernel)) (va_eqt (hs _ (by decide +kernel))) (fun j hj => ?_) hA
  match j, hj with
  | 0, _ => exact va_eqt (hs _ (by decide +kernel))
  | 1, _ => exact va_eqt (hs _ (by decide +kernel))
  | 2, _ => exact va_eqt (hs _ (by decide +kernel))
  | 3, _ => exact va_eqt (hs _ (by decide +kernel))
  | 4, _ => exact va_eqt (hs _ (by decide +kernel))
  | 5, _ => exact va_eqt (hs _ (by decide +kernel))
  | 6, _ => exact va_eqt (hs _ (by decide +kernel))
  | 7, _ => exact va_eqt (hs _ (by decide +kernel))
  | 8, _ => exact va_eqt (hs _ (by decide +kernel))
  | 9, _ => exact va_eqt (hs _ (by decide +kernel))
  | 10, _ => exact va_eqt (hs _ (by decide +kernel))
  | 11, _ => exact va_eqt (hs _ (by decide +kernel))
  | 12, _ => exact va_eqt (hs _ (by decide +kernel))
  | 13, _ => exact va_eqt (hs _ (by decide +kernel))
  | 14, _ => exact va_eqt (hs _ (by decide +kernel))
  | 15, _ => exact va_eqt (hs _ (by decide +kernel))
  | j + 16, h => exact absurd h (by omega)
set_option maxRecDepth 100000 in
theorem st_de {A : Nat → Prop} (hgv : (Jvm.Cond.and given_1 narrow_1).before args s = true) (hA : ∀ a : Nat, a < s.heap.size → ¬ A a) : ∃ t : Nat, (Term.static RJx4a65c "DEFAULTCAPACITY_EMPTY_ELEMENTDATA" "[Ljava/lang/Object;").eval args s none [] s = some (.ref t) ∧ va_T (.object "java/lang/Object") t 0 (fun _ => .null) A s s.heap := by
  have hs := flat_of_before _ hgv
  exact va_Tof (by decide) (hs _ (by decide +kernel)) (va_eqt (hs _ (by decide +kernel))) (fun j hj => absurd hj (Nat.not_lt_zero j)) hA
set_option maxRecDepth 100000 in
theorem st_cast (hts : ∀ w ∈ lw_tbl, w.before args s = true) {D : va_G} (hD : ∀ (c : Nat) (q : vw_C), vwCl[c]? = some q → u_Kn s q.1 q.2.1 q.2.2 (D.1 c) (D.2 c)) : ∀ ci : Nat, okK (ci + 1) → ∀ comp : ClassId, s.vm.findClass "java/lang/Object" = some comp → s.vm.assignable (D.1 ci) comp = true := by
  have one : ∀ (ci : Nat) (q : vw_C), vwCl[ci]? = some q → Cond.castable q.1 "java/lang/Object" ∈ lw_tbl → ∀ comp : ClassId, s.vm.findClass "java/lang/Object" = some comp → s.vm.assignable (D.1 ci) comp = true := by
    intro ci q hq hw comp hf
    obtain ⟨c0, t0, f1, f2, f3⟩ := Cond.castable_spec (hts _ hw)
    have e1 : D.1 ci = c0 := Option.some.inj ((hD ci q hq).2.1.symm.trans f1)
    have e2 : comp = t0 := Option.some.inj (hf.symm.trans f2)
    rw [e1, e2]; exact f3
  intro ci hk
  rcases hk with q | q | q
  · have e : ci = 3 := by omega
    subst e; exact one 3 _ rfl (by decide +kernel)
  · have e : ci = 7 := by omega
    subst e; exact one 7 _ rfl (by decide +kernel)
  · have e : ci = 10 := by omega
    subst e; exact one 10 _ rfl (by decide +kernel)
set_option maxRecDepth 100000 in
theorem st_nc (hgv : (Jvm.Cond.and given_1 narrow_1).before args s = true) : ∀ i j, i < 4 → j < 4 → i ≠ j → va_Nc (exc i) (exc j) s := by
  have hs := flat_of_before _ hgv
  intro i j hi hj hij
  match i, j, hi, hj, hij with
  | 0, 0, _, _, h => exact absurd rfl h
  | 0, 1, _, _, _ => exact va_Nc.of (hs _ (by decide +kernel))
  | 0, 2, _, _, _ => exact va_Nc.of (hs _ (by decide +kernel))
  | 0, 3, _, _, _ => exact va_Nc.of (hs _ (by decide +kernel))
  | 1, 0, _, _, _ => exact va_Nc.of (hs _ (by decide +kernel))
  | 1, 1, _, _, h => exact absurd rfl h
  | 1, 2, _, _, _ => exact va_Nc.of (hs _ (by decide +kernel))
  | 1, 3, _, _, _ => exact va_Nc.of (hs _ (by decide +kernel))
  | 2, 0, _, _, _ => exact va_Nc.of (hs _ (by decide +kernel))
  | 2, 1, _, _, _ => exact va_Nc.of (hs _ (by decide +kernel))
  | 2, 2, _, _, h => exact absurd rfl h
  | 2, 3, _, _, _ => exact va_Nc.of (hs _ (by decide +kernel))
  | 3, 0, _, _, _ => exact va_Nc.of (hs _ (by decide +kernel))
  | 3, 1, _, _, _ => exact va_Nc.of (hs _ (by decide +kernel))
  | 3, 2, _, _, _ => exact va_Nc.of (hs _ (by decide +kernel))
  | 3, 3, _, _, h => exact absurd rfl h
theorem st_str (hts : ∀ w ∈ lw_tbl, w.before args s = true) {c8 : ClassId} (h8 : s.vm.findClass RX8 = some c8) : ∀ q ∈ strL, ∃ sa, vk_R RX8 q.1 q.2 sa s := by
  intro q hq
  obtain ⟨w, hw, he⟩ := List.mem_filterMap.mp hq
  have hb := hts w hw
  split at he
  · rename_i o i t
    split at he
    · rename_i ho
      cases he
      subst ho
      obtain ⟨k, cf, j, a, hk, -, -, -, hr, hev⟩ := Cond.stringRef_spec h8 hb
      exact ⟨a, vk_R.of hb (by simp [Term.eval, h8, hk, hr])⟩
    · cases he
  · cases he
theorem st_rz {H : Heap} {eA : Nat} {G : Gx} (hG : gH G = H) (hE : gE G = eA) : Rz G (h00 H.size eA) H := by
  refine ⟨rfl, by rw [hG]; exact Nat.le_refl _, fun q _ => by rw [hG], fun a ci hk hc => ?_, fun a hk => ?_, fun a hk => ?_, fun a hk => ?_, fun a hk => ?_, fun a hk => ?_, by rw [hE]; rfl⟩
  all_goals (have hk9 := hk; change (if a = eA then 25 else 0) = _ at hk9; split at hk9)
  · omega
  · omega
  · omega
  · omega
  · omega
  · omega
  · omega
  · omega
  · omega
  · omega
  · rename_i h; rw [hE]; exact h
  · omega
end START
set_option maxRecDepth 100000 in
/-- the law's walk from its entry, out of the pure statement -/
theorem start_open (PG : PureGoal) {p : Program} {e : Env} {s : State} {m : MethodId} {below : List Frame} {meth : Method} {c : Code} (l : Launch) (hl0 : l.stackTraces = false) {b L : Nat} {xs : Nat → Int32} (hL : L ≤ 3072) (C0 : lw_At p s m meth c b L xs) : W p l e room_1 s m #[Value.ref b] below meth c s.heap [] 0 0 (lw_Z below #[Value.ref b] s) (entryFrame m ([Value.ref b] : List Value).toArray 7) := by
  obtain ⟨hx, hb, hr, hml, hown, hts, hX, hbl, hlo, hgv⟩ := C0
  have hs := flat_of_before _ hgv
  obtain ⟨D, hD⟩ := st_all hts
  have hAO : va_AO "java/lang/Object" s := va_AO.of (hts (.arrayOver (.object "java/lang/Object")) (by decide +kernel))
  obtain ⟨cB, cB1, cB2⟩ := st_row hts (ty := .byte) (by decide +kernel) (fun _ h => h)
  obtain ⟨cI, cI1, cI2⟩ := st_row hts (ty := .int) (by decide +kernel) (fun _ h => h)
  obtain ⟨cJ, cJ1, cJ2⟩ := st_row hts (ty := .long) (by decide +kernel) (fun _ h => h)
  obtain ⟨cO, cO1, cO2⟩ := st_rowO hAO
  have hA : ∀ a : Nat, a < s.heap.size → ¬ (fun q => s.heap.size ≤ q) a := fun a h q => Nat.not_lt.mpr q h
  obtain ⟨tS, eS, hS⟩ := st_ss hgv hA
  obtain ⟨tE, eE, hE⟩ := st_de hgv hA
  obtain ⟨mi, hmi⟩ := va_Mi.of (hs (.isRef (.mirror "[Ljava/lang/Object;")) (by decide +kernel))
  have hZS := va_Zof (hts (.laysStatic RX8 "SUM_STEPS" "[I") (by decide +kernel)) (hts (.initialized RX8) (by decide +kernel)) eS hA
  have hZE := va_Zof (hts (.laysStatic RJx4a65c "DEFAULTCAPACITY_EMPTY_ELEMENTDATA" "[Ljava/lang/Object;") (by decide +kernel)) (hts (.initialized RJx4a65c) (by decide +kernel)) eE hA
  have hU := vx_Zqof (hts (.laysStatic Bundle.tN "UNASSIGNED_STACK" Bundle.steD) (by decide +kernel)) (hts (.initialized Bundle.tN) (by decide +kernel)) (hs (.isRef (.static Bundle.tN "UNASSIGNED_STACK" Bundle.steD)) (by decide +kernel)) hA
  have hN := vx_Zqof (hts (.laysStatic Bundle.tN "SUPPRESSED_SENTINEL" Bundle.listD) (by decide +kernel)) (hts (.initialized Bundle.tN) (by decide +kernel)) (hs (.isRef (.static Bundle.tN "SUPPRESSED_SENTINEL" Bundle.listD)) (by decide +kernel)) hA
  let G : Gx := (D, (cB, cI, cJ, cO), s.heap, tE, tS, mi)
  have hK : va_K (gD G) vwCl (gT G) s := ⟨hD, fun k q hk => by
    match k, hk with
    | 0, hk => cases hk; exact ⟨cB1, cB2⟩
    | 1, hk => cases hk; exact ⟨cI1, cI2⟩
    | 2, hk => cases hk; exact ⟨cJ1, cJ2⟩
    | 3, hk => cases hk; exact ⟨cO1, cO2⟩
    | k + 4, hk => cases hk⟩
  have hSt : St G s := ⟨hK, hZS, hS, hZE, hE, fun w hw => va_Nw.of (st_words w hw) (hts w (List.mem_filter.mp hw).1), hAO, st_cast hts hD, hmi, va_Dc.of (hts (.declares ⟨"java/lang/Object", "getClass", "()Ljava/lang/Class;"⟩) (by decide +kernel))⟩
  have hSX : SX G s := ⟨hU, hN, st_str hts (hD 11 _ rfl).2.1, fun w hw => va_Nw.of (st_otw w hw) (hts w (List.mem_filter.mp hw).1), st_nc hgv⟩
  have hlE : tE < s.heap.size := by
    obtain ⟨cell, t1, -⟩ := hE
    exact (Array.getElem?_eq_some_iff.mp t1).1
  obtain ⟨h', hz, hc, hsl⟩ := PG xs L s.heap.size tE hL hlE
  have C : Cx G p room_1 s m #[Value.ref b] meth c cL_law 7 RL (h00 s.heap.size tE) h' := ⟨hx, hb, hml, hown, fun w hw => hts w (List.mem_filter.mp hw).1, hSt, hlo, hc, (by show sl h' - 0 ≤ _; exact hsl)⟩
  have hl := lv_entry [Value.ref b] (n := 7) (Nat.le_of_ble_eq_true rfl)
  rw [lg_entry_eq]
  refine W.cs (cells' := hn (h00 s.heap.size tE) - hn (h00 s.heap.size tE)) (slots' := sl (h00 s.heap.size tE) - sl (h00 s.heap.size tE)) (Nat.sub_self _).symm (Nat.sub_self _).symm ?_
  exact law_s (G := G) C rfl rfl ⟨rfl, ⟨b, rfl⟩, hr, rfl, hc, hsl, rfl⟩ hSX hX hbl hl0 (h00 s.heap.size tE) s.heap [] _ (st_rz rfl rfl) (fun q hq => by cases hq) (Nat.le_refl _) (Nat.le_refl _) hl hz
