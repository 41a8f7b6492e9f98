section LWR
variable {ρ : Type} {G : Gx} {Q : State → Prop} {p : Program} {l : Launch} {e : Env} {R : Room} {s : State} {m : MethodId} {args : Array Value} {below : List Frame} {meth : Method} {c : Code} {cc : ByteArray} {nL : Nat} {own : String} {h0 : Hp} {r : ρ} {h' : Hp} {pc : Nat} {lv lv' : List (Nat × Value)} {st : List Value} {z : M ρ}
theorem s_lstore_n (C : Cx G p R s m args meth c cc nL own h0 h') {q : Fin 4} {i : Nat} {x : Int64} (d : decode cc pc = .ok (.lstore_n q, 1)) (hi : (q : Nat) = i) (hn : i + 1 < nL) (hl : (i, Value.long x) :: (lv.filter (fun q => !(q.1 == i) && (!(q.1 == i + 1) && !(q.1 + 1 == i && q.2.category == 2)))) = lv') (k : Sm G Q p l e R s m args below meth c nL h0 r h' (pc + 1) lv' st z) : Sm G Q p l e R s m args below meth c nL h0 r h' pc lv (.long x :: st) z :=
  sm_of (fun H locs cells slots ls h kk => lv_lstore_n C.1 C.2.1 d hi h hn hl kk) k
theorem s_lstore (C : Cx G p R s m args meth c cc nL own h0 h') {i : Nat} {x : Int64} (d : decode cc pc = .ok (.lstore i, 2)) (hn : i + 1 < nL) (hl : (i, Value.long x) :: (lv.filter (fun q => !(q.1 == i) && (!(q.1 == i + 1) && !(q.1 + 1 == i && q.2.category == 2)))) = lv') (k : Sm G Q p l e R s m args below meth c nL h0 r h' (pc + 2) lv' st z) : Sm G Q p l e R s m args below meth c nL h0 r h' pc lv (.long x :: st) z :=
  sm_of (fun H locs cells slots ls h kk => lv_lstore C.1 C.2.1 d h hn hl kk) k
theorem s_ll (C : Cx G p R s m args meth c cc nL own h0 h') {a : Nat} {i : Int32} (d : decode cc pc = .ok (.laload, 1)) {y : Int64 → M ρ} (kk : ∀ x, Sm G Q p l e R s m args below meth c nL h0 r h' (pc + 1) lv (.long x :: st) (y x)) : Sm G Q p l e R s m args below meth c nL h0 r h' pc lv (.int i :: .ref a :: st) (bd (ll a i) y) := fun h H locs ls hR hL hn0 hs0 hl hz => by
  obtain ⟨hx, hb, hml, hown, hts, hSt, hlo, hRc, hRs⟩ := C
  obtain ⟨v, h1, e1, e2⟩ := bd_inv hz
  obtain ⟨e3, e4⟩ := rd_inv e1
  subst e4
  split at e3
  · rename_i hc
    cases e3
    obtain ⟨g0, g3⟩ := hR.2.2.2.2.2.2.1 a hc.1
    have hin := inx_in hc.2
    have hlt : i.toNatClampNeg < ln h1 a := Nat.not_le.mp fun q => hin (Or.inr q)
    exact W.lald (v := .long (la h1 a i.toNatClampNeg)) hx hb g3 ((hSt.1.2 2 (gL G, .long) rfl).1 (ln h1 a) (fun j => .long (la h1 a j))) (fun q => by cases q) (by show ¬ (i < 0 ∨ (arrV _ _ _).slots.size ≤ _); rw [arrV_size]; exact hin) (by show (arrV _ _ _).slots[_]? = _; rw [arrV_read _ _ hlt]) rfl rfl d (kk _ h1 H locs ls hR hL hn0 hs0 hl e2)
  · cases e3
theorem s_lz (C : Cx G p R s m args meth c cc nL own h0 h') {a : Nat} {i : Int32} {x : Int64} (d : decode cc pc = .ok (.lastore, 1)) {y : Unit → M ρ} (kk : Sm G Q p l e R s m args below meth c nL h0 r h' (pc + 1) lv st (y ())) : Sm G Q p l e R s m args below meth c nL h0 r h' pc lv (.long x :: .int i :: .ref a :: st) (bd (lz a i x) y) := fun h H locs ls hR hL hn0 hs0 hl hz => by
  obtain ⟨hx, hb, hml, hown, hts, hSt, hlo, hRc, hRs⟩ := C
  obtain ⟨u, h1, e1, e2⟩ := bd_inv hz
  obtain ⟨e3, e4⟩ := md_inv e1
  cases e4
  simp only [Bool.and_eq_true, beq_iff_eq] at e3
  obtain ⟨g0, g3⟩ := hR.2.2.2.2.2.2.1 a e3.1
  have hin := inx_in e3.2
  refine W.last hx hb g3 ((hSt.1.2 2 (gL G, .long) rfl).1 (ln h a) (fun j => .long (la h a j))) (fun q => by cases q) (by show ¬ (i < 0 ∨ (arrV _ _ _).slots.size ≤ _); rw [arrV_size]; exact hin) rfl rfl d (fun H1 e z oq => ?_)
  have hself : u2 (la h) a i.toNatClampNeg x a = vp_updL (la h a) i.toNatClampNeg x := by
    funext j
    show (if a = a ∧ j = i.toNatClampNeg then x else la h a j) = (if j = i.toNatClampNeg then x else la h a j)
    by_cases hj : j = i.toNatClampNeg
    · rw [if_pos hj, if_pos ⟨rfl, hj⟩]
    · rw [if_neg hj, if_neg (fun q => hj q.2)]
  have hoth : ∀ b : Nat, b ≠ a → u2 (la h) a i.toNatClampNeg x b = la h b := fun b hb => by
    funext j
    exact if_neg (fun q => hb q.1)
  refine kk (sL h a i.toNatClampNeg x) H1 _ ls (hR.wr g0 z oq rfl rfl rfl (fun ci' b hb k' _ => rfl) (fun b hb => ⟨rfl, rfl, hoth b hb, rfl⟩) (fun ci' hc' _ => by omega) (fun h => by omega) (fun h => by omega) (fun _ => ?_) (fun h => by omega)) (fun q hq => ?_) hn0 hs0 hl e2
  · rw [e]
    show _ = some (vp_cell _ (ln h a, .inr (.inl (u2 (la h) a i.toNatClampNeg x a))))
    rw [hself, vp_cell_l, vp_cell_l, arrV_store]
    congr 2
    funext q
    by_cases hq : q = i.toNatClampNeg
    · subst hq
      simp [updV, vp_updL]
    · simp [updV, vp_updL, hq]
  · rcases List.mem_append.mp hq with h1 | h1
    · exact hL q h1
    · rw [List.mem_singleton.mp h1]; exact g0
/-- the script -/
def sx (xs : Nat → Int32) (L : Nat) (i : Int32) : M Int32 := rd (fun _ => if inx i L = true then some (xs i.toNatClampNeg) else none)
theorem s_sx (C : Cx G p R s m args meth c cc nL own h0 h') {b L : Nat} {xs : Nat → Int32} (X : va_X b L xs s (gH G)) (hb9 : b < (gH G).size) {i : Int32} (d : decode cc pc = .ok (.iaload, 1)) {y : Int32 → M ρ} (kk : ∀ x, Sm G Q p l e R s m args below meth c nL h0 r h' (pc + 1) lv (.int x :: st) (y x)) : Sm G Q p l e R s m args below meth c nL h0 r h' pc lv (.int i :: .ref b :: st) (bd (sx xs L i) y) := fun h H locs ls hR hL hn0 hs0 hl hz => by
  obtain ⟨hx, hb, hml, hown, hts, hSt, hlo, hRc, hRs⟩ := C
  obtain ⟨v, h1, e1, e2⟩ := bd_inv hz
  obtain ⟨e3, e4⟩ := rd_inv e1
  subst e4
  split at e3
  · rename_i hc
    cases e3
    have hin := inx_in hc
    have hlt : i.toNatClampNeg < L := Nat.not_le.mp fun q => hin (Or.inr q)
    obtain ⟨scr, t1, t2, t3, t4, t5⟩ := X
    exact W.iald (v := .int (xs i.toNatClampNeg)) hx hb (by rw [hR.2.2.1 _ hb9]; exact t1) t2 t3 (by rw [t4]; exact hin) (t5 _ hlt) rfl rfl d (kk _ h1 H locs ls hR hL hn0 hs0 hl e2)
  · cases e3
theorem s_sy (C : Cx G p R s m args meth c cc nL own h0 h') {b L : Nat} {xs : Nat → Int32} (X : va_X b L xs s (gH G)) (hb9 : b < (gH G).size) (d : decode cc pc = .ok (.arraylength, 1)) (kk : Sm G Q p l e R s m args below meth c nL h0 r h' (pc + 1) lv (.int (nI L) :: st) z) : Sm G Q p l e R s m args below meth c nL h0 r h' pc lv (.ref b :: st) z := fun h H locs ls hR hL hn0 hs0 hl hz => by
  obtain ⟨hx, hb, hml, hown, hts, hSt, hlo, hRc, hRs⟩ := C
  obtain ⟨scr, t1, t2, t3, t4, t5⟩ := X
  exact W.alen (n := Int32.ofNat L) hx hb (by rw [hR.2.2.1 _ hb9]; exact t1) t2 (by rw [t4] <;> rfl) rfl rfl d (kk h H locs ls hR hL hn0 hs0 hl hz)
theorem s_invVT_i (C : Cx G p R s m args meth c cc nL own h0 h') {tb : List ExceptionTableEntry} (X : CxT G l s c h0 tb) {ci : Nat} {Cn : String} {T : u_T} {N : Nat} {ty : Nat → FieldType} (K : Ci ci Cn T N ty) {y : MethodName} {cc' : ByteArray} {nL' : Nat} {ret' : Option FieldType} {n fr lo index : Nat} (Y : Cy y cc' nL' ret' n) (L : Cond.methodLink own index y ∈ wb) (hcls : y.cls = Cn) (wI : Cond.instanceMethod y ∈ wb) (wS : Cond.selects y.cls y y ∈ wb) {b : Nat} {As : List Value} {x : M (Nat ⊕ Int32)} (hM : ConT G rvI l y cc' nL' ret' fr lo (.ref b :: As) x) (hn' : As.length = n) {st0 : List Value} (hst : st0 = As.reverse ++ .ref b :: st) (hcat : (st.map fun v => v.category).sum ≤ 8) (hfr : fr + 1 ≤ R.frames) (hlc : 8 + (nL' + 11) + lo ≤ R.locals) (d : decode cc pc = .ok (.invokevirtual index, 3)) {hd : Nat → M ρ} {k : Int32 → M ρ} (kx : ∀ j q, (∃ hp, Ctc own s args c pc (exc j) hp ∧ Sm G Q p l e R s m args below meth c nL h0 r h' hp lv [.ref q] (hd j)) ∨ hd j = fl) (kk : ∀ v, Sm G Q p l e R s m args below meth c nL h0 r h' (pc + 3) lv (.int v :: st) (k v)) : Sm G Q p l e R s m args below meth c nL h0 r h' pc lv st0 (bd (ck ci b) (fun _ => bd x (fun q => cs q hd k))) :=
  s_invVT C X K Y L hcls wI wS hM hn' hst hcat hfr hlc d kx kk
theorem s_invVT_u (C : Cx G p R s m args meth c cc nL own h0 h') {tb : List ExceptionTableEntry} (X : CxT G l s c h0 tb) {ci : Nat} {Cn : String} {T : u_T} {N : Nat} {ty : Nat → FieldType} (K : Ci ci Cn T N ty) {y : MethodName} {cc' : ByteArray} {nL' : Nat} {ret' : Option FieldType} {n fr lo index : Nat} (Y : Cy y cc' nL' ret' n) (L : Cond.methodLink own index y ∈ wb) (hcls : y.cls = Cn) (wI : Cond.instanceMethod y ∈ wb) (wS : Cond.selects y.cls y y ∈ wb) {b : Nat} {As : List Value} {x : M (Nat ⊕ Unit)} (hM : ConT G rvU l y cc' nL' ret' fr lo (.ref b :: As) x) (hn' : As.length = n) {st0 : List Value} (hst : st0 = As.reverse ++ .ref b :: st) (hcat : (st.map fun v => v.category).sum ≤ 8) (hfr : fr + 1 ≤ R.frames) (hlc : 8 + (nL' + 11) + lo ≤ R.locals) (d : decode cc pc = .ok (.invokevirtual index, 3)) {hd : Nat → M ρ} {k : Unit → M ρ} (kx : ∀ j q, (∃ hp, Ctc own s args c pc (exc j) hp ∧ Sm G Q p l e R s m args below meth c nL h0 r h' hp lv [.ref q] (hd j)) ∨ hd j = fl) (kk : Sm G Q p l e R s m args below meth c nL h0 r h' (pc + 3) lv st (k ())) : Sm G Q p l e R s m args below meth c nL h0 r h' pc lv st0 (bd (ck ci b) (fun _ => bd x (fun q => cs q hd k))) :=
  s_invVT C X K Y L hcls wI wS hM hn' hst hcat hfr hlc d kx (fun _ => kk)
end LWR
