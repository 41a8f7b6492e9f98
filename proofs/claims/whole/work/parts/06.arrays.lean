section HA
variable {ρ α : Type} {G : Gx} {Q : State → Prop} {p : Program} {l : Launch} {e : Env} {R : Room} {s : State} {m : MethodId} {args : Array Value} {below : List Frame} {meth : Method} {c : Code} {cc : ByteArray} {nL : Nat} {own : String} {h0 : Hp} {r : ρ} {h' : Hp} {pc : Nat} {lv lv' : List (Nat × Value)} {st : List Value} {z z1 z2 : M ρ}
theorem inx_in {i : Int32} {n : Nat} (h : inx i n = true) : vp_in i n := by
  unfold inx at h
  have h := of_decide_eq_true h
  intro q
  rcases q with q | q
  · exact absurd q (Int32.not_lt.mpr h.1)
  · omega
theorem s_nw (C : Cx G p R s m args meth c cc nL own h0 h') {ci : Nat} {Cn : String} {T : u_T} {N : Nat} {ty : Nat → FieldType} (K : Ci ci Cn T N ty) {index : Nat} (w1 : Cond.classLink own index Cn ∈ wb) (w2 : Cond.instantiable Cn N ∈ wb) (w3 : Cond.initialized Cn ∈ wb) (d : decode cc pc = .ok (.new index, 3)) {y : Nat → M ρ} (kk : ∀ a, Sm G Q p l e R s m args below meth c nL h0 r h' (pc + 3) lv (.ref a :: st) (y a)) : Sm G Q p l e R s m args below meth c nL h0 r h' pc lv st (bd (nw ci N) y) := fun h H locs ls hR hL hn0 hs0 hl hz => by
  obtain ⟨hx, hb, hml, hown, hts, hSt, hlo, hRc, hRs⟩ := C
  obtain ⟨k1, k2, k3, k4, k5, k6, k7⟩ := K
  obtain ⟨a, h1, e1, e2⟩ := bd_inv hz
  obtain ⟨e3, e4⟩ := md_inv e1
  cases e4
  obtain ⟨g1, g2⟩ := (y (hn h)).2 _ _ _ e2
  have g1 : hn h + 1 ≤ hn h' := g1
  have g2 : sl h + N ≤ sl h' := g2
  have hKn := hSt.1.1 ci _ k2
  refine W.newcK hx hb hown (hts _ w1) (hts _ w2) (hts _ w3) rfl d (by omega) (by omega) hKn.2.1 hR.1.symm (fun H1 kC hkC q1 q2 q3 => ?_)
  refine W.cs (cells' := hn (nO h ci N) - hn h0) (slots' := sl (nO h ci N) - sl h0) (by show _ = hn h + 1 - hn h0; omega) (by show _ = sl h + N - sl h0; omega) ?_
  refine kk (hn h) (nO h ci N) H1 locs ls (hR.nw (k := ci + 1) (by rw [q2, hR.1]) (fun q hq => q3 q (by rw [hR.1]; exact hq)) rfl rfl (if_neg (fun q => by obtain ⟨cell, t1, t2, t3, t4, t5, t6, t7⟩ := hSt.2.2.2.2.1; have := Nat.not_le.mp t7; have := hR.1; have := hR.2.1; omega)) (fun ci' b hb k' _ => ?_) (fun b hb => ⟨rfl, rfl, rfl, rfl⟩) (fun ci' hc' _ => ?_) (fun h => by omega) (fun h => by omega) (fun h => by omega) (fun h => by omega) (by omega)) hL (Nat.le_trans hn0 (Nat.le_succ _)) (Nat.le_trans hs0 (Nat.le_add_right _ _)) hl e2
  · exact if_neg hb
  · have : ci' = ci := by omega
    subst this
    rw [k3]
    refine (u_born ty hts k4 hKn hkC q1 k5).to (fun k hk => ?_)
    rw [k7 k hk]
    exact (if_pos rfl).symm
theorem na_ok {n : Int32} (h : decide (0 ≤ n ∧ n ≤ 60000) = true) : ¬ n < 0 ∧ n.toNatClampNeg ≤ 60000 := by
  have h := of_decide_eq_true h
  refine ⟨Int32.not_lt.mpr h.1, ?_⟩
  have h2 := Int32.le_iff_toInt_le.mp h.2
  have : (60000 : Int32).toInt = 60000 := by decide
  rw [this] at h2
  show n.toInt.toNat ≤ 60000
  omega
theorem s_na21 (C : Cx G p R s m args meth c cc nL own h0 h') {n : Int32} (w1 : Cond.arrayClass .byte ∈ wb) (d : decode cc pc = .ok (.newarray .byte, 2)) {y : Nat → M ρ} (kk : ∀ a, Sm G Q p l e R s m args below meth c nL h0 r h' (pc + 2) lv (.ref a :: st) (y a)) : Sm G Q p l e R s m args below meth c nL h0 r h' pc lv (.int n :: st) (bd (na 21 n) y) := fun h H locs ls hR hL hn0 hs0 hl hz => by
  obtain ⟨hx, hb, hml, hown, hts, hSt, hlo, hRc, hRs⟩ := C
  obtain ⟨a, h1, e1, e2⟩ := bd_inv hz
  obtain ⟨e3, e4⟩ := md_inv e1
  cases e4
  obtain ⟨g1, g2⟩ := (y (hn h)).2 _ _ _ e2
  have g1 : hn h + 1 ≤ hn h' := g1
  have g2 : sl h + n.toNatClampNeg ≤ sl h' := g2
  obtain ⟨n1, n2⟩ := na_ok e3
  refine va_newaK (atype := .byte) hx hb (hts _ w1) rfl d rfl n1 rfl (by show n.toNatClampNeg * componentBytes .byte ≤ _; show n.toNatClampNeg * 1 ≤ _; omega) (by omega) (by omega) hR.1.symm (fun H1 cA q1 q2 q3 q4 q5 => ?_)
  have hcA : cA = gB G := Option.some.inj (q5.symm.trans (hSt.1.2 0 (gB G, .byte) rfl).2)
  subst hcA
  refine W.cs (cells' := hn (nA h 21 n.toNatClampNeg) - hn h0) (slots' := sl (nA h 21 n.toNatClampNeg) - sl h0) (by show _ = hn h + 1 - hn h0; omega) (by show _ = sl h + n.toNatClampNeg - sl h0; omega) ?_
  have nz : ∀ (f : Nat → Nat), va_up f (hn h) n.toNatClampNeg (hn h) = n.toNatClampNeg := fun f => if_pos rfl
  refine kk (hn h) (nA h 21 n.toNatClampNeg) H1 locs ls (hR.nw (k := 21) (by rw [q2, hR.1]) (fun q hq => q3 q (by rw [hR.1]; exact hq)) rfl rfl rfl (fun ci' b hb k' _ => rfl) (fun b hb => ⟨if_neg hb, if_neg hb, if_neg hb, if_neg hb⟩) (fun ci' hc' _ => by omega) (fun _ => ⟨fun j => ?_, ?_⟩) (fun h => by omega) (fun h => by omega) (fun h => by omega) (by omega)) hL (Nat.le_trans hn0 (Nat.le_succ _)) (Nat.le_trans hs0 (Nat.le_add_right _ _)) hl e2
  · show fits .byte (.int (va_up (ar h) (hn h) (fun _ => 0) (hn h) j)) = true
    rw [show va_up (ar h) (hn h) (fun _ => (0 : Int32)) (hn h) = fun _ => 0 from if_pos rfl]
    rfl
  · rw [q1]
    show _ = some (vp_cell (gB G) (va_up (ln h) (hn h) n.toNatClampNeg (hn h), .inl (va_up (ar h) (hn h) (fun _ => 0) (hn h))))
    rw [nz, show va_up (ar h) (hn h) (fun _ => 0) (hn h) = fun _ => 0 from if_pos rfl]
    rfl
theorem s_na22 (C : Cx G p R s m args meth c cc nL own h0 h') {n : Int32} (w1 : Cond.arrayClass .int ∈ wb) (d : decode cc pc = .ok (.newarray .int, 2)) {y : Nat → M ρ} (kk : ∀ a, Sm G Q p l e R s m args below meth c nL h0 r h' (pc + 2) lv (.ref a :: st) (y a)) : Sm G Q p l e R s m args below meth c nL h0 r h' pc lv (.int n :: st) (bd (na 22 n) y) := fun h H locs ls hR hL hn0 hs0 hl hz => by
  obtain ⟨hx, hb, hml, hown, hts, hSt, hlo, hRc, hRs⟩ := C
  obtain ⟨a, h1, e1, e2⟩ := bd_inv hz
  obtain ⟨e3, e4⟩ := md_inv e1
  cases e4
  obtain ⟨g1, g2⟩ := (y (hn h)).2 _ _ _ e2
  have g1 : hn h + 1 ≤ hn h' := g1
  have g2 : sl h + n.toNatClampNeg ≤ sl h' := g2
  obtain ⟨n1, n2⟩ := na_ok e3
  refine va_newaK (atype := .int) hx hb (hts _ w1) rfl d rfl n1 rfl (by show n.toNatClampNeg * componentBytes .int ≤ _; show n.toNatClampNeg * 4 ≤ _; omega) (by omega) (by omega) hR.1.symm (fun H1 cA q1 q2 q3 q4 q5 => ?_)
  have hcA : cA = gN G := Option.some.inj (q5.symm.trans (hSt.1.2 1 (gN G, .int) rfl).2)
  subst hcA
  refine W.cs (cells' := hn (nA h 22 n.toNatClampNeg) - hn h0) (slots' := sl (nA h 22 n.toNatClampNeg) - sl h0) (by show _ = hn h + 1 - hn h0; omega) (by show _ = sl h + n.toNatClampNeg - sl h0; omega) ?_
  have nz : ∀ (f : Nat → Nat), va_up f (hn h) n.toNatClampNeg (hn h) = n.toNatClampNeg := fun f => if_pos rfl
  refine kk (hn h) (nA h 22 n.toNatClampNeg) H1 locs ls (hR.nw (k := 22) (by rw [q2, hR.1]) (fun q hq => q3 q (by rw [hR.1]; exact hq)) rfl rfl rfl (fun ci' b hb k' _ => rfl) (fun b hb => ⟨if_neg hb, if_neg hb, if_neg hb, if_neg hb⟩) (fun ci' hc' _ => by omega) (fun h => by omega) (fun _ => ?_) (fun h => by omega) (fun h => by omega) (by omega)) hL (Nat.le_trans hn0 (Nat.le_succ _)) (Nat.le_trans hs0 (Nat.le_add_right _ _)) hl e2
  · rw [q1]
    show _ = some (vp_cell (gN G) (va_up (ln h) (hn h) n.toNatClampNeg (hn h), .inl (va_up (ar h) (hn h) (fun _ => 0) (hn h))))
    rw [nz, show va_up (ar h) (hn h) (fun _ => 0) (hn h) = fun _ => 0 from if_pos rfl]
    rfl
theorem s_na23 (C : Cx G p R s m args meth c cc nL own h0 h') {n : Int32} (w1 : Cond.arrayClass .long ∈ wb) (d : decode cc pc = .ok (.newarray .long, 2)) {y : Nat → M ρ} (kk : ∀ a, Sm G Q p l e R s m args below meth c nL h0 r h' (pc + 2) lv (.ref a :: st) (y a)) : Sm G Q p l e R s m args below meth c nL h0 r h' pc lv (.int n :: st) (bd (na 23 n) y) := fun h H locs ls hR hL hn0 hs0 hl hz => by
  obtain ⟨hx, hb, hml, hown, hts, hSt, hlo, hRc, hRs⟩ := C
  obtain ⟨a, h1, e1, e2⟩ := bd_inv hz
  obtain ⟨e3, e4⟩ := md_inv e1
  cases e4
  obtain ⟨g1, g2⟩ := (y (hn h)).2 _ _ _ e2
  have g1 : hn h + 1 ≤ hn h' := g1
  have g2 : sl h + n.toNatClampNeg ≤ sl h' := g2
  obtain ⟨n1, n2⟩ := na_ok e3
  refine va_newaK (atype := .long) hx hb (hts _ w1) rfl d rfl n1 rfl (by show n.toNatClampNeg * componentBytes .long ≤ _; show n.toNatClampNeg * 8 ≤ _; omega) (by omega) (by omega) hR.1.symm (fun H1 cA q1 q2 q3 q4 q5 => ?_)
  have hcA : cA = gL G := Option.some.inj (q5.symm.trans (hSt.1.2 2 (gL G, .long) rfl).2)
  subst hcA
  refine W.cs (cells' := hn (nA h 23 n.toNatClampNeg) - hn h0) (slots' := sl (nA h 23 n.toNatClampNeg) - sl h0) (by show _ = hn h + 1 - hn h0; omega) (by show _ = sl h + n.toNatClampNeg - sl h0; omega) ?_
  have nz : ∀ (f : Nat → Nat), va_up f (hn h) n.toNatClampNeg (hn h) = n.toNatClampNeg := fun f => if_pos rfl
  refine kk (hn h) (nA h 23 n.toNatClampNeg) H1 locs ls (hR.nw (k := 23) (by rw [q2, hR.1]) (fun q hq => q3 q (by rw [hR.1]; exact hq)) rfl rfl rfl (fun ci' b hb k' _ => rfl) (fun b hb => ⟨if_neg hb, if_neg hb, if_neg hb, if_neg hb⟩) (fun ci' hc' _ => by omega) (fun h => by omega) (fun h => by omega) (fun _ => ?_) (fun h => by omega) (by omega)) hL (Nat.le_trans hn0 (Nat.le_succ _)) (Nat.le_trans hs0 (Nat.le_add_right _ _)) hl e2
  · rw [q1]
    show _ = some (vp_cell (gL G) (va_up (ln h) (hn h) n.toNatClampNeg (hn h), .inr (.inl (va_up (la h) (hn h) (fun _ => 0) (hn h)))))
    rw [nz, show va_up (la h) (hn h) (fun _ => 0) (hn h) = fun _ => 0 from if_pos rfl]
    rfl
theorem s_na24 (C : Cx G p R s m args meth c cc nL own h0 h') {n : Int32} {index : Nat} (w1 : Cond.classLink own index "java/lang/Object" ∈ wb) (d : decode cc pc = .ok (.anewarray index, 3)) {y : Nat → M ρ} (kk : ∀ a, Sm G Q p l e R s m args below meth c nL h0 r h' (pc + 3) lv (.ref a :: st) (y a)) : Sm G Q p l e R s m args below meth c nL h0 r h' pc lv (.int n :: st) (bd (na 24 n) y) := fun h H locs ls hR hL hn0 hs0 hl hz => by
  obtain ⟨hx, hb, hml, hown, hts, hSt, hlo, hRc, hRs⟩ := C
  obtain ⟨a, h1, e1, e2⟩ := bd_inv hz
  obtain ⟨e3, e4⟩ := md_inv e1
  cases e4
  obtain ⟨g1, g2⟩ := (y (hn h)).2 _ _ _ e2
  have g1 : hn h + 1 ≤ hn h' := g1
  have g2 : sl h + n.toNatClampNeg ≤ sl h' := g2
  obtain ⟨n1, n2⟩ := na_ok e3
  refine W.anew hx hb hown (hts _ w1) (va_AO.use hSt.2.2.2.2.2.2.1) rfl d rfl n1 (by omega) (by omega) (by omega) (fun cA kA comp f1 f2 f3 f4 => ?_)
  obtain ⟨kA', comp', t1, t2, t3, t4⟩ := (hSt.1.2 3 (gO G, .object "java/lang/Object") rfl).2
  have hcA : cA = gO G := Option.some.inj (f1.symm.trans t4)
  subst hcA
  generalize hH1 : H.push ({ cls := gO G, slots := Array.replicate n.toNatClampNeg .null, vm := .none } : Cell) = H1
  have z1 : H1.size = H.size + 1 := by rw [← hH1, Array.size_push]
  have q1 : H1[H.size]? = some (arrV (gO G) n.toNatClampNeg (fun _ => .null)) := by rw [← hH1, Array.getElem?_push_size, ← arrV_new]
  have o1 : ∀ q : Nat, q < H.size → H1[q]? = H[q]? := fun q hq => by rw [← hH1, Array.getElem?_push, if_neg (Nat.ne_of_lt hq)]
  rw [← hR.1] at q1 ⊢
  refine W.cs (cells' := hn (nA h 24 n.toNatClampNeg) - hn h0) (slots' := sl (nA h 24 n.toNatClampNeg) - sl h0) (by show _ = hn h + 1 - hn h0; omega) (by show _ = sl h + n.toNatClampNeg - sl h0; omega) ?_
  have nz : ∀ (f : Nat → Nat), va_up f (hn h) n.toNatClampNeg (hn h) = n.toNatClampNeg := fun f => if_pos rfl
  have rz : va_up (ra h) (hn h) (fun _ => none) (hn h) = fun _ => none := if_pos rfl
  refine kk (hn h) (nA h 24 n.toNatClampNeg) H1 locs ls (hR.nw (k := 24) z1 o1 rfl rfl rfl (fun ci' b hb k' _ => rfl) (fun b hb => ⟨if_neg hb, if_neg hb, if_neg hb, if_neg hb⟩) (fun ci' hc' _ => by omega) (fun h => by omega) (fun h => by omega) (fun h => by omega) (fun _ => ⟨fun j q hq => ?_, ?_⟩) (by omega)) hL (Nat.le_trans hn0 (Nat.le_succ _)) (Nat.le_trans hs0 (Nat.le_add_right _ _)) hl e2
  · have hq : va_up (ra h) (hn h) (fun _ => none) (hn h) j = some q := hq
    rw [rz] at hq
    cases hq
  · rw [q1]
    show _ = some (vp_cell (gO G) (va_up (ln h) (hn h) n.toNatClampNeg (hn h), .inr (.inr (.inr (.inr (va_up (ra h) (hn h) (fun _ => none) (hn h)))))))
    rw [nz, rz]
    rfl
theorem s_al21 (C : Cx G p R s m args meth c cc nL own h0 h') {a : Nat} {i : Int32} (d : decode cc pc = .ok (.baload, 1)) {y : Int32 → M ρ} (kk : ∀ x, Sm G Q p l e R s m args below meth c nL h0 r h' (pc + 1) lv (.int x :: st) (y x)) : Sm G Q p l e R s m args below meth c nL h0 r h' pc lv (.int i :: .ref a :: st) (bd (al 21 a i) y) := fun h H locs ls hR hL hn0 hs0 hl hz => by
  obtain ⟨hx, hb, hml, hown, hts, hSt, hlo, hRc, hRs⟩ := C
  obtain ⟨v, h1, e1, e2⟩ := bd_inv hz
  obtain ⟨e3, e4⟩ := rd_inv e1
  subst e4
  split at e3
  · rename_i hc
    cases e3
    obtain ⟨g0, g2, g3⟩ := hR.2.2.2.2.1 a hc.1
    have hin := inx_in hc.2
    have hlt : i.toNatClampNeg < ln h1 a := Nat.not_le.mp fun q => hin (Or.inr q)
    exact W.bald (v := .int (ar h1 a i.toNatClampNeg)) hx hb g3 ((hSt.1.2 0 (gB G, .byte) rfl).1 (ln h1 a) (fun j => .int (ar h1 a j))) (fun q => by cases q) (by show ¬ (i < 0 ∨ (arrV _ _ _).slots.size ≤ _); rw [arrV_size]; exact hin) (by show (arrV _ _ _).slots[_]? = _; rw [arrV_read _ _ hlt]) rfl rfl d (kk _ h1 H locs ls hR hL hn0 hs0 hl e2)
  · cases e3
theorem s_as21 (C : Cx G p R s m args meth c cc nL own h0 h') {a : Nat} {i x : Int32} (d : decode cc pc = .ok (.bastore, 1)) {y : Unit → M ρ} (kk : Sm G Q p l e R s m args below meth c nL h0 r h' (pc + 1) lv st (y ())) : Sm G Q p l e R s m args below meth c nL h0 r h' pc lv (.int x :: .int i :: .ref a :: st) (bd (as 21 a i x) y) := fun h H locs ls hR hL hn0 hs0 hl hz => by
  obtain ⟨hx, hb, hml, hown, hts, hSt, hlo, hRc, hRs⟩ := C
  obtain ⟨u, h1, e1, e2⟩ := bd_inv hz
  obtain ⟨e3, e4⟩ := md_inv e1
  cases e4
  simp only [Bool.and_eq_true, beq_iff_eq] at e3
  obtain ⟨g0, g2, g3⟩ := hR.2.2.2.2.1 a e3.1
  have hin := inx_in e3.2
  refine W.bast hx hb g3 ((hSt.1.2 0 (gB G, .byte) rfl).1 (ln h a) (fun j => .int (ar h a j))) (fun q => by cases q) (by show ¬ (i < 0 ∨ (arrV _ _ _).slots.size ≤ _); rw [arrV_size]; exact hin) rfl rfl d (fun H1 e z oq => ?_)
  have hself : ∀ v, u2 (ar h) a i.toNatClampNeg v a = upd (ar h a) i.toNatClampNeg v := fun v => by
    funext j
    show (if a = a ∧ j = i.toNatClampNeg then v else ar h a j) = (if j = i.toNatClampNeg then v else ar h a j)
    by_cases hj : j = i.toNatClampNeg
    · rw [if_pos hj, if_pos ⟨rfl, hj⟩]
    · rw [if_neg hj, if_neg (fun q => hj q.2)]
  have hoth : ∀ (b : Nat) v, b ≠ a → u2 (ar h) a i.toNatClampNeg v b = ar h b := fun b v hb => by
    funext j
    exact if_neg (fun q => hb q.1)
  refine kk (sA h a i.toNatClampNeg (if 21 = 21 then x.toInt8.toInt32 else x)) H1 _ ls (hR.wr g0 z oq rfl rfl rfl (fun ci' b hb k' _ => rfl) (fun b hb => ⟨rfl, hoth b _ hb, rfl, rfl⟩) (fun ci' hc' _ => by omega) (fun _ => ⟨fun j => ?_, ?_⟩) (fun h => by omega) (fun h => by omega) (fun h => by omega)) (fun q hq => ?_) hn0 hs0 hl e2
  · show fits .byte (.int (u2 (ar h) a i.toNatClampNeg _ a j)) = true
    rw [hself]
    by_cases hj : j = i.toNatClampNeg
    · rw [show upd (ar h a) i.toNatClampNeg (if 21 = 21 then x.toInt8.toInt32 else x) j = x.toInt8.toInt32 by subst hj; simp [upd]]
      exact pk_fb x
    · rw [show upd (ar h a) i.toNatClampNeg (if 21 = 21 then x.toInt8.toInt32 else x) j = ar h a j from if_neg hj]
      exact g2 j
  · rw [e]
    show _ = some (vp_cell _ (ln h a, .inl (u2 (ar h) a i.toNatClampNeg _ a)))
    rw [hself, vp_cell_i, vp_cell_i, arrV_store]
    congr 2
    funext q
    by_cases hq : q = i.toNatClampNeg
    · subst hq
      simp [updV, upd, narrow]
    · simp [updV, upd, hq]
  · rcases List.mem_append.mp hq with h1 | h1
    · exact hL q h1
    · rw [List.mem_singleton.mp h1]; exact g0
theorem s_al22 (C : Cx G p R s m args meth c cc nL own h0 h') {a : Nat} {i : Int32} (d : decode cc pc = .ok (.iaload, 1)) {y : Int32 → M ρ} (kk : ∀ x, Sm G Q p l e R s m args below meth c nL h0 r h' (pc + 1) lv (.int x :: st) (y x)) : Sm G Q p l e R s m args below meth c nL h0 r h' pc lv (.int i :: .ref a :: st) (bd (al 22 a i) y) := fun h H locs ls hR hL hn0 hs0 hl hz => by
  obtain ⟨hx, hb, hml, hown, hts, hSt, hlo, hRc, hRs⟩ := C
  obtain ⟨v, h1, e1, e2⟩ := bd_inv hz
  obtain ⟨e3, e4⟩ := rd_inv e1
  subst e4
  split at e3
  · rename_i hc
    cases e3
    obtain ⟨g0, g3⟩ := hR.2.2.2.2.2.1 a hc.1
    have hin := inx_in hc.2
    have hlt : i.toNatClampNeg < ln h1 a := Nat.not_le.mp fun q => hin (Or.inr q)
    exact W.iald (v := .int (ar h1 a i.toNatClampNeg)) hx hb g3 ((hSt.1.2 1 (gN G, .int) rfl).1 (ln h1 a) (fun j => .int (ar h1 a j))) (fun q => by cases q) (by show ¬ (i < 0 ∨ (arrV _ _ _).slots.size ≤ _); rw [arrV_size]; exact hin) (by show (arrV _ _ _).slots[_]? = _; rw [arrV_read _ _ hlt]) rfl rfl d (kk _ h1 H locs ls hR hL hn0 hs0 hl e2)
  · cases e3
theorem s_as22 (C : Cx G p R s m args meth c cc nL own h0 h') {a : Nat} {i x : Int32} (d : decode cc pc = .ok (.iastore, 1)) {y : Unit → M ρ} (kk : Sm G Q p l e R s m args below meth c nL h0 r h' (pc + 1) lv st (y ())) : Sm G Q p l e R s m args below meth c nL h0 r h' pc lv (.int x :: .int i :: .ref a :: st) (bd (as 22 a i x) y) := fun h H locs ls hR hL hn0 hs0 hl hz => by
  obtain ⟨hx, hb, hml, hown, hts, hSt, hlo, hRc, hRs⟩ := C
  obtain ⟨u, h1, e1, e2⟩ := bd_inv hz
  obtain ⟨e3, e4⟩ := md_inv e1
  cases e4
  simp only [Bool.and_eq_true, beq_iff_eq] at e3
  obtain ⟨g0, g3⟩ := hR.2.2.2.2.2.1 a e3.1
  have hin := inx_in e3.2
  refine W.iast hx hb g3 ((hSt.1.2 1 (gN G, .int) rfl).1 (ln h a) (fun j => .int (ar h a j))) (fun q => by cases q) (by show ¬ (i < 0 ∨ (arrV _ _ _).slots.size ≤ _); rw [arrV_size]; exact hin) rfl rfl d (fun H1 e z oq => ?_)
  have hself : ∀ v, u2 (ar h) a i.toNatClampNeg v a = upd (ar h a) i.toNatClampNeg v := fun v => by
    funext j
    show (if a = a ∧ j = i.toNatClampNeg then v else ar h a j) = (if j = i.toNatClampNeg then v else ar h a j)
    by_cases hj : j = i.toNatClampNeg
    · rw [if_pos hj, if_pos ⟨rfl, hj⟩]
    · rw [if_neg hj, if_neg (fun q => hj q.2)]
  have hoth : ∀ (b : Nat) v, b ≠ a → u2 (ar h) a i.toNatClampNeg v b = ar h b := fun b v hb => by
    funext j
    exact if_neg (fun q => hb q.1)
  refine kk (sA h a i.toNatClampNeg (if 22 = 21 then x.toInt8.toInt32 else x)) H1 _ ls (hR.wr g0 z oq rfl rfl rfl (fun ci' b hb k' _ => rfl) (fun b hb => ⟨rfl, hoth b _ hb, rfl, rfl⟩) (fun ci' hc' _ => by omega) (fun h => by omega) (fun _ => ?_) (fun h => by omega) (fun h => by omega)) (fun q hq => ?_) hn0 hs0 hl e2
  · rw [e]
    show _ = some (vp_cell _ (ln h a, .inl (u2 (ar h) a i.toNatClampNeg _ a)))
    rw [hself, vp_cell_i, vp_cell_i, arrV_store]
    congr 2
    funext q
    by_cases hq : q = i.toNatClampNeg
    · subst hq
      simp [updV, upd]
    · simp [updV, upd, hq]
  · rcases List.mem_append.mp hq with h1 | h1
    · exact hL q h1
    · rw [List.mem_singleton.mp h1]; exact g0
theorem s_ao (C : Cx G p R s m args meth c cc nL own h0 h') {a : Nat} {i : Int32} (d : decode cc pc = .ok (.aaload, 1)) {y : Nat → M ρ} (kk : ∀ x, Sm G Q p l e R s m args below meth c nL h0 r h' (pc + 1) lv (.ref x :: st) (y x)) : Sm G Q p l e R s m args below meth c nL h0 r h' pc lv (.int i :: .ref a :: st) (bd (ao a i) y) := fun h H locs ls hR hL hn0 hs0 hl hz => by
  obtain ⟨hx, hb, hml, hown, hts, hSt, hlo, hRc, hRs⟩ := C
  obtain ⟨v, h1, e1, e2⟩ := bd_inv hz
  obtain ⟨e3, e4⟩ := rd_inv e1
  subst e4
  split at e3
  · rename_i hc
    obtain ⟨g0, g2, g3⟩ := hR.2.2.2.2.2.2.2.1 a hc.1
    have hin := inx_in hc.2
    have hlt : i.toNatClampNeg < ln h1 a := Nat.not_le.mp fun q => hin (Or.inr q)
    refine W.aald (v := va_rf (ra h1 a i.toNatClampNeg)) (ty := .object "java/lang/Object") hx hb g3 ((hSt.1.2 3 (gO G, .object "java/lang/Object") rfl).1 (ln h1 a) (fun j => va_rf (ra h1 a j))) rfl (fun q => by cases q) (by show ¬ (i < 0 ∨ (arrV _ _ _).slots.size ≤ _); rw [arrV_size]; exact hin) (by show (arrV _ _ _).slots[_]? = _; rw [arrV_read _ _ hlt]) rfl rfl d ?_
    rw [e3]
    exact kk v h1 H locs ls hR hL hn0 hs0 hl e2
  · cases e3
theorem s_ay (C : Cx G p R s m args meth c cc nL own h0 h') {a : Nat} (d : decode cc pc = .ok (.arraylength, 1)) {y : Int32 → M ρ} (kk : ∀ x, Sm G Q p l e R s m args below meth c nL h0 r h' (pc + 1) lv (.int x :: st) (y x)) : Sm G Q p l e R s m args below meth c nL h0 r h' pc lv (.ref a :: st) (bd (ay a) y) := fun h H locs ls hR hL hn0 hs0 hl hz => by
  obtain ⟨hx, hb, hml, hown, hts, hSt, hlo, hRc, hRs⟩ := C
  obtain ⟨v, h1, e1, e2⟩ := bd_inv hz
  obtain ⟨e3, e4⟩ := rd_inv e1
  subst e4
  split at e3
  · rename_i hc
    cases e3
    have ha := hR.2.2.2.2.2.2.2.2.1 a hc
    subst ha
    obtain ⟨cell, t1, t2, t3, t4, t5, t6, t7⟩ := hSt.2.2.2.2.1
    have hlt : gE G < (gH G).size := Nat.not_le.mp t7
    exact W.alen (n := 0) hx hb (by rw [hR.2.2.1 _ hlt]; exact t1) t2 t5 rfl rfl d (kk _ h1 H locs ls hR hL hn0 hs0 hl e2)
  · split at e3
    · rename_i hc
      cases e3
      have hk : kd h1 a = 21 ∨ kd h1 a = 22 ∨ kd h1 a = 23 ∨ kd h1 a = 24 := by omega
      rcases hk with hk | hk | hk | hk
      · exact W.alen (n := nI (ln h1 a)) hx hb (hR.2.2.2.2.1 a hk).2.2 ((hSt.1.2 0 (gB G, .byte) rfl).1 (ln h1 a) (fun j => .int (ar h1 a j))) (by rw [vp_cell_i, arrV_size]; rfl) rfl rfl d (kk _ h1 H locs ls hR hL hn0 hs0 hl e2)
      · exact W.alen (n := nI (ln h1 a)) hx hb (hR.2.2.2.2.2.1 a hk).2 ((hSt.1.2 1 (gN G, .int) rfl).1 (ln h1 a) (fun j => .int (ar h1 a j))) (by rw [vp_cell_i, arrV_size]; rfl) rfl rfl d (kk _ h1 H locs ls hR hL hn0 hs0 hl e2)
      · exact W.alen (n := nI (ln h1 a)) hx hb (hR.2.2.2.2.2.2.1 a hk).2 ((hSt.1.2 2 (gL G, .long) rfl).1 (ln h1 a) (fun j => .long (la h1 a j))) (by rw [vp_cell_l, arrV_size]; rfl) rfl rfl d (kk _ h1 H locs ls hR hL hn0 hs0 hl e2)
      · exact W.alen (n := nI (ln h1 a)) hx hb (hR.2.2.2.2.2.2.2.1 a hk).2.2 ((hSt.1.2 3 (gO G, .object "java/lang/Object") rfl).1 (ln h1 a) (fun j => va_rf (ra h1 a j))) (by rw [vp_cell_q, arrV_size]; rfl) rfl rfl d (kk _ h1 H locs ls hR hL hn0 hs0 hl e2)
    · cases e3
end HA
