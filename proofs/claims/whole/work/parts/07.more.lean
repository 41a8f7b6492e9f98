section HC
variable {ρ α : Type} {G : Gx} {Q : State → Prop} {p : Program} {l : Launch} {e : Env} {R : Room} {s : State} {m : MethodId} {args : Array Value} {below : List Frame} {meth : Method} {c : Code} {cc : ByteArray} {nL : Nat} {own : String} {h0 : Hp} {r : ρ} {h' : Hp} {pc : Nat} {lv lv' : List (Nat × Value)} {st : List Value} {z z1 z2 : M ρ}
/-- an arrival, a file, a directory row may be stored in a row of objects -/
theorem any_of {h : Hp} {H : Heap} {y : Nat} (hSt : St G s) (hR : Rz G h H) (hk : okK (kd h y)) : va_Any "java/lang/Object" s H y := by
  obtain ⟨ci, hci, hlt⟩ : ∃ ci, kd h y = ci + 1 ∧ ci < 13 := by
    rcases hk with q | q | q
    · exact ⟨3, q, by omega⟩
    · exact ⟨7, q, by omega⟩
    · exact ⟨10, q, by omega⟩
  obtain ⟨-, cell, q1, q2, q3, -⟩ := hR.2.2.2.1 y ci hci hlt
  have hex : ∃ w : vw_C, vwCl[ci]? = some w := by
    rcases hk with q | q | q
    · rw [hci] at q; cases q; exact ⟨_, rfl⟩
    · rw [hci] at q; cases q; exact ⟨_, rfl⟩
    · rw [hci] at q; cases q; exact ⟨_, rfl⟩
  obtain ⟨w, hw⟩ := hex
  obtain ⟨-, hfc, kC, hkC, -⟩ := hSt.1.1 ci w hw
  rw [hci] at hk
  exact ⟨cell, q1, by rw [q3]; rfl, ⟨kC, by rw [q2]; exact hkC⟩, fun comp hf => by rw [q2]; exact hSt.2.2.2.2.2.2.2.1 ci hk comp hf⟩
theorem s_az (C : Cx G p R s m args meth c cc nL own h0 h') {a : Nat} {i : Int32} {x : Option Nat} (d : decode cc pc = .ok (.aastore, 1)) {y : Unit → M ρ} (kk : Sm G Q p l e R s m args below meth c nL h0 r h' (pc + 1) lv st (y ())) : Sm G Q p l e R s m args below meth c nL h0 r h' pc lv (va_rf x :: .int i :: .ref a :: st) (bd (az a i x) y) := fun h H locs ls hR hL hn0 hs0 hl hz => by
  obtain ⟨hx, hb, hml, hown, hts, hSt, hlo, hRc, hRs⟩ := C
  obtain ⟨u, h1, e1, e2⟩ := bd_inv hz
  obtain ⟨e3, e4⟩ := md_inv e1
  cases e4
  simp only [Bool.and_eq_true, beq_iff_eq] at e3
  obtain ⟨⟨e3, e5⟩, e6⟩ := e3
  obtain ⟨g0, g2, g3⟩ := hR.2.2.2.2.2.2.2.1 a e3
  have hin := inx_in e5
  have hlt : i.toNatClampNeg < ln h a := Nat.not_le.mp fun q => hin (Or.inr q)
  have hi0 : ¬ i < 0 := fun q => hin (Or.inl q)
  have hself : u2 (ra h) a i.toNatClampNeg x a = va_up (ra h a) i.toNatClampNeg x := by
    funext j
    show (if a = a ∧ j = i.toNatClampNeg then x else ra h a j) = (if j = i.toNatClampNeg then x else ra h a j)
    by_cases hj : j = i.toNatClampNeg
    · rw [if_pos hj, if_pos ⟨rfl, hj⟩]
    · rw [if_neg hj, if_neg (fun q => hj q.2)]
  have hoth : ∀ b : Nat, b ≠ a → u2 (ra h) a i.toNatClampNeg x b = ra h b := fun b hb => by
    funext j
    exact if_neg (fun q => hb q.1)
  have fin : ∀ H1 : Heap, H1[a]? = some ((vp_cell (gO G) (ln h a, .inr (.inr (.inr (.inr (ra h a)))))).setSlot i.toNatClampNeg (va_rf x)) → H1.size = H.size → (∀ q, q ≠ a → H1[q]? = H[q]?) → W p l e R s m args below meth c H1 (locs ++ [⟨a, i.toNatClampNeg⟩]) (hn h - hn h0) (sl h - sl h0) Q (F0 m (pc + 1) ls st) := by
    intro H1 e z oq
    refine kk (sO h a i.toNatClampNeg x) H1 _ ls (hR.wr g0 z oq rfl rfl rfl (fun ci' b hb k' _ => rfl) (fun b hb => ⟨rfl, rfl, rfl, hoth b hb⟩) (fun ci' hc' _ => by omega) (fun h => by omega) (fun h => by omega) (fun h => by omega) (fun _ => ⟨fun j q hq => ?_, ?_⟩)) (fun q hq => ?_) hn0 hs0 hl e2
    · have hq : u2 (ra h) a i.toNatClampNeg x a j = some q := hq
      rw [hself] at hq
      show okK (kd h q)
      by_cases hj : j = i.toNatClampNeg
      · rw [show va_up (ra h a) i.toNatClampNeg x j = x from if_pos hj] at hq
        subst hq
        have e6 : (kd h q == 4 || kd h q == 8 || kd h q == 11) = true := e6
        simp only [Bool.or_eq_true, beq_iff_eq] at e6
        rcases e6 with (e6 | e6) | e6
        · exact Or.inl e6
        · exact Or.inr (Or.inl e6)
        · exact Or.inr (Or.inr e6)
      · rw [show va_up (ra h a) i.toNatClampNeg x j = ra h a j from if_neg hj] at hq
        exact g2 j q hq
    · rw [e]
      show _ = some (vp_cell _ (ln h a, .inr (.inr (.inr (.inr (u2 (ra h) a i.toNatClampNeg x a))))))
      rw [hself, vp_cell_q, vp_cell_q, arrV_store]
      congr 2
      funext q
      by_cases hq : q = i.toNatClampNeg
      · subst hq
        simp [updV, va_up]
      · simp [updV, va_up, hq]
    · rcases List.mem_append.mp hq with h1 | h1
      · exact hL q h1
      · rw [List.mem_singleton.mp h1]; exact g0
  cases x with
  | none => exact va_WaastN (C := "java/lang/Object") hx hb g3 ((hSt.1.2 3 (gO G, .object "java/lang/Object") rfl).1 (ln h a) (fun j => va_rf (ra h a j))) (fun h => by cases h) (by show ¬ (i < 0 ∨ (arrV _ _ _).slots.size ≤ _); rw [arrV_size]; exact hin) rfl rfl d fin
  | some v =>
    have hv : okK (kd h v) := by
      have e6 : (kd h v == 4 || kd h v == 8 || kd h v == 11) = true := e6
      simp only [Bool.or_eq_true, beq_iff_eq] at e6
      rcases e6 with (e6 | e6) | e6
      · exact Or.inl e6
      · exact Or.inr (Or.inl e6)
      · exact Or.inr (Or.inr e6)
    obtain ⟨cellV, v1, v3, ⟨kC, hkC⟩, hasg⟩ := any_of hSt hR hv
    obtain ⟨kA, comp, t1, t2, t3, -⟩ := (hSt.1.2 3 (gO G, .object "java/lang/Object") rfl).2
    obtain ⟨kE, hkE, -⟩ := Vm.findClass_spec t3
    exact W.aast hx hb g3 (fun q h => by cases h) (fun h => by cases h) t1 t2 rfl hkE ⟨hi0, by show _ < (arrV _ _ _).slots.size; rw [arrV_size]; exact hlt⟩ v1 (fun q h => by rw [h] at v3; cases v3) hkC (hasg _ t3) rfl rfl d fin
theorem cpok_spec {h : Hp} {k a b : Nat} {i j n : Int32} (e : cpok h k a i b j n = true) : kd h a = k ∧ kd h b = k ∧ ¬ i < 0 ∧ ¬ j < 0 ∧ ¬ n < 0 ∧ i.toNatClampNeg + n.toNatClampNeg ≤ ln h a ∧ j.toNatClampNeg + n.toNatClampNeg ≤ ln h b := by
  unfold cpok at e
  simp only [Bool.and_eq_true, beq_iff_eq, decide_eq_true_eq] at e
  obtain ⟨⟨e1, e2⟩, e3, e4, e5, e6, e7⟩ := e
  exact ⟨e1, e2, Int32.not_lt.mpr e3, Int32.not_lt.mpr e4, Int32.not_lt.mpr e5, e6, e7⟩
theorem i32_nn (z : Int32) (hz : ¬ z < 0) : z.toInt = (z.toNatClampNeg : Int) := by
  have hz0 : (0 : Int) ≤ z.toInt := by
    have := Int32.not_lt.mp hz
    simpa using Int32.le_iff_toInt_le.mp this
  show z.toInt = ((z.toInt.toNat : Nat) : Int)
  omega
theorem s_cb (C : Cx G p R s m args meth c cc nL own h0 h') {a b index : Nat} {i j n : Int32} (w1 : Cond.methodLink own index arraycopyName ∈ wb) (w2 : Cond.native arraycopyName ∈ wb) (w3 : Cond.static arraycopyName ∈ wb) (w4 : Cond.initialized "java/lang/System" ∈ wb) (hf : 1 ≤ R.frames) (hlc : (st.map fun v => v.category).sum + (nativeFrameWords "java/lang/System" "arraycopy" 5 + 11) ≤ R.locals) (d : decode cc pc = .ok (.invokestatic index, 3)) {y : Unit → M ρ} (kk : Sm G Q p l e R s m args below meth c nL h0 r h' (pc + 3) lv st (y ())) : Sm G Q p l e R s m args below meth c nL h0 r h' pc lv (.int n :: .int j :: .ref b :: .int i :: .ref a :: st) (bd (cb a i b j n) y) := fun h H locs ls hR hL hn0 hs0 hl hz => by
  obtain ⟨hx, hb, hml, hown, hts, hSt, hlo, hRc, hRs⟩ := C
  obtain ⟨u, h1, e1, e2⟩ := bd_inv hz
  obtain ⟨e3, e4⟩ := md_inv e1
  cases e4
  obtain ⟨ka, kb, i0, j0, n0, o1, o2⟩ := cpok_spec e3
  obtain ⟨a1, a2, hc0⟩ := hR.2.2.2.2.1 a ka
  obtain ⟨b1, b2, hc1⟩ := hR.2.2.2.2.1 b kb
  intro T hT X
  obtain ⟨-, k0, hk0, cm0, hkk0⟩ := (hSt.1.2 0 (gB G, .byte) rfl).1 (ln h a) (fun j => .int (ar h a j))
  obtain ⟨-, k1, hk1, cm1, hkk1⟩ := (hSt.1.2 0 (gB G, .byte) rfl).1 (ln h b) (fun j => .int (ar h b j))
  obtain ⟨vm', X', step⟩ := X.arraycopy hx hown (hts _ w1) (hts _ w2) (hts _ w3) (hts _ w4) (src := a) (dst := b) (cs := vp_cell (gB G) (ln h a, .inl (ar h a))) (cd := vp_cell (gB G) (ln h b, .inl (ar h b))) (srcPos := i) (destPos := j) (n := n) (by rw [hT]; exact hc0) (by rw [hT]; exact hc1)
    (fun _ h => by cases h) (fun _ h => by cases h) (fun h => by cases h) (fun h => by cases h) hk0 hk1 hkk0 hkk1 (by simp [show refKind .byte = false from rfl]) i0 j0 n0
    (by rw [i32_nn i i0, i32_nn n n0]; show ¬ _ > ((arrV (gB G) (ln h a) (fun j => .int (ar h a j))).slots.size : Int); rw [arrV_size]; omega)
    (by rw [i32_nn j j0, i32_nn n n0]; show ¬ _ > ((arrV (gB G) (ln h b) (fun j => .int (ar h b j))).slots.size : Int); rw [arrV_size]; omega)
    (fun vm₁ _ q hq => by
      have e : (vp_cell (gB G) (ln h a, .inl (ar h a))).slots.getD (i.toNatClampNeg + q) .null = .int (ar h a (i.toNatClampNeg + q)) := by
        show (arrV (gB G) (ln h a) (fun j => .int (ar h a j))).slots.getD _ _ = _
        rw [Array.getD_eq_getD_getElem?, arrV_read _ _ (by omega)]
        rfl
      refine ⟨?_, ?_⟩
      · rw [e]
        exact a2 _
      · rw [e]
        exact trivial)
    (g := F0 m pc ls (.int n :: .int j :: .ref b :: .int i :: .ref a :: st)) rfl (by rw [hml]; exact hl.1) (rest := st) rfl (by rw [hb]; exact d) hf (by show 2 * 0 + _ + _ ≤ _; omega)
  have q1 : copied (vp_cell (gB G) (ln h a, .inl (ar h a))) (vp_cell (gB G) (ln h b, .inl (ar h b))) i j n = vp_cell (gB G) (ln h b, .inl (va_cpy (ar h a) (ar h b) i.toNatClampNeg j.toNatClampNeg n.toNatClampNeg)) := by
    rw [vp_cell_i, vp_cell_i, vp_cell_i]
    exact va_copied (fun z => Value.int z) (gB G) (gB G) (ar h a) (ar h b) o1
  rw [q1] at X' step
  have hlb : b < H.size := (Array.getElem?_eq_some_iff.mp hc1).1
  have hheap : ((T.setVm vm').setCell b (vp_cell (gB G) (ln h b, .inl (va_cpy (ar h a) (ar h b) i.toNatClampNeg j.toNatClampNeg n.toNatClampNeg)))).heap = H.setIfInBounds b (vp_cell (gB G) (ln h b, .inl (va_cpy (ar h a) (ar h b) i.toNatClampNeg j.toNatClampNeg n.toNatClampNeg))) := by rw [← hT]; rfl
  have oq : ∀ q : Nat, q ≠ b → (H.setIfInBounds b (vp_cell (gB G) (ln h b, .inl (va_cpy (ar h a) (ar h b) i.toNatClampNeg j.toNatClampNeg n.toNatClampNeg))))[q]? = H[q]? := fun q hq => by simp [Array.getElem?_setIfInBounds, Ne.symm hq]
  have hself : va_up (ar h) b (va_cpy (ar h a) (ar h b) i.toNatClampNeg j.toNatClampNeg n.toNatClampNeg) b = va_cpy (ar h a) (ar h b) i.toNatClampNeg j.toNatClampNeg n.toNatClampNeg := if_pos rfl
  have hnew : (H.setIfInBounds b (vp_cell (gB G) (ln h b, .inl (va_cpy (ar h a) (ar h b) i.toNatClampNeg j.toNatClampNeg n.toNatClampNeg))))[b]? = some (vp_cell (gB G) (ln h b, .inl (va_up (ar h) b (va_cpy (ar h a) (ar h b) i.toNatClampNeg j.toNatClampNeg n.toNatClampNeg) b))) := by
    rw [hself]
    simp [Array.getElem?_setIfInBounds, hlb]
  obtain ⟨t, t1, t2⟩ := kk (sR h b (va_cpy (ar h a) (ar h b) i.toNatClampNeg j.toNatClampNeg n.toNatClampNeg)) (H.setIfInBounds b (vp_cell (gB G) (ln h b, .inl (va_cpy (ar h a) (ar h b) i.toNatClampNeg j.toNatClampNeg n.toNatClampNeg)))) _ ls (hR.wr b1 (by simp) oq rfl rfl rfl (fun ci' b' hb k' _ => rfl) (fun b' hb => ⟨rfl, if_neg hb, rfl, rfl⟩) (fun ci' hc' _ => by omega) (fun _ => ⟨fun j' => by
      show fits .byte (.int (va_up (ar h) b (va_cpy (ar h a) (ar h b) i.toNatClampNeg j.toNatClampNeg n.toNatClampNeg) b j')) = true
      rw [show va_up (ar h) b (va_cpy (ar h a) (ar h b) i.toNatClampNeg j.toNatClampNeg n.toNatClampNeg) b = va_cpy (ar h a) (ar h b) i.toNatClampNeg j.toNatClampNeg n.toNatClampNeg from if_pos rfl]
      unfold va_cpy
      split
      · exact a2 _
      · exact b2 _, hnew⟩) (fun h => by omega) (fun h => by omega) (fun h => by omega)) (fun q hq => by rcases List.mem_append.mp hq with h | h; exact hL q h; obtain ⟨z, -, hz⟩ := List.mem_map.mp h; rw [← hz]; exact b1) hn0 hs0 hl e2 _ hheap X'
  exact ⟨t, step t t1, t2⟩
theorem s_cr (C : Cx G p R s m args meth c cc nL own h0 h') {a b index : Nat} {i j n : Int32} (w1 : Cond.methodLink own index arraycopyName ∈ wb) (w2 : Cond.native arraycopyName ∈ wb) (w3 : Cond.static arraycopyName ∈ wb) (w4 : Cond.initialized "java/lang/System" ∈ wb) (hf : 1 ≤ R.frames) (hlc : (st.map fun v => v.category).sum + (nativeFrameWords "java/lang/System" "arraycopy" 5 + 11) ≤ R.locals) (d : decode cc pc = .ok (.invokestatic index, 3)) {y : Unit → M ρ} (kk : Sm G Q p l e R s m args below meth c nL h0 r h' (pc + 3) lv st (y ())) : Sm G Q p l e R s m args below meth c nL h0 r h' pc lv (.int n :: .int j :: .ref b :: .int i :: .ref a :: st) (bd (cr a i b j n) y) := fun h H locs ls hR hL hn0 hs0 hl hz => by
  obtain ⟨hx, hb, hml, hown, hts, hSt, hlo, hRc, hRs⟩ := C
  obtain ⟨u, h1, e1, e2⟩ := bd_inv hz
  obtain ⟨e3, e4⟩ := md_inv e1
  cases e4
  obtain ⟨ka, kb, i0, j0, n0, o1, o2⟩ := cpok_spec e3
  obtain ⟨a1, a2, hc0⟩ := hR.2.2.2.2.2.2.2.1 a ka
  obtain ⟨b1, b2, hc1⟩ := hR.2.2.2.2.2.2.2.1 b kb
  intro T hT X
  obtain ⟨-, k0, hk0, cm0, hkk0⟩ := (hSt.1.2 3 (gO G, (.object "java/lang/Object")) rfl).1 (ln h a) (fun j => va_rf (ra h a j))
  obtain ⟨-, k1, hk1, cm1, hkk1⟩ := (hSt.1.2 3 (gO G, (.object "java/lang/Object")) rfl).1 (ln h b) (fun j => va_rf (ra h b j))
  obtain ⟨vm', X', step⟩ := X.arraycopy hx hown (hts _ w1) (hts _ w2) (hts _ w3) (hts _ w4) (src := a) (dst := b) (cs := vp_cell (gO G) (ln h a, .inr (.inr (.inr (.inr (ra h a)))))) (cd := vp_cell (gO G) (ln h b, .inr (.inr (.inr (.inr (ra h b)))))) (srcPos := i) (destPos := j) (n := n) (by rw [hT]; exact hc0) (by rw [hT]; exact hc1)
    (fun _ h => by cases h) (fun _ h => by cases h) (fun h => by cases h) (fun h => by cases h) hk0 hk1 hkk0 hkk1 rfl i0 j0 n0
    (by rw [i32_nn i i0, i32_nn n n0]; show ¬ _ > ((arrV (gO G) (ln h a) (fun j => va_rf (ra h a j))).slots.size : Int); rw [arrV_size]; omega)
    (by rw [i32_nn j j0, i32_nn n n0]; show ¬ _ > ((arrV (gO G) (ln h b) (fun j => va_rf (ra h b j))).slots.size : Int); rw [arrV_size]; omega)
    (fun vm₁ hal q hq => by
      have e : (vp_cell (gO G) (ln h a, .inr (.inr (.inr (.inr (ra h a)))))).slots.getD (i.toNatClampNeg + q) .null = va_rf (ra h a (i.toNatClampNeg + q)) := by
        show (arrV (gO G) (ln h a) (fun j => va_rf (ra h a j))).slots.getD _ _ = _
        rw [Array.getD_eq_getD_getElem?, arrV_read _ _ (by omega)]
        rfl
      rw [e]
      cases hy : ra h a (i.toNatClampNeg + q) with
      | none => exact ⟨rfl, trivial⟩
      | some y =>
        obtain ⟨cellV, v1, v2, ⟨kC, hkC⟩, hasg⟩ := any_of hSt hR (a2 _ y hy)
        obtain ⟨kA, comp, r1, r2, r3, -⟩ := (hSt.1.2 3 (gO G, .object "java/lang/Object") rfl).2
        cases hk1.symm.trans r1
        cases hkk1.symm.trans r2
        obtain ⟨kE, hkE, -⟩ := Vm.findClass_spec r3
        obtain ⟨kC', hkC', -⟩ := hal.2.2 _ _ hkC
        obtain ⟨kE', hkE', -⟩ := hal.2.2 _ _ hkE
        refine ⟨rfl, cellV, (show T.heap[y]? = some cellV by rw [hT]; exact v1), (fun q h => by rw [h] at v2; cases v2), ⟨kC', hkC'⟩, ?_, ?_⟩
        · exact ⟨kE', hkE'⟩
        · show vm₁.assignable _ _ = true
          rw [hal.assignable]
          exact hasg _ r3)
    (g := F0 m pc ls (.int n :: .int j :: .ref b :: .int i :: .ref a :: st)) rfl (by rw [hml]; exact hl.1) (rest := st) rfl (by rw [hb]; exact d) hf (by show 2 * 0 + _ + _ ≤ _; omega)
  have q1 : copied (vp_cell (gO G) (ln h a, .inr (.inr (.inr (.inr (ra h a)))))) (vp_cell (gO G) (ln h b, .inr (.inr (.inr (.inr (ra h b)))))) i j n = vp_cell (gO G) (ln h b, .inr (.inr (.inr (.inr (va_cpy (ra h a) (ra h b) i.toNatClampNeg j.toNatClampNeg n.toNatClampNeg))))) := by
    rw [vp_cell_q, vp_cell_q, vp_cell_q]
    exact va_copied (fun z => va_rf z) (gO G) (gO G) (ra h a) (ra h b) o1
  rw [q1] at X' step
  have hlb : b < H.size := (Array.getElem?_eq_some_iff.mp hc1).1
  have hheap : ((T.setVm vm').setCell b (vp_cell (gO G) (ln h b, .inr (.inr (.inr (.inr (va_cpy (ra h a) (ra h b) i.toNatClampNeg j.toNatClampNeg n.toNatClampNeg))))))).heap = H.setIfInBounds b (vp_cell (gO G) (ln h b, .inr (.inr (.inr (.inr (va_cpy (ra h a) (ra h b) i.toNatClampNeg j.toNatClampNeg n.toNatClampNeg)))))) := by rw [← hT]; rfl
  have oq : ∀ q : Nat, q ≠ b → (H.setIfInBounds b (vp_cell (gO G) (ln h b, .inr (.inr (.inr (.inr (va_cpy (ra h a) (ra h b) i.toNatClampNeg j.toNatClampNeg n.toNatClampNeg)))))))[q]? = H[q]? := fun q hq => by simp [Array.getElem?_setIfInBounds, Ne.symm hq]
  have hself : va_up (ra h) b (va_cpy (ra h a) (ra h b) i.toNatClampNeg j.toNatClampNeg n.toNatClampNeg) b = va_cpy (ra h a) (ra h b) i.toNatClampNeg j.toNatClampNeg n.toNatClampNeg := if_pos rfl
  have hnew : (H.setIfInBounds b (vp_cell (gO G) (ln h b, .inr (.inr (.inr (.inr (va_cpy (ra h a) (ra h b) i.toNatClampNeg j.toNatClampNeg n.toNatClampNeg)))))))[b]? = some (vp_cell (gO G) (ln h b, .inr (.inr (.inr (.inr (va_up (ra h) b (va_cpy (ra h a) (ra h b) i.toNatClampNeg j.toNatClampNeg n.toNatClampNeg) b)))))) := by
    rw [hself]
    simp [Array.getElem?_setIfInBounds, hlb]
  obtain ⟨t, t1, t2⟩ := kk (sQ h b (va_cpy (ra h a) (ra h b) i.toNatClampNeg j.toNatClampNeg n.toNatClampNeg)) (H.setIfInBounds b (vp_cell (gO G) (ln h b, .inr (.inr (.inr (.inr (va_cpy (ra h a) (ra h b) i.toNatClampNeg j.toNatClampNeg n.toNatClampNeg))))))) _ ls (hR.wr b1 (by simp) oq rfl rfl rfl (fun ci' b' hb k' _ => rfl) (fun b' hb => ⟨rfl, rfl, rfl, if_neg hb⟩) (fun ci' hc' _ => by omega) (fun h => by omega) (fun h => by omega) (fun h => by omega) (fun _ => ⟨fun j' y hy => by
      have hy : va_up (ra h) b (va_cpy (ra h a) (ra h b) i.toNatClampNeg j.toNatClampNeg n.toNatClampNeg) b j' = some y := hy
      rw [show va_up (ra h) b (va_cpy (ra h a) (ra h b) i.toNatClampNeg j.toNatClampNeg n.toNatClampNeg) b = va_cpy (ra h a) (ra h b) i.toNatClampNeg j.toNatClampNeg n.toNatClampNeg from if_pos rfl] at hy
      unfold va_cpy at hy
      split at hy
      · exact a2 _ y hy
      · exact b2 _ y hy, hnew⟩)) (fun q hq => by rcases List.mem_append.mp hq with h | h; exact hL q h; obtain ⟨z, -, hz⟩ := List.mem_map.mp h; rw [← hz]; exact b1) hn0 hs0 hl e2 _ hheap X'
  exact ⟨t, step t t1, t2⟩
/-- the table of the sum: its address, and an element of it -/
theorem s_gS (C : Cx G p R s m args meth c cc nL own h0 h') {index : Nat} {host : String} (w1 : Cond.fieldLinkNest own index RX8 "SUM_STEPS" "[I" host ∈ nwl) (d : decode cc pc = .ok (.getstatic index, 3)) (k : Sm G Q p l e R s m args below meth c nL h0 r h' (pc + 3) lv (.ref (gS G) :: st) z) : Sm G Q p l e R s m args below meth c nL h0 r h' pc lv st z := fun h H locs ls hR hL hn0 hs0 hl hz => by
  obtain ⟨hx, hb, hml, hown, hts, hSt, hlo, hRc, hRs⟩ := C
  obtain ⟨cf, kf, fi, f, a, cell, h1, h2, h3, h4, h5, h6, h7, h8⟩ := hSt.2.1
  exact va_WgetsN hx hb hown (va_Nw.use rfl (hSt.2.2.2.2.2.1 _ w1)) h1 h2 h3 h4 (by rw [hR.2.2.1 a (Nat.not_le.mp h8)]; exact h5) (fun e => by rw [e] at h6; cases h6) h7 rfl d (k h H locs ls hR hL hn0 hs0 hl hz)
theorem s_tb (C : Cx G p R s m args meth c cc nL own h0 h') {i : Int32} (d : decode cc pc = .ok (.iaload, 1)) {y : Int32 → M ρ} (kk : ∀ x, Sm G Q p l e R s m args below meth c nL h0 r h' (pc + 1) lv (.int x :: st) (y x)) : Sm G Q p l e R s m args below meth c nL h0 r h' pc lv (.int i :: .ref (gS G) :: st) (bd (tb i) y) := fun h H locs ls hR hL hn0 hs0 hl hz => by
  obtain ⟨hx, hb, hml, hown, hts, hSt, hlo, hRc, hRs⟩ := C
  obtain ⟨v, h1, e1, e2⟩ := bd_inv hz
  obtain ⟨e3, e4⟩ := rd_inv e1
  subst e4
  split at e3
  · rename_i hc
    cases e3
    have hin := inx_in hc
    have hlt : i.toNatClampNeg < 16 := Nat.not_le.mp fun q => hin (Or.inr q)
    obtain ⟨cell, t1, t2, t3, t4, t5, t6, t7⟩ := hSt.2.2.1
    exact W.iald (v := .int (sumT i.toNatClampNeg)) hx hb (by rw [hR.2.2.1 _ (Nat.not_le.mp t7)]; exact t1) t2 t3 (fun q => by rcases q with q | q; exact hin (Or.inl q); omega) (t6 _ hlt) rfl rfl d (kk _ h1 H locs ls hR hL hn0 hs0 hl e2)
  · cases e3
theorem s_gE (C : Cx G p R s m args meth c cc nL own h0 h') {index : Nat} (w1 : Cond.fieldLink own index RJx4a65c "DEFAULTCAPACITY_EMPTY_ELEMENTDATA" "[Ljava/lang/Object;" ∈ wb) (d : decode cc pc = .ok (.getstatic index, 3)) {y : Nat → M ρ} (kk : ∀ x, Sm G Q p l e R s m args below meth c nL h0 r h' (pc + 3) lv (.ref x :: st) (y x)) : Sm G Q p l e R s m args below meth c nL h0 r h' pc lv st (bd ge y) := fun h H locs ls hR hL hn0 hs0 hl hz => by
  obtain ⟨hx, hb, hml, hown, hts, hSt, hlo, hRc, hRs⟩ := C
  obtain ⟨v, h1, e1, e2⟩ := bd_inv hz
  obtain ⟨e3, e4⟩ := rd_inv e1
  subst e4
  rw [hR.2.2.2.2.2.2.2.2.2] at e3
  cases e3
  obtain ⟨cf, kf, fi, f, a, cell, q1, q2, q3, q4, q5, q6, q7, q8⟩ := hSt.2.2.2.1
  exact W.gets hx hb hown (hts _ w1) q1 q2 q3 q4 (by rw [hR.2.2.1 a (Nat.not_le.mp q8)]; exact q5) (fun e => by rw [e] at q6; cases q6) q7 rfl d (kk _ h1 H locs ls hR hL hn0 hs0 hl e2)
theorem s_ck (C : Cx G p R s m args meth c cc nL own h0 h') {ci : Nat} {Cn : String} {T : u_T} {N : Nat} {ty : Nat → FieldType} (K : Ci ci Cn T N ty) {a index : Nat} (w1 : Cond.classLink own index Cn ∈ wb) (d : decode cc pc = .ok (.checkcast index, 3)) {y : Unit → M ρ} (kk : Sm G Q p l e R s m args below meth c nL h0 r h' (pc + 3) lv (.ref a :: st) (y ())) : Sm G Q p l e R s m args below meth c nL h0 r h' pc lv (.ref a :: st) (bd (ck ci a) y) := fun h H locs ls hR hL hn0 hs0 hl hz => by
  obtain ⟨hx, hb, hml, hown, hts, hSt, hlo, hRc, hRs⟩ := C
  obtain ⟨k1, k2, k3, k4, k5, k6, k7⟩ := K
  obtain ⟨v, h1, e1, e2⟩ := bd_inv hz
  obtain ⟨e3, e4⟩ := rd_inv e1
  subst e4
  split at e3
  · rename_i hc
    cases e3
    obtain ⟨-, cell, q1, q2, q3, -⟩ := hR.2.2.2.1 a ci hc k1
    have hKn := hSt.1.1 ci _ k2
    exact va_castS hx hb hown (hts _ w1) hKn.2 ⟨cell, q1, by rw [q3]; rfl, by rw [q2]; exact hKn.2.1⟩ d (kk h1 H locs ls hR hL hn0 hs0 hl e2)
  · cases e3

theorem s_iret {rv : ρ → Option Value} (C : Cx G p R s m args meth c cc nL own h0 h') (hr : meth.sig.returnType = some .int) {v : Int32} {rq : ρ} (hv : rv rq = some (.int v)) (d : decode cc pc = .ok (.ireturn, 1)) : Sm G (QM G rv below args s h0 r h') p l e R s m args below meth c nL h0 r h' pc lv [.int v] (pu rq) := fun h H locs ls hR hL hn0 hs0 hl hz => by
  obtain ⟨hx, hb, hml, hown, hts, hSt, hlo, hRc, hRs⟩ := C
  cases hz
  exact W.iret hx hb hr (fun t ht hW => ⟨by rw [hv], by rw [ht]; exact hR⟩) hL d
theorem s_lret {rv : ρ → Option Value} (C : Cx G p R s m args meth c cc nL own h0 h') (hr : meth.sig.returnType = some .long) {v : Int64} {rq : ρ} (hv : rv rq = some (.long v)) (d : decode cc pc = .ok (.lreturn, 1)) : Sm G (QM G rv below args s h0 r h') p l e R s m args below meth c nL h0 r h' pc lv [.long v] (pu rq) := fun h H locs ls hR hL hn0 hs0 hl hz => by
  obtain ⟨hx, hb, hml, hown, hts, hSt, hlo, hRc, hRs⟩ := C
  cases hz
  exact W.lret hx hb hr (fun t ht hW => ⟨by rw [hv], by rw [ht]; exact hR⟩) hL d
theorem s_zret {rv : ρ → Option Value} (C : Cx G p R s m args meth c cc nL own h0 h') (hr : meth.sig.returnType = some .boolean) {v : Int32} {rq : ρ} (hv : rv rq = some (.int v)) (hb1 : v = 0 ∨ v = 1) (d : decode cc pc = .ok (.ireturn, 1)) : Sm G (QM G rv below args s h0 r h') p l e R s m args below meth c nL h0 r h' pc lv [.int v] (pu rq) := fun h H locs ls hR hL hn0 hs0 hl hz => by
  obtain ⟨hx, hb, hml, hown, hts, hSt, hlo, hRc, hRs⟩ := C
  cases hz
  exact W.zret hx hb hr (by rcases hb1 with q | q <;> subst q <;> decide +kernel) (fun t ht hW => ⟨by rw [hv], by rw [ht]; exact hR⟩) hL d
theorem s_vret {rv : ρ → Option Value} (C : Cx G p R s m args meth c cc nL own h0 h') (hr : meth.sig.returnType = none) {rq : ρ} (hv : rv rq = none) (d : decode cc pc = .ok (.return_, 1)) : Sm G (QM G rv below args s h0 r h') p l e R s m args below meth c nL h0 r h' pc lv [] (pu rq) := fun h H locs ls hR hL hn0 hs0 hl hz => by
  obtain ⟨hx, hb, hml, hown, hts, hSt, hlo, hRc, hRs⟩ := C
  cases hz
  exact W.vret hx hb hr (fun t ht hW => ⟨by rw [hv], by rw [ht]; exact hR⟩) hL d
theorem s_aret {rv : ρ → Option Value} (C : Cx G p R s m args meth c cc nL own h0 h') {rt : FieldType} (hr : meth.sig.returnType = some rt) (hrt : (∃ n, rt = .object n) ∨ ∃ t, rt = .array t) {v : Option Nat} {rq : ρ} (hv : rv rq = some (va_rf v)) (d : decode cc pc = .ok (.areturn, 1)) : Sm G (QM G rv below args s h0 r h') p l e R s m args below meth c nL h0 r h' pc lv [va_rf v] (pu rq) := fun h H locs ls hR hL hn0 hs0 hl hz => by
  obtain ⟨hx, hb, hml, hown, hts, hSt, hlo, hRc, hRs⟩ := C
  cases hz
  exact W.aret hx hb hr hrt (by cases v with | none => exact Or.inl rfl | some a => exact Or.inr ⟨a, rfl⟩) (fun t ht hW => ⟨by rw [hv], by rw [ht]; exact hR⟩) hL d
end HC
