/-- all that the tables say of class ci -/
def Ci (ci : Nat) (Cn : String) (T : u_T) (N : Nat) (ty : Nat → FieldType) : Prop :=
  ci < 13 ∧ vwCl[ci]? = some (Cn, T, N) ∧ nF ci = N ∧ (∀ w ∈ u_ws Cn T N, w ∈ wb) ∧ (∀ k, k < N → parseFieldDescriptor (T k).2.2.1 = some (ty k)) ∧ (∀ a, a < N → ∀ b, b < N → a ≠ b → (T a).2.1 ≠ (T b).2.1) ∧ ∀ k, k < N → defaultValue (ty k) = dF (100 * ci + k)
/-- a field's link, by the class itself, by a subclass, by a nest mate -/
def Lf (own : String) (index : Nat) (o n d : String) : Prop :=
  (Cond.fieldLink own index o n d ∈ wb) ∨ (∃ ref, Cond.fieldLink own index ref n d ∈ wb ∧ Cond.sameField ref o n d ∈ wb) ∨ ∃ host, Cond.fieldLinkNest own index o n d host ∈ nwl
section HW
variable {ρ α : Type} {G : Gx} {Q : State → Prop} {p : Program} {l : Launch} {e : Env} {R : Room} {s : State} {m : MethodId} {args : Array Value} {below : List Frame} {meth : Method} {c : Code} {cc : ByteArray} {nL : Nat} {own : String} {h0 : Hp} {r : ρ} {h' : Hp} {pc : Nat} {lv lv' : List (Nat × Value)} {st : List Value} {z z1 z2 : M ρ}
/-- a getfield, whatever the link -/
theorem w_get {H : Heap} {locs : List Loc} {cells slots : Nat} {ls : Array Slot} (C : Cx G p R s m args meth c cc nL own h0 h') {ci : Nat} {Cn : String} {T : u_T} {N : Nat} {ty : Nat → FieldType} (K : Ci ci Cn T N ty) {k index : Nat} (hk : k < N) (L : Lf own index (T k).1 (T k).2.1 (T k).2.2.1) (d : decode cc pc = .ok (.getfield index, 3)) {a : Nat} {V : Nat → Value} (hO : t_OB a ((gD G).1 ci) N ((gD G).2 ci) H V)
    (kk : W p l e R s m args below meth c H locs cells slots Q (F0 m (pc + 3) ls (V k :: st))) : W p l e R s m args below meth c H locs cells slots Q (F0 m pc ls (.ref a :: st)) := by
  obtain ⟨hx, hb, hml, hown, hts, hSt, hlo, hRc, hRs⟩ := C
  obtain ⟨k1, k2, k3, k4, k5, k6, k7⟩ := K
  obtain ⟨cell, q1, q2, q3, q4⟩ := hO
  obtain ⟨hS, hfc, kC, hkC, hkind⟩ := hSt.1.1 ci _ k2
  obtain ⟨cf, kf, fi, f, hi, hsl⟩ := hS k hk
  have hst := (u_facts hfc hkC (u_lays hts k4 hk) hi).1
  have hv : cell.slots[f.slot]? = some (V k) := by rw [hsl]; exact q4 k hk
  have hkn : cell.vm ≠ .unknown := by rw [q3]; exact fun h => by cases h
  rcases L with L | ⟨ref, L, L2⟩ | ⟨host, L⟩
  · exact W.getf hx hb hown (hts _ L) hi hst q1 hkn hv rfl rfl d kk
  · exact W.getf hx hb hown (hts _ L) (u_same (hts _ L2) _ hi) hst q1 hkn hv rfl rfl d kk
  · exact va_Wgetf hx hb hown (va_Nw.use rfl (hSt.2.2.2.2.2.1 _ L)) hi hst q1 hkn hv rfl rfl d kk
theorem fv_sF {h : Hp} {ci k a : Nat} {v : Value} (j : Nat) : updV (fv h ci a) k v j = fv (sF h (100 * ci + k) a v) ci a j := by
  show (if j = k then v else fd h (100 * ci + j) a) = (if 100 * ci + j = 100 * ci + k ∧ a = a then v else fd h (100 * ci + j) a)
  by_cases hj : j = k
  · rw [if_pos hj, if_pos ⟨by omega, rfl⟩]
  · rw [if_neg hj, if_neg (fun q => hj (by omega))]
theorem nF_le : ∀ ci, ci < 13 → nF ci ≤ 54 := by decide
theorem f99 {h : Hp} {ci k a : Nat} {v : Value} (h1 : ci < 13) (h2 : k < nF ci) : fd (sF h (100 * ci + k) a v) 99 0 = fd h 99 0 := by
  have := nF_le ci h1
  exact if_neg (fun q => by omega)
theorem fv_sF_ne {h : Hp} {j a b ci k : Nat} {v : Value} (hb : b ≠ a) : fv (sF h j a v) ci b k = fv h ci b k := by
  show (if 100 * ci + k = j ∧ b = a then v else fd h (100 * ci + k) b) = fd h (100 * ci + k) b
  rw [if_neg (fun q => hb q.2)]
/-- a putfield of a field that isn't final -/
theorem w_put {h : Hp} {H : Heap} {locs : List Loc} {cells slots : Nat} {ls : Array Slot} (C : Cx G p R s m args meth c cc nL own h0 h') {ci : Nat} {Cn : String} {T : u_T} {N : Nat} {ty : Nat → FieldType} (K : Ci ci Cn T N ty) {k index : Nat} (hk : k < N) (hfin : (T k).2.2.2 = false) (L : Lf own index (T k).1 (T k).2.1 (T k).2.2.1) (d : decode cc pc = .ok (.putfield index, 3)) {a : Nat} {v : Value} (hn : narrow (ty k) v = v) (hf : fits (ty k) v = true) (hR : Rz G h H) (hL : ∀ q ∈ locs, bs G q.base) (hk1 : kd h a = ci + 1)
    (kk : ∀ (H1 : Heap) (locs1 : List Loc), Rz G (sF h (100 * ci + k) a v) H1 → (∀ q ∈ locs1, bs G q.base) → W p l e R s m args below meth c H1 locs1 cells slots Q (F0 m (pc + 3) ls st)) : W p l e R s m args below meth c H locs cells slots Q (F0 m pc ls (v :: .ref a :: st)) := by
  obtain ⟨hx, hb, hml, hown, hts, hSt, hlo, hRc, hRs⟩ := C
  obtain ⟨k1, k2, k3, k4, k5, k6, k7⟩ := K
  have hap := va_apart (own := own) hts k4 ty k5 k6 hSt.1 k2
  obtain ⟨hba, cell, q1, q2, q3, q4⟩ := hR.2.2.2.1 a ci hk1 k1
  rw [k3] at q4
  obtain ⟨hS, hfc, kC, hkC, hkind⟩ := hSt.1.1 ci _ k2
  obtain ⟨cf, kf, fi, f, hi, hsl⟩ := hS k hk
  have hlay := hts _ (k4 _ (u_in_lay hk))
  unfold u_lay at hlay
  rw [if_neg (by rw [hfin]; decide)] at hlay
  have hst := (u_facts hfc hkC (u_lays hts k4 hk) hi).1
  have h6 := u_store hfc hkC hkind hlay hi (k5 k hk) hn hf
  have fin : ∀ H' : Heap, H'[a]? = some (cell.setSlot f.slot v) → H'.size = H.size → (∀ q, q ≠ a → H'[q]? = H[q]?) → W p l e R s m args below meth c H' (locs ++ [⟨a, f.slot⟩]) cells slots Q (F0 m (pc + 3) ls st) := by
    intro H' e1 e2 e3
    rw [hsl] at e1
    refine kk H' _ (hR.wr (h1 := sF h (100 * ci + k) a v) hba e2 e3 rfl rfl (f99 k1 (by rw [k3]; exact hk)) (fun ci' b hb k' _ => fv_sF_ne hb) (fun b hb => ⟨rfl, rfl, rfl, rfl⟩) (fun ci' hc' _ => ?_) (fun hc' => by omega) (fun hc' => by omega) (fun hc' => by omega) (fun hc' => by omega)) (fun q hq => ?_)
    · have : ci' = ci := by omega
      subst this
      rw [k3]
      exact t_OB.to (V := updV (fv h ci' a) k v) ⟨_, e1, q2, q3, t_set q4 hap hk v⟩ (fun j _ => fv_sF j)
    · rcases List.mem_append.mp hq with h1 | h1
      · exact hL q h1
      · rw [List.mem_singleton.mp h1]; exact hba
  have hlt : f.slot < cell.slots.size := by rw [hsl]; exact k2_hasslot (q4 k hk)
  rcases L with L | ⟨ref, L, L2⟩ | ⟨host, L⟩
  · exact W.putK hx hb (f := f) ⟨hown, hts _ L, ⟨_, _, _, hi⟩, hst⟩ (by rw [q2]; exact h6) q1 q3 hlt rfl rfl d fin
  · exact W.putK hx hb (f := f) ⟨hown, hts _ L, ⟨_, _, _, u_same (hts _ L2) _ hi⟩, hst⟩ (by rw [q2]; exact h6) q1 q3 hlt rfl rfl d fin
  · exact va_WputK hx hb (f := f) hown (va_Nw.use rfl (hSt.2.2.2.2.2.1 _ L)) hi hst (by rw [q2]; exact h6) q1 q3 hlt rfl rfl d fin
/-- a putfield of a final field, in the class's own constructor -/
theorem w_putF {h : Hp} {H : Heap} {locs : List Loc} {cells slots : Nat} {ls : Array Slot} (C : Cx G p R s m args meth c cc nL own h0 h') {ci : Nat} {Cn : String} {T : u_T} {N : Nat} {ty : Nat → FieldType} (K : Ci ci Cn T N ty) {k index : Nat} (hk : k < N) (hfin : (T k).2.2.2 = true) (hdecl : (T k).1 = own) (hin : meth.name = "<init>") (L : Cond.fieldLink own index (T k).1 (T k).2.1 (T k).2.2.1 ∈ wb) (d : decode cc pc = .ok (.putfield index, 3)) {a : Nat} {v : Value} (hn : narrow (ty k) v = v) (hf : fits (ty k) v = true) (hR : Rz G h H) (hL : ∀ q ∈ locs, bs G q.base) (hk1 : kd h a = ci + 1)
    (kk : ∀ (H1 : Heap) (locs1 : List Loc), Rz G (sF h (100 * ci + k) a v) H1 → (∀ q ∈ locs1, bs G q.base) → W p l e R s m args below meth c H1 locs1 cells slots Q (F0 m (pc + 3) ls st)) : W p l e R s m args below meth c H locs cells slots Q (F0 m pc ls (v :: .ref a :: st)) := by
  obtain ⟨hx, hb, hml, hown, hts, hSt, hlo, hRc, hRs⟩ := C
  obtain ⟨k1, k2, k3, k4, k5, k6, k7⟩ := K
  have hap := va_apart (own := own) hts k4 ty k5 k6 hSt.1 k2
  obtain ⟨hba, cell, q1, q2, q3, q4⟩ := hR.2.2.2.1 a ci hk1 k1
  rw [k3] at q4
  obtain ⟨hS, hfc, kC, hkC, hkind⟩ := hSt.1.1 ci _ k2
  obtain ⟨cf, kf, fi, f, hi, hsl⟩ := hS k hk
  have hlay := hts _ (k4 _ (u_in_lay hk))
  unfold u_lay at hlay
  rw [if_pos hfin] at hlay
  have hst := (u_facts hfc hkC (u_lays hts k4 hk) hi).1
  have hcf : m.cls = cf := by
    obtain ⟨_, _, c', _, _, _, -, -, hf', -, -, -, hown2, -⟩ := Cond.laysFinal_spec hlay
    have e1 : c' = cf := by have := hi.symm.trans hf'; simp at this; exact this.1.symm
    rw [hdecl] at hown2
    rw [← e1]; exact Option.some.inj (hown.symm.trans hown2)
  have h6 := u_fits hfc hkC hkind (Or.inr hlay) hi (k5 k hk) hn hf
  refine W.putFinK hx hb hown (hts _ L) hi hst hcf hin (by rw [q2]; exact h6) q1 q3 (by rw [hsl]; exact k2_hasslot (q4 k hk)) rfl rfl d (fun H' e1 e2 e3 => ?_)
  rw [hsl] at e1
  refine kk H' _ (hR.wr (h1 := sF h (100 * ci + k) a v) hba e2 e3 rfl rfl (f99 k1 (by rw [k3]; exact hk)) (fun ci' b hb k' _ => fv_sF_ne hb) (fun b hb => ⟨rfl, rfl, rfl, rfl⟩) (fun ci' hc' _ => ?_) (fun hc' => by omega) (fun hc' => by omega) (fun hc' => by omega) (fun hc' => by omega)) (fun q hq => ?_)
  · have : ci' = ci := by omega
    subst this
    rw [k3]
    exact t_OB.to (V := updV (fv h ci' a) k v) ⟨_, e1, q2, q3, t_set q4 hap hk v⟩ (fun j _ => fv_sF j)
  · rcases List.mem_append.mp hq with h1 | h1
    · exact hL q h1
    · rw [List.mem_singleton.mp h1]; exact hba

theorem s_gI (C : Cx G p R s m args meth c cc nL own h0 h') {ci : Nat} {Cn : String} {T : u_T} {N : Nat} {ty : Nat → FieldType} (K : Ci ci Cn T N ty) (k : Nat) {index : Nat} (hk : k < N) (L : Lf own index (T k).1 (T k).2.1 (T k).2.2.1) (d : decode cc pc = .ok (.getfield index, 3)) {a : Nat} {y : Int32 → M ρ} (kk : ∀ x, Sm G Q p l e R s m args below meth c nL h0 r h' (pc + 3) lv (.int x :: st) (y x)) : Sm G Q p l e R s m args below meth c nL h0 r h' pc lv (.ref a :: st) (bd (gI ci k a) y) := fun h H locs ls hR hL hn hs hl hz => by
  obtain ⟨v, h1, e1, e2⟩ := bd_inv hz
  obtain ⟨e3, e4⟩ := rd_inv e1
  subst e4
  split at e3
  · rename_i hkd
    have ho := (hR.2.2.2.1 a ci hkd K.1).2
    rw [K.2.2.1] at ho
    refine w_get C K hk L d ho ?_
    have hv : fv h1 ci a k = .int v := by
      unfold vI at e3
      show fd h1 (100 * ci + k) a = _
      split at e3
      · rename_i w hw; rw [hw]; cases e3; rfl
      · cases e3
    rw [hv]
    exact kk v h1 H locs ls hR hL hn hs hl e2
  · cases e3
theorem s_gR (C : Cx G p R s m args meth c cc nL own h0 h') {ci : Nat} {Cn : String} {T : u_T} {N : Nat} {ty : Nat → FieldType} (K : Ci ci Cn T N ty) (k : Nat) {index : Nat} (hk : k < N) (L : Lf own index (T k).1 (T k).2.1 (T k).2.2.1) (d : decode cc pc = .ok (.getfield index, 3)) {a : Nat} {y : Nat → M ρ} (kk : ∀ x, Sm G Q p l e R s m args below meth c nL h0 r h' (pc + 3) lv (.ref x :: st) (y x)) : Sm G Q p l e R s m args below meth c nL h0 r h' pc lv (.ref a :: st) (bd (gR ci k a) y) := fun h H locs ls hR hL hn hs hl hz => by
  obtain ⟨v, h1, e1, e2⟩ := bd_inv hz
  obtain ⟨e3, e4⟩ := rd_inv e1
  subst e4
  split at e3
  · rename_i hkd
    have ho := (hR.2.2.2.1 a ci hkd K.1).2
    rw [K.2.2.1] at ho
    refine w_get C K hk L d ho ?_
    have hv : fv h1 ci a k = .ref v := by
      unfold vR at e3
      show fd h1 (100 * ci + k) a = _
      split at e3
      · rename_i w hw; rw [hw]; cases e3; rfl
      · cases e3
    rw [hv]
    exact kk v h1 H locs ls hR hL hn hs hl e2
  · cases e3
theorem s_pV (C : Cx G p R s m args meth c cc nL own h0 h') {ci : Nat} {Cn : String} {T : u_T} {N : Nat} {ty : Nat → FieldType} (K : Ci ci Cn T N ty) (k : Nat) {index : Nat} (hk : k < N) (hfin : (T k).2.2.2 = false) (L : Lf own index (T k).1 (T k).2.1 (T k).2.2.1) (d : decode cc pc = .ok (.putfield index, 3)) {a : Nat} {v : Value} (hnr : narrow (ty k) v = v) (hft : fits (ty k) v = true) {y : Unit → M ρ} (kk : Sm G Q p l e R s m args below meth c nL h0 r h' (pc + 3) lv st (y ())) : Sm G Q p l e R s m args below meth c nL h0 r h' pc lv (v :: .ref a :: st) (bd (pV ci k a v) y) := fun h H locs ls hR hL hn hs hl hz => by
  obtain ⟨u, h1, e1, e2⟩ := bd_inv hz
  obtain ⟨e3, e4⟩ := md_inv e1
  cases e4
  exact w_put C K hk hfin L d hnr hft hR hL (by simpa using e3) (fun H1 locs1 hR1 hL1 => kk (sF h (100 * ci + k) a v) H1 locs1 ls hR1 hL1 hn hs hl e2)
theorem s_pF (C : Cx G p R s m args meth c cc nL own h0 h') {ci : Nat} {Cn : String} {T : u_T} {N : Nat} {ty : Nat → FieldType} (K : Ci ci Cn T N ty) (k : Nat) {index : Nat} (hk : k < N) (hfin : (T k).2.2.2 = true) (hdecl : (T k).1 = own) (hin : meth.name = "<init>") (L : Cond.fieldLink own index (T k).1 (T k).2.1 (T k).2.2.1 ∈ wb) (d : decode cc pc = .ok (.putfield index, 3)) {a : Nat} {v : Value} (hnr : narrow (ty k) v = v) (hft : fits (ty k) v = true) {y : Unit → M ρ} (kk : Sm G Q p l e R s m args below meth c nL h0 r h' (pc + 3) lv st (y ())) : Sm G Q p l e R s m args below meth c nL h0 r h' pc lv (v :: .ref a :: st) (bd (pV ci k a v) y) := fun h H locs ls hR hL hn hs hl hz => by
  obtain ⟨u, h1, e1, e2⟩ := bd_inv hz
  obtain ⟨e3, e4⟩ := md_inv e1
  cases e4
  exact w_putF C K hk hfin hdecl hin L d hnr hft hR hL (by simpa using e3) (fun H1 locs1 hR1 hL1 => kk (sF h (100 * ci + k) a v) H1 locs1 ls hR1 hL1 hn hs hl e2)
theorem s_pZ (C : Cx G p R s m args meth c cc nL own h0 h') {ci : Nat} {Cn : String} {T : u_T} {N : Nat} {ty : Nat → FieldType} (K : Ci ci Cn T N ty) (k : Nat) {index : Nat} (hk : k < N) (hfin : (T k).2.2.2 = false) (hty : ty k = .boolean) (L : Lf own index (T k).1 (T k).2.1 (T k).2.2.1) (d : decode cc pc = .ok (.putfield index, 3)) {a : Nat} {x : Int32} {y : Unit → M ρ} (kk : Sm G Q p l e R s m args below meth c nL h0 r h' (pc + 3) lv st (y ())) : Sm G Q p l e R s m args below meth c nL h0 r h' pc lv (.int x :: .ref a :: st) (bd (pZ ci k a x) y) := fun h H locs ls hR hL hn hs hl hz => by
  obtain ⟨u, h1, e1, e2⟩ := bd_inv hz
  obtain ⟨e3, e4⟩ := md_inv e1
  cases e4
  simp only [Bool.and_eq_true, Bool.or_eq_true, beq_iff_eq] at e3
  have h01 : narrow (ty k) (.int x) = .int x ∧ fits (ty k) (.int x) = true := by
    rw [hty]
    rcases e3.2 with q | q <;> subst q <;> exact ⟨by decide +kernel, by decide +kernel⟩
  exact w_put C K hk hfin L d h01.1 h01.2 hR hL e3.1 (fun H1 locs1 hR1 hL1 => kk (sF h (100 * ci + k) a (.int x)) H1 locs1 ls hR1 hL1 hn hs hl e2)
end HW
