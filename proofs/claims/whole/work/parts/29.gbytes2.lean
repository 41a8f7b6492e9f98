def b8 (v : Int32) : Int32 := v.toInt8.toInt32
theorem b8_b8 (v : Int32) : b8 (b8 v) = b8 v := by
  unfold b8
  rw [Int8.toInt8_toInt32]
def be2 (v : Int32) : List Int32 := [b8 (ush v 8), b8 v]
def be4 (v : Int32) : List Int32 := [b8 (ush v 24), b8 (ush v 16), b8 (ush v 8), b8 v]
theorem wX_id {g : Gh} {b : Nat} : wX g b (qB g b) = g := by
  unfold wX
  have e : va_up (qB g) b (qB g b) = qB g := by
    funext x
    unfold va_up
    split
    · next e => rw [e]
    · rfl
  rw [e]
  rfl
theorem va_va {α : Type} {f : Nat → α} {k : Nat} {u v : α} : va_up (va_up f k u) k v = va_up f k v := by
  funext x
  unfold va_up
  split <;> rfl
theorem va_same {α : Type} {f : Nat → α} {k : Nat} {v : α} (h : f k = v) : va_up f k v = f := by
  funext x
  unfold va_up
  split
  · next e => rw [e, h]
  · rfl
theorem wX_wX {g : Gh} {b : Nat} {l l2 : List Int32} : wX (wX g b l) b l2 = wX g b l2 := by
  show (_, _, _, _, _, va_up (va_up (qB g) b l) b l2, _) = (_, _, _, _, _, va_up (qB g) b l2, _)
  rw [va_va]
  rfl
theorem wB_wX {g : Gh} {b : Nat} {l l2 : List Int32} : wB (wX g b l) b l2 = wB g b l2 := by
  show (_, _, _, _, _, va_up (va_up (qB g) b l) b l2, _) = (_, _, _, _, _, va_up (qB g) b l2, _)
  rw [va_va]
  rfl
theorem wX_wB {g : Gh} {b : Nat} {l l2 : List Int32} (h : l.length = l2.length) : wX (wB g b l) b l2 = wB g b l2 := by
  unfold wX wB
  rw [h]
  show (_, _, _, _, _, va_up (va_up (qB g) b l) b l2, _) = (_, _, _, _, _, va_up (qB g) b l2, _)
  rw [va_va]
  rfl
theorem wB_wB {g : Gh} {b : Nat} {l l2 : List Int32} (h : l.length ≤ l2.length) (h2 : l2.length ≤ 2 * qC g b) : wB (wB g b l) b l2 = wB g b l2 := by
  have e : ∀ (x1 y1 x2 y2 : Nat) (c1 c2 : Nat → Nat) (B1 B2 : Nat → List Int32), x1 = y1 → x2 = y2 → c1 = c2 → B1 = B2 → ((x1, x2, qk g, qi g, qr g, B1, c1, qL g, qE g, qA g, qW g) : Gh) = (y1, y2, qk g, qi g, qr g, B2, c2, qL g, qE g, qA g, qW g) := by
    intro x1 y1 x2 y2 c1 c2 B1 B2 q1 q2 q3 q4
    rw [q1, q2, q3, q4]
  have eC : qC (wB g b l) b = gcap (qC g b) l.length := vu_eq
  have cases3 : (l2.length ≤ qC g b ∧ l.length ≤ qC g b ∧ gcap (qC g b) l.length = qC g b ∧ gcap (qC g b) l2.length = qC g b) ∨ (¬ l2.length ≤ qC g b ∧ l.length ≤ qC g b ∧ gcap (qC g b) l.length = qC g b ∧ gcap (qC g b) l2.length = 2 * qC g b) ∨ (¬ l2.length ≤ qC g b ∧ ¬ l.length ≤ qC g b ∧ gcap (qC g b) l.length = 2 * qC g b ∧ gcap (qC g b) l2.length = 2 * qC g b) := by
    unfold gcap
    by_cases q1 : l2.length ≤ qC g b
    · rw [if_pos q1, if_pos (show l.length ≤ qC g b by omega)]
      exact Or.inl ⟨q1, by omega, rfl, rfl⟩
    · by_cases q2 : l.length ≤ qC g b
      · rw [if_neg q1, if_pos q2]
        exact Or.inr (Or.inl ⟨q1, q2, rfl, by omega⟩)
      · rw [if_neg q1, if_neg q2]
        exact Or.inr (Or.inr ⟨q1, q2, by omega, by omega⟩)
  refine e _ _ _ _ _ _ _ _ ?_ ?_ ?_ ?_
  · show qn g + (if l.length ≤ qC g b then 0 else 1) + (if l2.length ≤ qC (wB g b l) b then 0 else 1) = qn g + (if l2.length ≤ qC g b then 0 else 1)
    rw [eC]
    rcases cases3 with ⟨c1, c2, c3, c4⟩ | ⟨c1, c2, c3, c4⟩ | ⟨c1, c2, c3, c4⟩
    · rw [c3, if_pos c1, if_pos c2]
    · rw [c3, if_neg c1, if_pos c2]
    · rw [c3, if_neg c1, if_neg c2, if_pos h2]
  · show qs g + (if l.length ≤ qC g b then 0 else gcap (qC g b) l.length) + (if l2.length ≤ qC (wB g b l) b then 0 else gcap (qC (wB g b l) b) l2.length) = qs g + (if l2.length ≤ qC g b then 0 else gcap (qC g b) l2.length)
    rw [eC]
    rcases cases3 with ⟨c1, c2, c3, c4⟩ | ⟨c1, c2, c3, c4⟩ | ⟨c1, c2, c3, c4⟩
    · rw [c3, if_pos c1, if_pos c2]
    · rw [c3, if_neg c1, if_pos c2]
      rfl
    · rw [c3, c4, if_neg c1, if_neg c2, if_pos h2]
      rfl
  · show va_up (va_up (qC g) b (gcap (qC g b) l.length)) b (gcap (qC (wB g b l) b) l2.length) = _
    rw [eC, va_va]
    congr 1
    rcases cases3 with ⟨c1, c2, c3, c4⟩ | ⟨c1, c2, c3, c4⟩ | ⟨c1, c2, c3, c4⟩
    · rw [c3]
    · rw [c3]
    · rw [c3, c4]
      unfold gcap
      rw [if_pos h2]
  · exact va_va
section
variable {α : Type} {g : Gh} {Q : α → Gh → Prop}
theorem ok_capB {b : Nat} {x : M α} (hk : qk g b = 5) (hx : (qB g b).length ≤ qC g b → 16 ≤ qC g b → ok x g Q) : ok x g Q := by
  intro h ha
  obtain ⟨w, A⟩ := ha
  obtain ⟨r, b1, b2, b3, b4, b5, b6, b7, b8, b9, b10, b11⟩ := A.2.2.2.1 b hk
  exact hx b8 b10 h ⟨w, A⟩
theorem ok_badd {b : Nat} {v : Int32} {k : Unit → M α} (hk : qk g b = 5) (h6 : (qB g b).length + 1 ≤ 30000) (hx : ok (k ()) (wB g b (qB g b ++ [b8 v])) Q) : ok (bd (X1_add b v) k) g Q := by
  refine ok_bd ?_
  unfold X1_add
  refine ok_ck hk ?_
  refine ok_bmr (n := 1) hk rfl h6 ?_
  intro h ha
  obtain ⟨w, A⟩ := ha
  obtain ⟨r, B1⟩ := A.2.2.2.1 b hk
  have B2 := B1
  obtain ⟨b1, b2, b3, b4, b5, b6, b7, b8', b9, b10, b11⟩ := B2
  have hkd := (A.1.2.2 b (by show qk g b ≠ 0; omega)).1.trans hk
  have eB : qB (wM g b ((qB g b).length + 1)) b = qB g b := rfl
  have hcap : (qB g b).length + 1 ≤ qC (wM g b ((qB g b).length + 1)) b := by
    show _ ≤ va_up _ _ _ _
    rw [vu_eq]
    unfold gcap
    split <;> omega
  rw [eB] at b2 b11
  have e2 : (wM g b ((qB g b).length + 1)) = (wM g b (qB g b ++ [b8 v]).length) := by rw [List.length_append]; rfl
  refine ⟨(), sF (sA h r (qB g b).length (b8 v)) 401 b (.int (nI ((qB g b).length + 1))), wB g b (qB g b ++ [b8 v]), ?_, ?_, hx⟩
  · rw [r_gR (c := 4) (k := 0) hkd b1, r_gI (c := 4) (k := 1) hkd b2, r_as b3 (by omega) (by omega), if_pos rfl]
    have e8 := b8_b8 v
    unfold b8 at e8
    rw [e8]
    refine (r_gI (h := sA h r (qB g b).length v.toInt8.toInt32) (c := 4) (k := 1) (x := nI (qB g b).length) hkd b2).trans ?_
    refine (r_pV (h := sA h r (qB g b).length v.toInt8.toInt32) hkd).trans ?_
    rw [nI_1]
    rfl
  · rw [← wB_eq, ← e2]
    refine abs_wb A hk B1 ⟨rfl, rfl, rfl, rfl, rfl, rfl⟩ (fun j a hj => u2_ne hj) (fun a ha => ?_) ?_ ?_ (fun i hi => ?_)
    · funext i
      exact u2_ne (by omega)
    · rw [List.length_append]
      exact u2_eq
    · rw [List.length_append]
      exact hcap
    · rw [List.length_append] at hi
      show _ = some (u2 (ar h) r (qB g b).length (b8 v) r i)
      by_cases e : i < (qB g b).length
      · rw [List.getElem?_append_left e, u2_ne (by omega)]
        exact b11 i e
      · have e3 : i = (qB g b).length := by
          have : [b8 v].length = 1 := rfl
          omega
        subst e3
        rw [u2_eq, List.getElem?_append_right (by omega), Nat.sub_self]
        rfl
theorem ok_badd2 {b : Nat} {v : Int32} {k : Unit → M α} (hk : qk g b = 5) (h6 : (qB g b).length + 4 ≤ 30000) (hx : ok (k ()) (wB g b (qB g b ++ be2 v)) Q) : ok (bd (X1_addShort b v) k) g Q := by
  refine ok_capB hk (fun c1 c2 => ?_)
  refine ok_bd ?_
  unfold X1_addShort
  refine ok_ck hk (ok_badd hk (by omega) (ok_ck hk (ok_badd hk ?_ (ok_pu ?_))))
  · have e1 : qB (wB g b (qB g b ++ [b8 (ush v 8)])) b = qB g b ++ [b8 (ush v 8)] := vu_eq
    rw [e1, List.length_append]
    show _ + 1 + 1 ≤ _
    omega
  · have e1 : qB (wB g b (qB g b ++ [b8 (ush v 8)])) b = qB g b ++ [b8 (ush v 8)] := vu_eq
    rw [e1, wB_wB, List.append_assoc]
    · exact hx
    · simp only [List.length_append]
      omega
    · simp only [List.length_append, List.length_singleton]
      omega
theorem ok_badd4 {b : Nat} {v : Int32} {k : Unit → M α} (hk : qk g b = 5) (h6 : (qB g b).length + 4 ≤ 30000) (hx : ok (k ()) (wB g b (qB g b ++ be4 v)) Q) : ok (bd (X1_addNumber b v) k) g Q := by
  refine ok_capB hk (fun c1 c2 => ?_)
  refine ok_bd ?_
  unfold X1_addNumber
  refine ok_ck hk (ok_badd hk (by omega) ?_)
  have e1 : qB (wB g b (qB g b ++ [b8 (ush v 24)])) b = qB g b ++ [b8 (ush v 24)] := vu_eq
  refine ok_ck hk (ok_badd hk ?_ ?_)
  · rw [e1, List.length_append]
    show _ + 1 + 1 ≤ _
    omega
  rw [e1, wB_wB (by simp only [List.length_append]; omega) (by simp only [List.length_append, List.length_singleton]; omega), List.append_assoc]
  have e2 : qB (wB g b (qB g b ++ ([b8 (ush v 24)] ++ [b8 (ush v 16)]))) b = qB g b ++ ([b8 (ush v 24)] ++ [b8 (ush v 16)]) := vu_eq
  refine ok_ck hk (ok_badd hk ?_ ?_)
  · rw [e2, List.length_append]
    show _ + 2 + 1 ≤ _
    omega
  rw [e2, wB_wB (by simp only [List.length_append]; omega) (by simp only [List.length_append, List.length_singleton]; omega), List.append_assoc]
  have e3 : qB (wB g b (qB g b ++ ([b8 (ush v 24)] ++ [b8 (ush v 16)] ++ [b8 (ush v 8)]))) b = qB g b ++ ([b8 (ush v 24)] ++ [b8 (ush v 16)] ++ [b8 (ush v 8)]) := vu_eq
  refine ok_ck hk (ok_badd hk ?_ ?_)
  · rw [e3, List.length_append]
    show _ + 3 + 1 ≤ _
    omega
  rw [e3, wB_wB (by simp only [List.length_append]; omega) (by simp only [List.length_append, List.length_singleton]; omega), List.append_assoc]
  exact ok_pu hx
theorem ok_bpart {b c f n : Nat} {x y : Int32} {k : Unit → M α} (hk : qk g b = 5) (hc : qk g c = 5) (hbc : c ≠ b) (hf : x = nI f) (hn : y = nI n) (hl : f + n ≤ (qB g c).length) (h6 : (qB g b).length + n ≤ 30000) (hx : ok (k ()) (wB g b (qB g b ++ ((qB g c).drop f).take n)) Q) : ok (bd (X1_addPart b c x y) k) g Q := by
  subst hf hn
  intro h0 ha0
  have hlc : (qB g c).length ≤ 60000 := by
    obtain ⟨w, A⟩ := ha0
    obtain ⟨r, b1, b2, b3, b4, b5, b6, b7, b8', b9, b10, b11⟩ := A.2.2.2.1 c hc
    omega
  revert h0
  refine ok_bd ?_
  unfold X1_addPart
  refine ok_itF (nI_pos (by omega)) (ok_itF (nI_pos (by omega)) ?_)
  refine fun h0 ha0 => ?_
  have s0 : (bd (gI 4 1 c) (fun x1 => it ((nI f) ≤ (x1 - (nI n))) (bd (ck 4 b) (fun _ => bd (X1_makeRoom b (nI n)) (fun _ => bd (gR 4 0 c) (fun y2 => bd (gR 4 0 b) (fun y3 => bd (gI 4 1 b) (fun x4 => bd (cb y2 (nI f) y3 x4 (nI n)) (fun _ => bd (gI 4 1 b) (fun x5 => bd (pV 4 1 b (.int (x5 + (nI n)))) (fun _ => pu ()))))))))) (pu ()))).1 h0 = (bd (ck 4 b) (fun _ => bd (X1_makeRoom b (nI n)) (fun _ => bd (gR 4 0 c) (fun y2 => bd (gR 4 0 b) (fun y3 => bd (gI 4 1 b) (fun x4 => bd (cb y2 (nI f) y3 x4 (nI n)) (fun _ => bd (gI 4 1 b) (fun x5 => bd (pV 4 1 b (.int (x5 + (nI n)))) (fun _ => pu ())))))))) : M Unit).1 h0 := by
    obtain ⟨w, A⟩ := ha0
    obtain ⟨r, b1, b2, _⟩ := A.2.2.2.1 c hc
    rw [r_gI (c := 4) (k := 1) ((A.1.2.2 c (by omega)).1.trans hc) b2, r_it, pk_sub (by omega), if_pos (nI_le (by omega) (by omega))]
  rw [s0]
  revert h0
  suffices hh : ok (bd (ck 4 b) (fun _ => bd (X1_makeRoom b (nI n)) (fun _ => bd (gR 4 0 c) (fun y2 => bd (gR 4 0 b) (fun y3 => bd (gI 4 1 b) (fun x4 => bd (cb y2 (nI f) y3 x4 (nI n)) (fun _ => bd (gI 4 1 b) (fun x5 => bd (pV 4 1 b (.int (x5 + (nI n)))) (fun _ => pu ())))))))) : M Unit) g (fun v g1 => ok (k v) g1 Q) from fun h0 ha0 _ => hh h0 ha0
  refine ok_ck hk ?_
  refine ok_bmr (n := n) hk rfl h6 ?_
  intro h ha
  obtain ⟨w, A⟩ := ha
  obtain ⟨r, B1⟩ := A.2.2.2.1 b hk
  have B2 := B1
  obtain ⟨b1, b2, b3, b4, b5, b6, b7, b8', b9, b10, b11⟩ := B2
  obtain ⟨r2, c1, c2, c3, c4, c5, c6, c7, c8, c9, c10, c11⟩ := A.2.2.2.1 c hc
  have hkd := (A.1.2.2 b (by show qk g b ≠ 0; omega)).1.trans hk
  have hkc := (A.1.2.2 c (by show qk g c ≠ 0; omega)).1.trans hc
  have eB : qB (wM g b ((qB g b).length + n)) b = qB g b := rfl
  have eB2 : qB (wM g b ((qB g b).length + n)) c = qB g c := rfl
  have hcap : (qB g b).length + n ≤ qC (wM g b ((qB g b).length + n)) b := by
    show _ ≤ va_up _ _ _ _
    rw [vu_eq]
    unfold gcap
    split <;> omega
  rw [eB] at b2 b11
  rw [eB2] at c2 c8 c11
  have hr : r2 ≠ r := fun q => hbc (by rw [← c6, ← b6, q])
  have el : (qB g b ++ ((qB g c).drop f).take n).length = (qB g b).length + n := by
    rw [List.length_append, List.length_take, List.length_drop]
    omega
  have e2 : (wM g b ((qB g b).length + n)) = (wM g b (qB g b ++ ((qB g c).drop f).take n).length) := by rw [el]
  refine ⟨(), sF (sR h r (va_cpy (ar h r2) (ar h r) f (qB g b).length n)) 401 b (.int (nI ((qB g b).length + n))), wB g b (qB g b ++ ((qB g c).drop f).take n), ?_, ?_, hx⟩
  · rw [r_gR (c := 4) (k := 0) hkc c1, r_gR (c := 4) (k := 0) hkd b1, r_gI (c := 4) (k := 1) hkd b2, r_cb c3 b3 (by omega) (by omega) (by omega) (by omega)]
    refine (r_gI (h := sR h r (va_cpy (ar h r2) (ar h r) f (qB g b).length n)) (c := 4) (k := 1) (x := nI (qB g b).length) hkd b2).trans ?_
    refine (r_pV (h := sR h r (va_cpy (ar h r2) (ar h r) f (qB g b).length n)) hkd).trans ?_
    rw [nI_add]
    rfl
  · rw [← wB_eq, ← e2]
    refine abs_wb A hk B1 ⟨rfl, rfl, rfl, rfl, rfl, rfl⟩ (fun j a hj => u2_ne hj) (fun a ha => ?_) ?_ ?_ (fun i hi => ?_)
    · exact vu_ne ha
    · rw [el]
      exact u2_eq
    · rw [el]
      exact hcap
    · rw [el] at hi
      show _ = some (va_up (ar h) r (va_cpy (ar h r2) (ar h r) f (qB g b).length n) r i)
      rw [vu_eq]
      unfold va_cpy
      by_cases e : i < (qB g b).length
      · rw [List.getElem?_append_left e, if_neg (by omega)]
        exact b11 i e
      · rw [if_pos (by omega), List.getElem?_append_right (by omega), List.getElem?_take, if_pos (by omega), List.getElem?_drop]
        exact c11 _ (by omega)
theorem ok_bchg {b j : Nat} {x v : Int32} {k : Unit → M α} (hk : qk g b = 5) (hj : x = nI j) (hl : j < (qB g b).length) (hx : ok (k ()) (wX g b ((qB g b).set j (b8 v))) Q) : ok (bd (X1_change b x v) k) g Q := by
  subst hj
  refine ok_wr () _ (fun h ha => ?_) hx
  obtain ⟨w, A⟩ := ha
  obtain ⟨r, B1⟩ := A.2.2.2.1 b hk
  have B2 := B1
  obtain ⟨b1, b2, b3, b4, b5, b6, b7, b8', b9, b10, b11⟩ := B2
  have hkd := (A.1.2.2 b (by omega)).1.trans hk
  refine ⟨sA h r j (b8 v), ?_, ?_⟩
  · unfold X1_change
    rw [r_it, if_neg (nI_pos (by omega)), r_gI (c := 4) (k := 1) hkd b2, r_it, if_neg (nI_ge hl (by omega)), r_gR (c := 4) (k := 0) hkd b1, r_as b3 (by omega) (by omega), if_pos rfl]
    have := b8_b8 v
    unfold b8 at this
    rw [this]
    rfl
  · refine abs_wb A hk B1 ⟨rfl, rfl, rfl, rfl, rfl, rfl⟩ (fun j a hj => rfl) (fun a ha => ?_) ?_ ?_ (fun i hi => ?_)
    · funext i
      exact u2_ne (by omega)
    · rw [List.length_set]
      exact b2
    · rw [List.length_set]
      exact b8'
    · rw [List.length_set] at hi
      show _ = some (u2 (ar h) r j (b8 v) r i)
      rw [List.getElem?_set]
      by_cases e : j = i
      · subst e
        rw [if_pos rfl, if_pos hi, u2_eq]
      · rw [if_neg e, u2_ne (by omega)]
        exact b11 i hi
theorem ok_bcut {b n : Nat} {x : Int32} {k : Unit → M α} (hk : qk g b = 5) (hi : x = nI n) (hn : n < 2 ^ 31) (hx : ok (k ()) (wX g b ((qB g b).take n)) Q) : ok (bd (X1_cutTo b x) k) g Q := by
  subst hi
  refine ok_wr () _ (fun h ha => ?_) hx
  obtain ⟨w, A⟩ := ha
  obtain ⟨r, B1⟩ := A.2.2.2.1 b hk
  have B2 := B1
  obtain ⟨b1, b2, b3, b4, b5, b6, b7, b8', b9, b10, b11⟩ := B2
  have hkd := (A.1.2.2 b (by omega)).1.trans hk
  unfold X1_cutTo
  rw [r_it, if_neg (nI_pos (by omega)), r_gI (c := 4) (k := 1) hkd b2, r_it]
  by_cases e : (qB g b).length ≤ n
  · rw [if_pos (nI_le e (by omega)), List.take_of_length_le e, wX_id]
    exact ⟨h, rfl, w, A⟩
  · rw [if_neg (nI_ge (by omega) (by omega)), r_pV hkd]
    refine ⟨_, rfl, ?_⟩
    refine abs_wb A hk B1 ⟨rfl, rfl, rfl, rfl, rfl, rfl⟩ (fun j a hj => u2_ne hj) (fun a ha => rfl) ?_ ?_ (fun i hi => ?_)
    · rw [List.length_take, Nat.min_eq_left (by omega)]
      exact u2_eq
    · rw [List.length_take]
      omega
    · rw [List.length_take] at hi
      rw [List.getElem?_take, if_pos (by omega)]
      exact b11 i (by omega)
theorem ok_bclr {b : Nat} {k : Unit → M α} (hk : qk g b = 5) (hx : ok (k ()) (wX g b []) Q) : ok (bd (X1_clear b) k) g Q := by
  refine ok_wr () _ (fun h ha => ?_) hx
  obtain ⟨w, A⟩ := ha
  obtain ⟨r, B1⟩ := A.2.2.2.1 b hk
  have hkd := (A.1.2.2 b (by omega)).1.trans hk
  unfold X1_clear
  rw [r_pV hkd]
  refine ⟨_, rfl, ?_⟩
  refine abs_wb A hk B1 ⟨rfl, rfl, rfl, rfl, rfl, rfl⟩ (fun j a hj => u2_ne hj) (fun a ha => rfl) u2_eq (Nat.zero_le _) (fun i hi => absurd hi (Nat.not_lt_zero _))
end
