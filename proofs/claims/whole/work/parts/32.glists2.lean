section
variable {α : Type} {g : Gh} {Q : α → Gh → Prop}
theorem ok_lsize {a : Nat} {k : Int32 → M α} (hk : qk g a = 3) (hx : ok (k (nI (qL g a).length)) g Q) : ok (bd (Jx4a65c_size_8abf5 a) k) g Q := by
  refine ok_rd _ (fun h ha => ?_) hx
  obtain ⟨w, A⟩ := ha
  obtain ⟨e, b0, b1, b2, _⟩ := A.2.2.2.2.1 a hk
  exact r_gI (c := 2) (k := 2) ((A.1.2.2 a (by omega)).1.trans hk) b2
/-- what a list can be -/
theorem ok_capL {a : Nat} {x : M α} (hk : qk g a = 3) (hx : (qL g a).length ≤ 60000 → (qL g a).length ≤ qE g a → ok x g Q) : ok x g Q := by
  intro h ha
  obtain ⟨w, A⟩ := ha
  obtain ⟨e, b0, b1, b2, b3⟩ := A.2.2.2.2.1 a hk
  refine hx ?_ ?_ h ⟨w, A⟩
  · rcases b3 with ⟨c1, c2, c3, c4⟩ | ⟨c1, c2, c3, c4, c5, c6, c7, c8, c9⟩
    · rw [c1]
      exact Nat.zero_le _
    · omega
  · rcases b3 with ⟨c1, c2, c3, c4⟩ | ⟨c1, c2, c3, c4, c5, c6, c7, c8, c9⟩
    · rw [c1]
      exact Nat.zero_le _
    · omega
theorem ok_lempty {a : Nat} {k : Int32 → M α} (hk : qk g a = 3) (hx : ok (k (if (qL g a).length = 0 then 1 else 0)) g Q) : ok (bd (Jx4a65c_isEmpty_aae02 a) k) g Q := by
  refine ok_capL hk (fun h6 _ => ?_)
  refine ok_rd _ (fun h ha => ?_) hx
  obtain ⟨w, A⟩ := ha
  obtain ⟨e, b0, b1, b2, _⟩ := A.2.2.2.2.1 a hk
  unfold Jx4a65c_isEmpty_aae02
  rw [r_gI (c := 2) (k := 2) ((A.1.2.2 a (by omega)).1.trans hk) b2, r_it]
  by_cases e0 : (qL g a).length = 0
  · rw [e0, if_neg (by decide), if_pos rfl]
    rfl
  · rw [if_pos (nI_ne0 (by omega) (by omega)), if_neg e0]
    rfl
theorem ok_lget {a j d : Nat} {x : Int32} {k : Nat → M α} (hk : qk g a = 3) (hj : x = nI j) (hd : (qL g a)[j]? = some d) (hx : ok (k d) g Q) : ok (bd (Jx4a65c_get_915e3 a x) k) g Q := by
  subst hj
  refine ok_rd _ (fun h ha => ?_) hx
  obtain ⟨w, A⟩ := ha
  obtain ⟨e, b0, b1, b2, b3⟩ := A.2.2.2.2.1 a hk
  have hkd := (A.1.2.2 a (by omega)).1.trans hk
  have hj := lt_of_some hd
  rcases b3 with ⟨c1, c2, c3, c4⟩ | ⟨c1, c2, c3, c4, c5, c6, c7, c8, c9⟩
  · rw [c1] at hj
    exact absurd hj (Nat.not_lt_zero _)
  · unfold Jx4a65c_get_915e3
    have ci : (J15_checkIndex_7cf53 (nI j) (nI (qL g a).length)).1 h = some (nI j, h) := by
      unfold J15_checkIndex_7cf53
      refine (r_bd (v := nI j) (h1 := h) ?_).trans rfl
      unfold J3_checkIndex_8e157
      rw [r_it, if_neg (nI_pos (by omega)), r_it, if_pos (nI_lt hj (by omega))]
      rfl
    rw [r_gI (c := 2) (k := 2) hkd b2, r_bd ci, r_ck hkd]
    refine (r_bd (v := d) (h1 := h) ?_).trans rfl
    unfold Jx4a65c_elementData_915e3
    rw [r_gR (c := 2) (k := 1) hkd b1, r_ao c1 (by omega) (by omega) (by rw [← c9 j hj, hd])]
    rfl
theorem okO_of {h : Hp} {d : Nat} (ha : Abs h g) (hd : qk g d = 4 ∨ qk g d = 8 ∨ qk g d = 11) : okO h (some d) = true := by
  obtain ⟨w, A⟩ := ha
  have e := (A.1.2.2 d (by omega)).1
  show (kd h d == 4 || kd h d == 8 || kd h d == 11) = true
  rw [Bool.or_eq_true, Bool.or_eq_true, beq_iff_eq, beq_iff_eq, beq_iff_eq]
  omega
theorem ok_ladd {a d : Nat} {k : Int32 → M α} (hk : qk g a = 3) (hd : qk g d = 4 ∨ qk g d = 8 ∨ qk g d = 11) (h6 : (qL g a).length ≤ 30000) (hx : ok (k 1) (wL g a (qL g a ++ [d])) Q) : ok (bd (Jx4a65c_add_9ea2d a d) k) g Q := by
  refine ok_wr 1 _ (fun h ha => ?_) hx
  have hoO := okO_of ha hd
  obtain ⟨w, A⟩ := ha
  obtain ⟨e, L1⟩ := A.2.2.2.2.1 a hk
  have L2 := L1
  obtain ⟨⟨z, b0⟩, b1, b2, b3⟩ := L2
  have hkd := (A.1.2.2 a (by omega)).1.trans hk
  have A1 := abs_mod (a := a) (z := z + 1) A
  have hh : ∀ {e1 : Nat}, e1 = e → abL1 w (sF h 200 a (.int (z + 1))) g a e1 := fun he => by
    subst he
    refine ⟨⟨_, u2_eq⟩, b1, b2, b3⟩
  have L3 := hh rfl
  have el : (qL g a ++ [d]).length = (qL g a).length + 1 := by rw [List.length_append]; rfl
  -- the storing
  have store : ∀ (w2 : Nat → Nat) (h2 : Hp) (e2 : Nat), okO h2 (some d) = true → kd h2 a = 3 → Abw w2 h2 (wG g a ((qL g a).length + 1)) → abL1 w2 h2 (wG g a ((qL g a).length + 1)) a e2 → kd h2 e2 = 24 → ∃ h3, (Jx4a65c_add_72be8_b11 a d e2 (nI (qL g a).length)).1 h2 = some ((), h3) ∧ Abs h3 (wL g a (qL g a ++ [d])) := by
    intro w2 h2 e2 ho2 hk2 A2 M2 hke
    have M3 := M2
    obtain ⟨⟨z2, m0⟩, m1, m2, m3⟩ := M3
    rcases m3 with ⟨c1, c2, c3, c4⟩ | ⟨c1, c2, c3, c4, c5, c6, c7, c8, c9⟩
    · omega
    have hcap : (qL g a).length + 1 ≤ qE (wG g a ((qL g a).length + 1)) a := by
      show _ ≤ va_up _ _ _ _
      rw [vu_eq]
      unfold ecap
      split
      · omega
      · split <;> omega
    unfold Jx4a65c_add_72be8_b11
    refine ⟨sF (sO h2 e2 (qL g a).length (some d)) 202 a (.int (nI ((qL g a).length + 1))), ?_, ?_⟩
    · rw [r_az hke (by omega) (by omega) ho2]
      refine (r_pV (h := sO h2 e2 (qL g a).length (some d)) hk2).trans ?_
      rw [nI_1]
      rfl
    · rw [← wL_eq, el]
      refine ⟨w2, (abs_wl (h' := sF (sO h2 e2 (qL g a).length (some d)) 202 a (.int (nI ((qL g a).length + 1)))) (e := e2) (l := qL g a ++ [d]) A2 hk M2 hke ⟨rfl, rfl, rfl, rfl, rfl, rfl⟩ (fun j b hj => u2_ne (by omega)) (fun b hb => ?_) ⟨z2, ?_⟩ ?_ ?_ (fun i hi => ?_)).1⟩
      · funext i
        exact u2_ne (by omega)
      · exact m0
      · rw [el]
        exact u2_eq
      · rw [el]
        exact hcap
      · rw [el] at hi
        show _ = u2 (ra h2) e2 (qL g a).length (some d) e2 i
        by_cases ei : i < (qL g a).length
        · rw [List.getElem?_append_left ei, u2_ne (by omega)]
          exact c9 i ei
        · have : i = (qL g a).length := by omega
          subst this
          rw [u2_eq, List.getElem?_append_right (by omega), Nat.sub_self]
          rfl
  unfold Jx4a65c_add_9ea2d
  rw [r_gI (c := 2) (k := 0) hkd b0, r_pV hkd]
  have goal : ∃ h1, (bd (Jx4a65c_add_72be8 a d e (nI (qL g a).length)) (fun _ => pu 1) : M Int32).1 (sF h 200 a (.int (z + 1))) = some (1, h1) ∧ Abs h1 (wL g a (qL g a ++ [d])) := by
    unfold Jx4a65c_add_72be8
    by_cases ef : (qL g a).length + 1 ≤ qE g a
    · have L4 := L3
      rcases b3 with ⟨c1, c2, c3, c4⟩ | ⟨c1, c2, c3, c4, c5, c6, c7, c8, c9⟩
      · omega
      have wid := wG_id ef
      obtain ⟨h3, r3, a3⟩ := store w (sF h 200 a (.int (z + 1))) e hoO hkd (by rw [wid]; exact A1) (by rw [wid]; exact L3) c1
      refine ⟨h3, ?_, a3⟩
      refine (r_bd (v := ()) (h1 := h3) ?_).trans rfl
      refine (r_ay (h := sF h 200 a (.int (z + 1))) (show 21 ≤ kd h e ∧ kd h e ≤ 24 by omega)).trans ?_
      rw [r_it, if_pos]
      · exact r3
      · show ¬ nI _ = nI (ln h e)
        rw [nI_eq (by omega) (by omega)]
        omega
    · have hle : (qL g a).length ≤ qE g a := by
        rcases b3 with ⟨c1, c2, c3, c4⟩ | ⟨c1, c2, c3, c4, c5, c6, c7, c8, c9⟩
        · rw [c1]; exact Nat.zero_le _
        · exact c6
      have hfull : qE g a = (qL g a).length := by omega
      obtain ⟨h2, w2, r2, A2, M2, k2⟩ := grow_run A1 hk L3 hfull h6
      have hoO2 : okO h2 (some d) = true := okO_of (g := wG g a ((qL g a).length + 1)) ⟨w2, A2⟩ hd
      have hk2 : kd h2 a = 3 := (A2.1.2.2 a (by show qk g a ≠ 0; omega)).1.trans hk
      obtain ⟨h3, r3, a3⟩ := store w2 h2 _ hoO2 hk2 A2 M2 k2
      refine ⟨h3, ?_, a3⟩
      refine (r_bd (v := ()) (h1 := h3) ?_).trans rfl
      have ay0 : (bd (ay e) (fun x1 => it (¬ (nI (qL g a).length) = x1) (Jx4a65c_add_72be8_b11 a d e (nI (qL g a).length)) (bd (ck 2 a) (fun _ => bd (Jx4a65c_grow_d5877 a) (fun y2 => Jx4a65c_add_72be8_b11 a d y2 (nI (qL g a).length)))))).1 (sF h 200 a (.int (z + 1))) = (bd (ck 2 a) (fun _ => bd (Jx4a65c_grow_d5877 a) (fun y2 => Jx4a65c_add_72be8_b11 a d y2 (nI (qL g a).length)))).1 (sF h 200 a (.int (z + 1))) := by
        rcases b3 with ⟨c1, c2, c3, c4⟩ | ⟨c1, c2, c3, c4, c5, c6, c7, c8, c9⟩
        · refine (r_ay0 (h := sF h 200 a (.int (z + 1))) c3).trans ?_
          rw [r_it, if_neg]
          rw [c1]
          exact fun q => q rfl
        · refine (r_ay (h := sF h 200 a (.int (z + 1))) (show 21 ≤ kd h e ∧ kd h e ≤ 24 by omega)).trans ?_
          rw [r_it, if_neg]
          have : ln (sF h 200 a (.int (z + 1))) e = (qL g a).length := c5.trans hfull
          rw [this]
          exact fun q => q rfl
      refine ay0.trans ?_
      refine (r_ck (h := sF h 200 a (.int (z + 1))) hkd).trans ?_
      rw [r_bd r2]
      exact r3
  obtain ⟨h1, e1, a1⟩ := goal
  refine ⟨h1, ?_, a1⟩
  refine (r_gR (h := sF h 200 a (.int (z + 1))) (c := 2) (k := 1) hkd b1).trans ?_
  refine (r_gI (h := sF h 200 a (.int (z + 1))) (c := 2) (k := 2) hkd b2).trans ?_
  refine (r_ck (h := sF h 200 a (.int (z + 1))) hkd).trans ?_
  exact e1
theorem ok_lins {a d j : Nat} {x : Int32} {k : Unit → M α} (hk : qk g a = 3) (hj : x = nI j) (hjl : j ≤ (qL g a).length) (hd : qk g d = 4 ∨ qk g d = 8 ∨ qk g d = 11) (h6 : (qL g a).length ≤ 30000) (hx : ok (k ()) (wL g a ((qL g a).take j ++ d :: (qL g a).drop j)) Q) : ok (bd (Jx4a65c_add_7a177 a x d) k) g Q := by
  subst hj
  refine ok_wr () _ (fun h ha => ?_) hx
  have hoO := okO_of ha hd
  obtain ⟨w, A⟩ := ha
  obtain ⟨e, L1⟩ := A.2.2.2.2.1 a hk
  have L2 := L1
  obtain ⟨⟨z, b0⟩, b1, b2, b3⟩ := L2
  have hkd := (A.1.2.2 a (by omega)).1.trans hk
  have A1 := abs_mod (a := a) (z := z + 1) A
  have L3 : abL1 w (sF h 200 a (.int (z + 1))) g a e := ⟨⟨_, u2_eq⟩, b1, b2, b3⟩
  have el : ((qL g a).take j ++ d :: (qL g a).drop j).length = (qL g a).length + 1 := by
    rw [List.length_append, List.length_take, List.length_cons, List.length_drop]
    omega
  have store : ∀ (w2 : Nat → Nat) (h2 : Hp) (e2 : Nat), okO h2 (some d) = true → kd h2 a = 3 → Abw w2 h2 (wG g a ((qL g a).length + 1)) → abL1 w2 h2 (wG g a ((qL g a).length + 1)) a e2 → kd h2 e2 = 24 → ∃ h3, (Jx4a65c_add_7a177_b38 a (nI j) d (nI (qL g a).length) e2).1 h2 = some ((), h3) ∧ Abs h3 (wL g a ((qL g a).take j ++ d :: (qL g a).drop j)) := by
    intro w2 h2 e2 ho2 hk2 A2 M2 hke
    have M3 := M2
    obtain ⟨⟨z2, m0⟩, m1, m2, m3⟩ := M3
    rcases m3 with ⟨c1, c2, c3, c4⟩ | ⟨c1, c2, c3, c4, c5, c6, c7, c8, c9⟩
    · omega
    have hcap : (qL g a).length + 1 ≤ qE (wG g a ((qL g a).length + 1)) a := by
      show _ ≤ va_up _ _ _ _
      rw [vu_eq]
      unfold ecap
      split
      · omega
      · split <;> omega
    unfold Jx4a65c_add_7a177_b38
    refine ⟨sF (sO (sQ h2 e2 (va_cpy (ra h2 e2) (ra h2 e2) j (j + 1) ((qL g a).length - j))) e2 j (some d)) 202 a (.int (nI ((qL g a).length + 1))), ?_, ?_⟩
    · rw [nI_1, pk_sub hjl, r_cr hke hke (by omega) (by omega) (by omega) (by omega)]
      refine (r_az (h := sQ h2 e2 (va_cpy (ra h2 e2) (ra h2 e2) j (j + 1) ((qL g a).length - j))) (r := some d) hke (show j < ln h2 e2 by omega) (show ln h2 e2 ≤ 60000 by omega) ho2).trans ?_
      refine (r_pV (h := sO (sQ h2 e2 (va_cpy (ra h2 e2) (ra h2 e2) j (j + 1) ((qL g a).length - j))) e2 j (some d)) hk2).trans ?_
      rw [nI_1]
      rfl
    · rw [← wL_eq, el]
      refine ⟨w2, (abs_wl (h' := sF (sO (sQ h2 e2 (va_cpy (ra h2 e2) (ra h2 e2) j (j + 1) ((qL g a).length - j))) e2 j (some d)) 202 a (.int (nI ((qL g a).length + 1)))) (e := e2) (l := (qL g a).take j ++ d :: (qL g a).drop j) A2 hk M2 hke ⟨rfl, rfl, rfl, rfl, rfl, rfl⟩ (fun j b hj => u2_ne (by omega)) (fun b hb => ?_) ⟨z2, ?_⟩ ?_ ?_ (fun i hi => ?_)).1⟩
      · funext i
        exact (u2_ne (by omega)).trans (congrFun (vu_ne hb) i)
      · exact m0
      · rw [el]
        exact u2_eq
      · rw [el]
        exact hcap
      · rw [el] at hi
        show _ = u2 (va_up (ra h2) e2 (va_cpy (ra h2 e2) (ra h2 e2) j (j + 1) ((qL g a).length - j))) e2 j (some d) e2 i
        have lt : ((qL g a).take j).length = j := by rw [List.length_take]; omega
        by_cases ei : i < j
        · rw [List.getElem?_append_left (by omega), u2_ne (by omega), vu_eq, List.getElem?_take, if_pos ei]
          unfold va_cpy
          rw [if_neg (by omega)]
          exact c9 i (show i < (qL g a).length by omega)
        · rw [List.getElem?_append_right (by omega), lt]
          by_cases ej : i = j
          · subst ej
            rw [u2_eq, Nat.sub_self]
            rfl
          · rw [u2_ne (by omega), vu_eq]
            unfold va_cpy
            rw [if_pos (by omega)]
            have e1 : i - j = (i - (j + 1)) + 1 := by omega
            rw [e1, List.getElem?_cons_succ, List.getElem?_drop]
            exact c9 _ (show j + (i - (j + 1)) < (qL g a).length by omega)
  have goal : ∃ h1, (bd (ay e) (fun x4 => it (¬ (nI (qL g a).length) = x4) (Jx4a65c_add_7a177_b38 a (nI j) d (nI (qL g a).length) e) (bd (ck 2 a) (fun _ => bd (Jx4a65c_grow_d5877 a) (fun y5 => Jx4a65c_add_7a177_b38 a (nI j) d (nI (qL g a).length) y5))))).1 (sF h 200 a (.int (z + 1))) = some ((), h1) ∧ Abs h1 (wL g a ((qL g a).take j ++ d :: (qL g a).drop j)) := by
    by_cases ef : (qL g a).length + 1 ≤ qE g a
    · rcases b3 with ⟨c1, c2, c3, c4⟩ | ⟨c1, c2, c3, c4, c5, c6, c7, c8, c9⟩
      · omega
      have wid := wG_id ef
      obtain ⟨h3, r3, a3⟩ := store w (sF h 200 a (.int (z + 1))) e hoO hkd (by rw [wid]; exact A1) (by rw [wid]; exact L3) c1
      refine ⟨h3, ?_, a3⟩
      refine (r_ay (h := sF h 200 a (.int (z + 1))) (show 21 ≤ kd h e ∧ kd h e ≤ 24 by omega)).trans ?_
      rw [r_it, if_pos]
      · exact r3
      · show ¬ nI _ = nI (ln h e)
        rw [nI_eq (by omega) (by omega)]
        omega
    · have hle : (qL g a).length ≤ qE g a := by
        rcases b3 with ⟨c1, c2, c3, c4⟩ | ⟨c1, c2, c3, c4, c5, c6, c7, c8, c9⟩
        · rw [c1]; exact Nat.zero_le _
        · exact c6
      have hfull : qE g a = (qL g a).length := by omega
      obtain ⟨h2, w2, r2, A2, M2, k2⟩ := grow_run A1 hk L3 hfull h6
      have hoO2 : okO h2 (some d) = true := okO_of (g := wG g a ((qL g a).length + 1)) ⟨w2, A2⟩ hd
      have hk2 : kd h2 a = 3 := (A2.1.2.2 a (by show qk g a ≠ 0; omega)).1.trans hk
      obtain ⟨h3, r3, a3⟩ := store w2 h2 _ hoO2 hk2 A2 M2 k2
      refine ⟨h3, ?_, a3⟩
      have ay0 : (bd (ay e) (fun x4 => it (¬ (nI (qL g a).length) = x4) (Jx4a65c_add_7a177_b38 a (nI j) d (nI (qL g a).length) e) (bd (ck 2 a) (fun _ => bd (Jx4a65c_grow_d5877 a) (fun y5 => Jx4a65c_add_7a177_b38 a (nI j) d (nI (qL g a).length) y5))))).1 (sF h 200 a (.int (z + 1))) = (bd (ck 2 a) (fun _ => bd (Jx4a65c_grow_d5877 a) (fun y5 => Jx4a65c_add_7a177_b38 a (nI j) d (nI (qL g a).length) y5))).1 (sF h 200 a (.int (z + 1))) := by
        rcases b3 with ⟨c1, c2, c3, c4⟩ | ⟨c1, c2, c3, c4, c5, c6, c7, c8, c9⟩
        · refine (r_ay0 (h := sF h 200 a (.int (z + 1))) c3).trans ?_
          rw [r_it, if_neg]
          rw [c1]
          exact fun q => q rfl
        · refine (r_ay (h := sF h 200 a (.int (z + 1))) (show 21 ≤ kd h e ∧ kd h e ≤ 24 by omega)).trans ?_
          rw [r_it, if_neg]
          have : ln (sF h 200 a (.int (z + 1))) e = (qL g a).length := c5.trans hfull
          rw [this]
          exact fun q => q rfl
      refine ay0.trans ?_
      refine (r_ck (h := sF h 200 a (.int (z + 1))) hkd).trans ?_
      rw [r_bd r2]
      exact r3
  obtain ⟨h1, e1, a1⟩ := goal
  refine ⟨h1, ?_, a1⟩
  have rc : (Jx4a65c_rangeCheckForAdd_d00df a (nI j)).1 h = some ((), h) := by
    unfold Jx4a65c_rangeCheckForAdd_d00df
    rw [r_gI (c := 2) (k := 2) hkd b2, r_it, if_neg (nI_nlt hjl (by omega)), r_it, if_pos (nI_pos' (by omega))]
    rfl
  unfold Jx4a65c_add_7a177
  rw [r_ck hkd, r_bd rc, r_gI (c := 2) (k := 0) hkd b0, r_pV hkd]
  refine (r_gI (h := sF h 200 a (.int (z + 1))) (c := 2) (k := 2) hkd b2).trans ?_
  refine (r_gR (h := sF h 200 a (.int (z + 1))) (c := 2) (k := 1) hkd b1).trans ?_
  exact e1
theorem ok_lrem {a d j : Nat} {x : Int32} {k : Nat → M α} (hk : qk g a = 3) (hj : x = nI j) (hd : (qL g a)[j]? = some d) (hx : ok (k d) (wl g a ((qL g a).eraseIdx j)) Q) : ok (bd (Jx4a65c_remove_915e3 a x) k) g Q := by
  subst hj
  refine ok_wr d _ (fun h ha => ?_) hx
  obtain ⟨w, A⟩ := ha
  obtain ⟨e, L1⟩ := A.2.2.2.2.1 a hk
  have L2 := L1
  obtain ⟨⟨z, b0⟩, b1, b2, b3⟩ := L2
  have hkd := (A.1.2.2 a (by omega)).1.trans hk
  have hjl := lt_of_some hd
  rcases b3 with ⟨c1, c2, c3, c4⟩ | ⟨c1, c2, c3, c4, c5, c6, c7, c8, c9⟩
  · rw [c1] at hjl
    exact absurd hjl (Nat.not_lt_zero _)
  have el : ((qL g a).eraseIdx j).length = (qL g a).length - 1 := List.length_eraseIdx_of_lt hjl
  have ci : (J15_checkIndex_7cf53 (nI j) (nI (qL g a).length)).1 h = some (nI j, h) := by
    unfold J15_checkIndex_7cf53
    refine (r_bd (v := nI j) (h1 := h) ?_).trans rfl
    unfold J3_checkIndex_8e157
    rw [r_it, if_neg (nI_pos (by omega)), r_it, if_pos (nI_lt hjl (by omega))]
    rfl
  have m1 : nI (qL g a).length - 1 = nI ((qL g a).length - 1) := pk_sub (b := 1) (by omega)
  -- the heap behind the move
  have mv : ∃ h2, (∀ {β : Type} (kk : M β), (it ((nI (qL g a).length - 1) ≤ nI j) kk (bd (cr e (nI j + 1) e (nI j) (nI ((qL g a).length - 1) - nI j)) (fun _ => kk))).1 (sF h 200 a (.int (z + 1))) = kk.1 h2) ∧ h2 = sQ (sF h 200 a (.int (z + 1))) e (fun i => if j ≤ i ∧ i + 1 < (qL g a).length then ra h e (i + 1) else ra h e i) := by
    refine ⟨_, fun kk => ?_, rfl⟩
    rw [m1, r_it]
    by_cases e1 : (qL g a).length - 1 ≤ j
    · rw [if_pos (nI_le e1 (by omega))]
      congr 1
      have : (fun i => if j ≤ i ∧ i + 1 < (qL g a).length then ra h e (i + 1) else ra h e i) = ra (sF h 200 a (.int (z + 1))) e := by
        funext i
        rw [if_neg (by omega)]
        rfl
      rw [this]
      unfold sQ
      rw [va_same rfl]
      rfl
    · rw [if_neg (nI_ge (by omega) (by omega)), nI_1, pk_sub (by omega)]
      refine (r_cr (h := sF h 200 a (.int (z + 1))) c1 c1 (show j + 1 + ((qL g a).length - 1 - j) ≤ ln h e by omega) (show j + ((qL g a).length - 1 - j) ≤ ln h e by omega) (show ln h e ≤ 60000 by omega) (show ln h e ≤ 60000 by omega)).trans ?_
      have ex : va_cpy (ra (sF h 200 a (.int (z + 1))) e) (ra (sF h 200 a (.int (z + 1))) e) (j + 1) j ((qL g a).length - 1 - j) = (fun i => if j ≤ i ∧ i + 1 < (qL g a).length then ra h e (i + 1) else ra h e i) := by
       funext i
       unfold va_cpy
       by_cases e2 : j ≤ i ∧ i + 1 < (qL g a).length
       · rw [if_pos (by omega), if_pos e2]
         show ra h e _ = _
         congr 1
         omega
       · rw [if_neg (by omega), if_neg e2]
         rfl
      rw [ex]
  obtain ⟨h2, rm, eh⟩ := mv
  have hk2 : kd h2 = kd h := by rw [eh]; rfl
  have hl2 : ln h2 = ln h := by rw [eh]; rfl
  refine ⟨sO (sF h2 202 a (.int (nI ((qL g a).length - 1)))) e ((qL g a).length - 1) none, ?_, ?_⟩
  · unfold Jx4a65c_remove_915e3
    rw [r_gI (c := 2) (k := 2) hkd b2, r_bd ci, r_gR (c := 2) (k := 1) hkd b1, r_ao c1 (by omega) (by omega) (by rw [← c9 j hjl, hd]), r_ck hkd]
    refine (r_bd (v := ()) (h1 := sO (sF h2 202 a (.int (nI ((qL g a).length - 1)))) e ((qL g a).length - 1) none) ?_).trans rfl
    unfold Jx4a65c_fastRemove_b59b0
    rw [r_gI (c := 2) (k := 0) hkd b0, r_pV hkd]
    refine (r_gI (h := sF h 200 a (.int (z + 1))) (c := 2) (k := 2) hkd b2).trans ?_
    rw [r_pu]
    have e5 := rm (Jx4a65c_fastRemove_b59b0_b34 a e (nI ((qL g a).length - 1)))
    rw [← m1] at e5
    refine e5.trans ?_
    unfold Jx4a65c_fastRemove_b59b0_b34
    rw [m1]
    refine (r_pV (by rw [hk2]; exact hkd)).trans ?_
    refine (r_az (h := sF h2 202 a (.int (nI ((qL g a).length - 1)))) (i := (qL g a).length - 1) (show kd h2 e = 24 by rw [hk2]; exact c1) (show _ < ln h2 e by rw [hl2]; omega) (show ln h2 e ≤ 60000 by rw [hl2]; omega) rfl).trans rfl
  · refine ⟨w, (abs_wl (h' := sO (sF h2 202 a (.int (nI ((qL g a).length - 1)))) e ((qL g a).length - 1) none) (e := e) (l := (qL g a).eraseIdx j) A hk L1 c1 ?_ (fun j' b hj => ?_) (fun b hb => ?_) ⟨z + 1, ?_⟩ ?_ ?_ (fun i hi => ?_)).1⟩
    · rw [eh]
      exact ⟨rfl, rfl, rfl, rfl, rfl, rfl⟩
    · rw [eh]
      exact (u2_ne (by omega)).trans (u2_ne (by omega))
    · rw [eh]
      funext i
      exact (u2_ne (by omega)).trans (congrFun (vu_ne hb) i)
    · rw [eh]
      exact (u2_eq : u2 (fd h) 200 a (Value.int (z + 1)) 200 a = _)
    · rw [el, eh]
      exact u2_eq
    · rw [el]
      omega
    · rw [el] at hi
      have e6 : ra (sO (sF h2 202 a (.int (nI ((qL g a).length - 1)))) e ((qL g a).length - 1) none) e i = if j ≤ i ∧ i + 1 < (qL g a).length then ra h e (i + 1) else ra h e i := by
        rw [eh]
        refine (u2_ne (by omega)).trans ?_
        exact congrFun vu_eq i
      rw [e6, List.getElem?_eraseIdx]
      by_cases e7 : i < j
      · rw [if_pos e7, if_neg (by omega)]
        exact c9 i (by omega)
      · rw [if_neg e7, if_pos (by omega)]
        exact c9 (i + 1) (by omega)
end
