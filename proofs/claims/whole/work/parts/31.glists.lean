/-! ArrayLists, as lists -/
def wl (g : Gh) (a : Nat) (l : List Nat) : Gh := (qn g, qs g, qk g, qi g, qr g, qB g, qC g, va_up (qL g) a l, qE g, qA g, qW g)
def wG (g : Gh) (a m : Nat) : Gh := (qn g + (if m ≤ qE g a then 0 else 1), qs g + (if m ≤ qE g a then 0 else ecap (qE g a) m), qk g, qi g, qr g, qB g, qC g, qL g, va_up (qE g) a (ecap (qE g a) m), qA g, qW g)
theorem wL_eq (g : Gh) (a : Nat) (l : List Nat) : wl (wG g a l.length) a l = wL g a l := rfl
theorem wG_id {g : Gh} {b m : Nat} (h : m ≤ qE g b) : wG g b m = g := by
  unfold wG
  rw [if_pos h, if_pos h]
  have e : va_up (qE g) b (ecap (qE g b) m) = qE g := by
    funext x
    unfold va_up ecap
    rw [if_pos h]
    split
    · next e => rw [e]
    · rfl
  rw [e]
  rfl
theorem abs_wl {w : Nat → Nat} {h h' : Hp} {g : Gh} {a e : Nat} {l : List Nat} (A : Abw w h g) (hk : qk g a = 3) (L1 : abL1 w h g a e) (hke : kd h e = 24)
    (hs : hn h' = hn h ∧ sl h' = sl h ∧ kd h' = kd h ∧ ln h' = ln h ∧ la h' = la h ∧ ar h' = ar h) (hf : ∀ j b, ¬ ((j = 200 ∨ j = 202) ∧ b = a) → fd h' j b = fd h j b) (hra : ∀ b, b ≠ e → ra h' b = ra h b)
    (h0 : ∃ z, fd h' 200 a = .int z) (h1 : fd h' 202 a = .int (nI l.length)) (hl : l.length ≤ qE g a) (hc : ∀ i, i < l.length → l[i]? = ra h' e i) : Abw w h' (wl g a l) ∧ abL1 w h' (wl g a l) a e := by
  obtain ⟨⟨k1, k2, k3⟩, a2, a3, a4, a5, a6, a7, a8⟩ := A
  obtain ⟨s1, s2, s3, s4, s5, s6⟩ := hs
  obtain ⟨b0, b1, b2, b3⟩ := L1
  have me : abL1 w h' (wl g a l) a e := by
    have e1 : qL (wl g a l) a = l := vu_eq
    unfold abL1
    rw [e1, hf 201 a (by omega), s3, s4]
    refine ⟨h0, b1, h1, ?_⟩
    rcases b3 with ⟨c1, c2, c3, c4⟩ | ⟨c1, c2, c3, c4, c5, c6, c7, c8, c9⟩
    · omega
    · exact Or.inr ⟨c1, c2, c3, c4, c5, hl, c7, c8, hc⟩
  refine ⟨⟨⟨?_, ?_, ?_⟩, ?_, ?_, ?_, ?_, ?_, ?_, ?_⟩, me⟩
  · rw [s1]; exact k1
  · rw [s2]; exact k2
  · rw [s3]; exact k3
  · intro a' c k hc' hd
    have d := gIk_d hd
    rw [hf _ _ (by omega)]
    exact a2 a' c k hc' hd
  · intro a' c k hc' hd
    have d := gRk_d hd
    rw [hf _ _ (by omega)]
    exact a3 a' c k hc' hd
  · intro b hb
    obtain ⟨r, c1, c2, c3, c4, c5, c6, c7, c8, c9, c10, c11⟩ := a4 b hb
    refine ⟨r, ?_⟩
    unfold abB1
    rw [hf _ _ (by omega), hf _ _ (by omega), s3, s4, s6]
    exact ⟨c1, c2, c3, c4, c5, c6, c7, c8, c9, c10, c11⟩
  · intro a' ha'
    by_cases ea : a' = a
    · subst ea
      exact ⟨e, me⟩
    · obtain ⟨e', c0, c1, c2, c3⟩ := a5 a' ha'
      have e1 : qL (wl g a l) a' = qL g a' := vu_ne ea
      refine ⟨e', ?_⟩
      unfold abL1
      rw [e1, hf _ _ (by omega), hf _ _ (by omega), hf _ _ (by omega), hf 99 0 (by omega), s3, s4]
      refine ⟨c0, c1, c2, ?_⟩
      rcases c3 with c3 | ⟨d1, d2, d3, d4, d5⟩
      · exact Or.inl c3
      · have ee : e' ≠ e := fun q => by
          rcases b3 with ⟨x1, x2, x3, x4⟩ | ⟨x1, x2, x3, x4, x5⟩
          · rw [q] at d1
            omega
          · apply ea
            rw [← d4, ← x4, q]
        rw [hra e' ee]
        exact Or.inr ⟨d1, d2, d3, d4, d5⟩
  · intro b hb
    rw [s4, s6]
    exact a6 b hb
  · intro b hb
    rw [s4, s5]
    exact a7 b hb
  · obtain ⟨e9, f1, f2, f3, f4⟩ := a8
    refine ⟨e9, ?_, ?_, f3, f4⟩
    · rw [hf _ _ (by omega)]
      exact f1
    · rw [s3]
      exact f2
theorem abs_wG {w : Nat → Nat} {h h' : Hp} {g : Gh} {a e m : Nat} (A : Abw w h g) (hk : qk g a = 3) (L1 : abL1 w h g a e) (hm : ¬ m ≤ qE g a) (h6 : ecap (qE g a) m ≤ 60000)
    (hs : hn h' = hn h + 1 ∧ sl h' = sl h + ecap (qE g a) m ∧ kd h' = va_up (kd h) (hn h) 24 ∧ ln h' = va_up (ln h) (hn h) (ecap (qE g a) m)) (hf : ∀ j b, ¬ (j = 201 ∧ b = a) → fd h' j b = fd h j b) (har : ∀ b, b ≠ hn h → ar h' b = ar h b ∧ la h' b = la h b ∧ ra h' b = ra h b)
    (h1 : fd h' 201 a = .ref (hn h)) (hc : ∀ i, i < (qL g a).length → ra h' (hn h) i = (qL g a)[i]?) : ∃ w', Abw w' h' (wG g a m) ∧ abL1 w' h' (wG g a m) a (hn h) := by
  have hz := abs_new ⟨w, A⟩
  obtain ⟨⟨k1, k2, k3⟩, a2, a3, a4, a5, a6, a7, a8⟩ := A
  obtain ⟨s1, s2, s3, s4⟩ := hs
  obtain ⟨b0, b1, b2, b3⟩ := L1
  have hbn := (k3 a (by omega)).2
  have en : qn (wG g a m) = qn g + 1 := by
    show qn g + (if m ≤ qE g a then 0 else 1) = _
    rw [if_neg hm]
  have es : qs (wG g a m) = qs g + ecap (qE g a) m := by
    show qs g + (if m ≤ qE g a then 0 else _) = _
    rw [if_neg hm]
  have e1 : qE (wG g a m) a = ecap (qE g a) m := vu_eq
  have ge : qE g a < ecap (qE g a) m := by unfold ecap; rw [if_neg hm]; split <;> omega
  have hle : (qL g a).length ≤ qE g a := by
    rcases b3 with ⟨c1, c2, c3, c4⟩ | ⟨c1, c2, c3, c4, c5, c6, c7, c8, c9⟩
    · rw [c1, c2]
      exact Nat.le_refl _
    · exact c6
  have me : abL1 (va_up w (hn h) a) h' (wG g a m) a (hn h) := by
    unfold abL1
    rw [e1, hf 200 a (by omega), hf 202 a (by omega), s3, s4, vu_eq, vu_eq, vu_eq, en]
    exact ⟨b0, h1, b2, Or.inr ⟨rfl, hz, by omega, rfl, rfl, by show (qL g a).length ≤ _; omega, by omega, h6, fun i hi => (hc i hi).symm⟩⟩
  refine ⟨va_up w (hn h) a, ⟨⟨?_, ?_, ?_⟩, ?_, ?_, ?_, ?_, ?_, ?_, ?_⟩, me⟩
  · rw [en]; omega
  · rw [es]; omega
  · intro a ha
    have := k3 a ha
    rw [en, s3, vu_ne (by omega)]
    exact ⟨this.1, by omega⟩
  · intro a c k hk hd
    have d := gIk_d hd
    rw [hf _ _ (by omega)]
    exact a2 a c k hk hd
  · intro a c k hk hd
    have d := gRk_d hd
    rw [hf _ _ (by omega)]
    exact a3 a c k hk hd
  · intro b' hb'
    obtain ⟨r', c1, c2, c3, c4, c5, c6, c7, c8, c9, c10, c11⟩ := a4 b' hb'
    refine ⟨r', ?_⟩
    unfold abB1
    rw [hf _ _ (by omega), hf _ _ (by omega), s3, s4, vu_ne (by omega), vu_ne (by omega), vu_ne (by omega), (har r' (by omega)).1, en]
    exact ⟨c1, c2, c3, c4, by omega, c6, c7, c8, c9, c10, c11⟩
  · obtain ⟨e9, f1, f2, f3, f4⟩ := a8
    intro a' ha
    by_cases ea : a' = a
    · subst ea
      exact ⟨_, me⟩
    · obtain ⟨e', c0, c1, c2, c3⟩ := a5 a' ha
      have e2 : qE (wG g a m) a' = qE g a' := vu_ne ea
      refine ⟨e', ?_⟩
      unfold abL1
      rw [e2, hf _ _ (by omega), hf _ _ (by omega), hf _ _ (by omega), hf _ _ (by omega), s3, s4, en]
      refine ⟨c0, c1, c2, ?_⟩
      rcases c3 with ⟨d1, d2, d3, d4⟩ | ⟨d1, d2, d3, d4, d5⟩
      · have er : e' = e9 := by rw [d4] at f1; cases f1; rfl
        rw [vu_ne (by omega)]
        exact Or.inl ⟨d1, d2, d3, d4⟩
      · rw [vu_ne (by omega), vu_ne (by omega), vu_ne (by omega), (har e' (by omega)).2.2]
        exact Or.inr ⟨d1, d2, by omega, d4, d5⟩
  · intro a ha
    have ha2 : qk g a = 21 ∨ qk g a = 22 := ha
    have := k3 a (by omega)
    rw [s4, vu_ne (by omega), (har a (by omega)).1]
    exact a6 a ha
  · intro a ha
    have ha2 : qk g a = 23 := ha
    have := k3 a (by omega)
    rw [s4, vu_ne (by omega), (har a (by omega)).2.1]
    exact a7 a ha
  · obtain ⟨e9, f1, f2, f3, f4⟩ := a8
    refine ⟨e9, ?_, ?_, f3, by rw [en]; omega⟩
    · rw [hf _ _ (by omega)]
      exact f1
    · rw [s3, vu_ne (by omega)]
      exact f2
theorem abs_mod {w : Nat → Nat} {h : Hp} {g : Gh} {a : Nat} {z : Int32} (A : Abw w h g) : Abw w (sF h 200 a (.int z)) g := by
  obtain ⟨⟨k1, k2, k3⟩, a2, a3, a4, a5, a6, a7, a8⟩ := A
  have hf : ∀ j b, j ≠ 200 → fd (sF h 200 a (.int z)) j b = fd h j b := fun j b hj => u2_ne (by omega)
  refine ⟨⟨k1, k2, k3⟩, ?_, ?_, ?_, ?_, a6, a7, ?_⟩
  · intro a' c k hc' hd
    have d := gIk_d hd
    rw [hf _ _ (by omega)]
    exact a2 a' c k hc' hd
  · intro a' c k hc' hd
    have d := gRk_d hd
    rw [hf _ _ (by omega)]
    exact a3 a' c k hc' hd
  · intro b hb
    obtain ⟨r, bs⟩ := a4 b hb
    refine ⟨r, ?_⟩
    unfold abB1
    rw [hf _ _ (by omega), hf _ _ (by omega)]
    exact bs
  · intro b hb
    obtain ⟨e, ⟨z', b0⟩, bs⟩ := a5 b hb
    refine ⟨e, ?_, ?_⟩
    · by_cases eb : b = a
      · subst eb
        exact ⟨z, u2_eq⟩
      · exact ⟨z', (u2_ne (by omega)).trans b0⟩
    · rw [hf _ _ (by omega), hf _ _ (by omega), hf _ _ (by omega)]
      exact bs
  · obtain ⟨e9, f1, f2⟩ := a8
    refine ⟨e9, ?_, f2⟩
    rw [hf _ _ (by omega)]
    exact f1
/-- a full list's larger row -/
theorem grow_run {w : Nat → Nat} {h : Hp} {g : Gh} {a e : Nat} (A : Abw w h g) (hk : qk g a = 3) (L1 : abL1 w h g a e) (hfull : qE g a = (qL g a).length) (h6 : (qL g a).length ≤ 30000) : ∃ h' w', (Jx4a65c_grow_d5877 a).1 h = some (hn h, h') ∧ Abw w' h' (wG g a ((qL g a).length + 1)) ∧ abL1 w' h' (wG g a ((qL g a).length + 1)) a (hn h) ∧ kd h' (hn h) = 24 := by
  have hkd := (A.1.2.2 a (by omega)).1.trans hk
  have hn0 : hn h = qn g := A.1.1
  have hbn := (A.1.2.2 a (by omega)).2
  have L2 := L1
  obtain ⟨⟨z, b0⟩, b1, b2, b3⟩ := L2
  obtain ⟨e9, f1, f2, f3, f4⟩ := A.2.2.2.2.2.2.2
  have hm : ¬ (qL g a).length + 1 ≤ qE g a := by omega
  rcases b3 with ⟨c1, c2, c3, c4⟩ | ⟨c1, c2, c3, c4, c5, c6, c7, c8, c9⟩
  · have l0 : (qL g a).length = 0 := by rw [c1]; rfl
    have ec : ecap (qE g a) ((qL g a).length + 1) = 10 := by
      unfold ecap
      rw [if_neg hm, if_pos c2, l0]
      rfl
    have run : (Jx4a65c_grow_d5877 a).1 h = some (hn h, sF (nA h 24 10) 201 a (.ref (hn h))) := by
      unfold Jx4a65c_grow_d5877
      rw [r_gI (c := 2) (k := 2) hkd b2, r_ck hkd, l0]
      refine (r_bd (v := hn h) (h1 := sF (nA h 24 10) 201 a (.ref (hn h))) ?_).trans rfl
      unfold Jx4a65c_grow_92f84
      rw [r_gR (c := 2) (k := 1) hkd b1, r_ay0 c3, r_it, if_neg (by decide), r_gR (c := 2) (k := 1) hkd b1, r_ge c4, r_it, if_pos rfl]
      refine (r_na (n := 10) (by omega)).trans ?_
      refine (r_pV ?_).trans rfl
      exact (vu_ne (by omega)).trans hkd
    obtain ⟨w', q1, q2⟩ := abs_wG (h' := sF (nA h 24 10) 201 a (.ref (hn h))) A hk L1 hm (by omega) ⟨rfl, by rw [ec]; rfl, rfl, by rw [ec]; rfl⟩ (fun j b hj => u2_ne hj) (fun b hb => ⟨vu_ne hb, vu_ne hb, vu_ne hb⟩) u2_eq (fun i hi => by omega)
    exact ⟨_, w', run, q1, q2, vu_eq⟩
  · have ec : ecap (qE g a) ((qL g a).length + 1) = qE g a + max 1 (qE g a / 2) := by
      unfold ecap
      rw [if_neg hm, if_neg (by omega)]
      congr 2
      omega
    have h60 : qE g a + max 1 (qE g a / 2) ≤ 60000 := by omega
    have k1 : kd (nA h 24 (qE g a + max 1 (qE g a / 2))) e = 24 := (vu_ne (by omega)).trans c1
    have k2 : kd (nA h 24 (qE g a + max 1 (qE g a / 2))) (hn h) = 24 := vu_eq
    have l1 : ln (nA h 24 (qE g a + max 1 (qE g a / 2))) e = qE g a := (vu_ne (by omega)).trans c5
    have l2 : ln (nA h 24 (qE g a + max 1 (qE g a / 2))) (hn h) = qE g a + max 1 (qE g a / 2) := vu_eq
    have run : (Jx4a65c_grow_d5877 a).1 h = some (hn h, sF (sQ (nA h 24 (qE g a + max 1 (qE g a / 2))) (hn h) (va_cpy (ra (nA h 24 (qE g a + max 1 (qE g a / 2))) e) (ra (nA h 24 (qE g a + max 1 (qE g a / 2))) (hn h)) 0 0 (qE g a))) 201 a (.ref (hn h))) := by
      unfold Jx4a65c_grow_d5877
      rw [r_gI (c := 2) (k := 2) hkd b2, r_ck hkd]
      refine (r_bd (v := hn h) (h1 := sF (sQ (nA h 24 (qE g a + max 1 (qE g a / 2))) (hn h) (va_cpy (ra (nA h 24 (qE g a + max 1 (qE g a / 2))) e) (ra (nA h 24 (qE g a + max 1 (qE g a / 2))) (hn h)) 0 0 (qE g a))) 201 a (.ref (hn h))) ?_).trans rfl
      unfold Jx4a65c_grow_92f84
      rw [r_gR (c := 2) (k := 1) hkd b1, r_ay (by omega), c5, r_it, if_pos (show (0 : Int32) < nI (qE g a) from nI_lt (a := 0) (by omega) (by omega))]
      unfold Jx4a65c_grow_92f84_b20
      rw [nI_1, pk_sub (by omega), pk_shrN (by omega) ((1 : Int32) &&& 31) 1 rfl]
      have nl : (J8_newLength_cabcc (nI (qE g a)) (nI ((qL g a).length + 1 - qE g a)) (nI (qE g a / 2 ^ 1))).1 h = some (nI (qE g a + max 1 (qE g a / 2)), h) := by
        unfold J8_newLength_cabcc
        rw [imx_nI (by omega) (by omega), nI_add, r_pu, r_it, if_neg (nI_nle (by omega) (by omega)), r_it, if_neg (show ¬ (2147483639 : Int32) < nI (qE g a + max ((qL g a).length + 1 - qE g a) (qE g a / 2 ^ 1)) from nI_nlt (a := 2147483639) (by omega) (by omega))]
        have : (qL g a).length + 1 - qE g a = 1 := by omega
        rw [this]
        rfl
      rw [r_bd nl, r_gR (c := 2) (k := 1) hkd b1]
      refine (r_bd (v := hn h) (h1 := sQ (nA h 24 (qE g a + max 1 (qE g a / 2))) (hn h) (va_cpy (ra (nA h 24 (qE g a + max 1 (qE g a / 2))) e) (ra (nA h 24 (qE g a + max 1 (qE g a / 2))) (hn h)) 0 0 (qE g a))) ?_).trans ?_
      · unfold J7_copyOf_1904c
        rw [r_ck c1]
        refine (r_bd (v := hn h) (h1 := sQ (nA h 24 (qE g a + max 1 (qE g a / 2))) (hn h) (va_cpy (ra (nA h 24 (qE g a + max 1 (qE g a / 2))) e) (ra (nA h 24 (qE g a + max 1 (qE g a / 2))) (hn h)) 0 0 (qE g a))) ?_).trans rfl
        unfold J7_copyOf_6403c
        rw [r_na h60, r_ay (by omega), l1, imn_nI (by omega) (by omega), Nat.min_eq_left (by omega)]
        exact (r_cr (i := 0) (j := 0) k1 k2 (by omega) (by omega) (by omega) (by omega)).trans rfl
      · refine (r_pV ?_).trans rfl
        exact (vu_ne (by omega)).trans hkd
    obtain ⟨w', q1, q2⟩ := abs_wG (h' := sF (sQ (nA h 24 (qE g a + max 1 (qE g a / 2))) (hn h) (va_cpy (ra (nA h 24 (qE g a + max 1 (qE g a / 2))) e) (ra (nA h 24 (qE g a + max 1 (qE g a / 2))) (hn h)) 0 0 (qE g a))) 201 a (.ref (hn h))) A hk L1 hm (by omega) ⟨rfl, by rw [ec]; rfl, rfl, by rw [ec]; rfl⟩ (fun j b hj => u2_ne hj) (fun b hb => ⟨vu_ne hb, vu_ne hb, (vu_ne hb).trans (vu_ne hb)⟩) u2_eq (fun i hi => by
      show va_up (ra (nA h 24 (qE g a + max 1 (qE g a / 2)))) (hn h) (va_cpy (ra (nA h 24 (qE g a + max 1 (qE g a / 2))) e) (ra (nA h 24 (qE g a + max 1 (qE g a / 2))) (hn h)) 0 0 (qE g a)) (hn h) i = _
      rw [vu_eq]
      unfold va_cpy
      rw [if_pos (by omega), c9 i hi]
      have : ra (nA h 24 (qE g a + max 1 (qE g a / 2))) e = ra h e := vu_ne (by omega)
      rw [this]
      congr 1
      omega)
    exact ⟨_, w', run, q1, q2, vu_eq⟩
