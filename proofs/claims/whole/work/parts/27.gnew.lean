/-- what lies ahead stays, what is new is as it says -/
theorem abs_ext {w w' : Nat → Nat} {h h' : Hp} {g g' : Gh} (A : Abw w h g) (hk : hn h' = qn g') (hs : sl h' = qs g') (hle : qn g ≤ qn g')
    (ho : ∀ a, a < qn g → kd h' a = kd h a ∧ ln h' a = ln h a ∧ (∀ j, fd h' j a = fd h j a) ∧ ar h' a = ar h a ∧ la h' a = la h a ∧ ra h' a = ra h a ∧ w' a = w a)
    (hg : ∀ a, a < qn g → qk g' a = qk g a ∧ (∀ j, qi g' j a = qi g j a) ∧ (∀ j, qr g' j a = qr g j a) ∧ qB g' a = qB g a ∧ qC g' a = qC g a ∧ qL g' a = qL g a ∧ qE g' a = qE g a ∧ qA g' a = qA g a ∧ qW g' a = qW g a)
    (hN : ∀ a, qn g ≤ a → qk g' a ≠ 0 → kd h' a = qk g' a ∧ a < qn g' ∧ (qk g' a = 5 → ∃ r, abB1 w' h' g' a r) ∧ (qk g' a = 3 → ∃ e, abL1 w' h' g' a e) ∧ (qk g' a = 21 ∨ qk g' a = 22 → ln h' a = (qA g' a).length ∧ (qA g' a).length ≤ 60000 ∧ ∀ i, i < (qA g' a).length → (qA g' a)[i]? = some (ar h' a i)) ∧ (qk g' a = 23 → ln h' a = (qW g' a).length ∧ (qW g' a).length ≤ 60000 ∧ ∀ i, i < (qW g' a).length → (qW g' a)[i]? = some (la h' a i)) ∧ (∀ c, qk g' a = c + 1 → 3 ≤ c → c ≤ 12 → c ≠ 4 → False)) : Abs h' g' := by
  obtain ⟨⟨k1, k2, k3⟩, a2, a3, a4, a5, a6, a7, a8⟩ := A
  have vis : ∀ a, qk g' a ≠ 0 → a < qn g ∨ qn g ≤ a := fun a _ => by omega
  refine ⟨w', ⟨hk, hs, ?_⟩, ?_, ?_, ?_, ?_, ?_, ?_, ?_⟩
  · intro a ha
    rcases vis a ha with q | q
    · have e1 := (ho a q).1
      have e2 := (hg a q).1
      rw [e1, e2]
      exact ⟨(k3 a (by omega)).1, by omega⟩
    · exact ⟨(hN a q ha).1, (hN a q ha).2.1⟩
  · intro a c k hc hd
    rcases vis a (by omega) with q | q
    · rw [(ho a q).2.2.1, (hg a q).2.1]
      exact a2 a c k ((hg a q).1.symm.trans hc) hd
    · obtain ⟨d1, d2, d3, _⟩ := gIk_d hd
      exact ((hN a q (by omega)).2.2.2.2.2.2 c hc d1 d2 d3).elim
  · intro a c k hc hd
    rcases vis a (by omega) with q | q
    · rw [(ho a q).2.2.1, (hg a q).2.2.1]
      exact a3 a c k ((hg a q).1.symm.trans hc) hd
    · obtain ⟨d1, d2, d3, _⟩ := gRk_d hd
      exact ((hN a q (by omega)).2.2.2.2.2.2 c hc d1 d2 d3).elim
  · intro b hb
    rcases vis b (by omega) with q | q
    · obtain ⟨g1, g2, g3, g4, g5, g6, g7, g8, g9⟩ := hg b q
      obtain ⟨r, b1, b2, b3, b4, b5, b6, b7, b8, b9, b10, b11⟩ := a4 b (g1.symm.trans hb)
      obtain ⟨o1, o2, o3, o4, o5, o6, o7⟩ := ho r b5
      refine ⟨r, ?_⟩
      unfold abB1
      rw [(ho b q).2.2.1, (ho b q).2.2.1, g4, g5, o1, o2, o4, o7, (hg r b5).1]
      exact ⟨b1, b2, b3, b4, by omega, b6, b7, b8, b9, b10, b11⟩
    · exact (hN b q (by omega)).2.2.1 hb
  · obtain ⟨e9, f1, f2, f3, f4⟩ := a8
    intro b hb
    rcases vis b (by omega) with q | q
    · obtain ⟨g1, g2, g3, g4, g5, g6, g7, g8, g9⟩ := hg b q
      obtain ⟨r, b0, b1, b2, b3⟩ := a5 b (g1.symm.trans hb)
      refine ⟨r, ?_⟩
      unfold abL1
      rw [(ho b q).2.2.1, (ho b q).2.2.1, (ho b q).2.2.1, (ho 0 (by omega)).2.2.1, g6, g7]
      refine ⟨b0, b1, b2, ?_⟩
      rcases b3 with ⟨c1, c2, c3, c4⟩ | ⟨c1, c2, c3, c4, c5, c6⟩
      · have er : r = e9 := by rw [c4] at f1; cases f1; rfl
        exact Or.inl ⟨c1, c2, by rw [(ho r (by omega)).1]; exact c3, c4⟩
      · obtain ⟨o1, o2, o3, o4, o5, o6, o7⟩ := ho r c3
        rw [o1, o2, o6, o7, (hg r c3).1]
        exact Or.inr ⟨c1, c2, by omega, c4, c5, c6⟩
    · exact (hN b q (by omega)).2.2.2.1 hb
  · intro a ha
    rcases vis a (by omega) with q | q
    · obtain ⟨g1, g2, g3, g4, g5, g6, g7, g8, g9⟩ := hg a q
      obtain ⟨o1, o2, o3, o4, o5, o6, o7⟩ := ho a q
      rw [o2, o4, g8]
      exact a6 a (by rw [← g1]; exact ha)
    · exact (hN a q (by omega)).2.2.2.2.1 ha
  · intro a ha
    rcases vis a (by omega) with q | q
    · obtain ⟨g1, g2, g3, g4, g5, g6, g7, g8, g9⟩ := hg a q
      obtain ⟨o1, o2, o3, o4, o5, o6, o7⟩ := ho a q
      rw [o2, o5, g9]
      exact a7 a (by rw [← g1]; exact ha)
    · exact (hN a q (by omega)).2.2.2.2.2.1 ha
  · obtain ⟨e9, f1, f2, f3, f4⟩ := a8
    refine ⟨e9, ?_, ?_, ?_, ?_⟩
    · rw [(ho 0 (by omega)).2.2.1]
      exact f1
    · rw [(ho e9 f4).1]
      exact f2
    · rw [(hg e9 f4).1]
      exact f3
    · omega
section
variable {α : Type} {g : Gh} {Q : α → Gh → Prop}
theorem ok_newB {k : Nat → M α} (hx : ok (k (qn g)) (wNB g) Q) : ok (bd (nw 4 2) (fun y => bd (X1_init y) (fun _ => k y))) g Q := by
  intro h ha
  obtain ⟨w, A⟩ := ha
  have hn0 : hn h = qn g := A.1.1
  have hs0 : sl h = qs g := A.1.2.1
  have run : ∃ h1, (bd (nw 4 2) (fun y => bd (X1_init y) (fun _ => k y))).1 h = (k (qn g)).1 h1 ∧ h1 = sF (sF (nA (nO h 4 2) 21 16) 400 (hn h) (.ref (hn h + 1))) 401 (hn h) (.int 0) := by
    refine ⟨_, ?_, rfl⟩
    refine r_nw.trans ?_
    rw [← hn0]
    refine (r_bd (v := ()) (h1 := sF (sF (nA (nO h 4 2) 21 16) 400 (hn h) (.ref (hn h + 1))) 401 (hn h) (.int 0)) ?_).trans rfl
    unfold X1_init
    refine (r_na (h := nO h 4 2) (n := 16) (by omega)).trans ?_
    refine (r_pV ?_).trans ?_
    · show va_up (va_up (kd h) (hn h) 5) (hn h + 1) 21 (hn h) = 5
      rw [vu_ne (by omega), vu_eq]
    refine (r_pV ?_).trans rfl
    show va_up (va_up (kd h) (hn h) 5) (hn h + 1) 21 (hn h) = 5
    rw [vu_ne (by omega), vu_eq]
  obtain ⟨h1, e1, eh⟩ := run
  have fdj : ∀ j a, fd h1 j a = if j = 401 ∧ a = hn h then .int 0 else if j = 400 ∧ a = hn h then .ref (hn h + 1) else if a = hn h then dF j else fd h j a := fun j a => by rw [eh]; rfl
  have kdj : ∀ a, kd h1 a = if a = hn h + 1 then 21 else if a = hn h then 5 else kd h a := fun a => by rw [eh]; rfl
  have arj : ∀ a, a ≠ hn h + 1 → ar h1 a = ar h a ∧ la h1 a = la h a ∧ ra h1 a = ra h a ∧ ln h1 a = ln h a := fun a e => by
    rw [eh]
    exact ⟨vu_ne e, vu_ne e, vu_ne e, vu_ne e⟩
  have A1 : Abs h1 (wNB g) := by
    refine abs_ext (w' := va_up w (hn h + 1) (hn h)) A ?_ ?_ ?_ ?_ ?_ ?_
    · rw [eh]
      show hn h + 1 + 1 = qn g + 2
      omega
    · rw [eh]
      show sl h + 2 + 16 = qs g + 18
      omega
    · show qn g ≤ qn g + 2
      omega
    · intro a q
      obtain ⟨x1, x2, x3, x4⟩ := arj a (by omega)
      refine ⟨?_, x4, ?_, x1, x2, x3, ?_⟩
      · rw [kdj, if_neg (by omega), if_neg (by omega)]
      · intro j
        rw [fdj, if_neg (by omega), if_neg (by omega), if_neg (by omega)]
      · exact vu_ne (by omega)
    · intro a q
      exact ⟨vu_ne (by omega), fun _ => rfl, fun _ => rfl, vu_ne (by omega), vu_ne (by omega), rfl, rfl, rfl, rfl⟩
    · intro a q hk
      have ea : a = qn g := by
        by_cases e : a = qn g
        · exact e
        · exfalso
          apply hk
          show va_up (qk g) (qn g) 5 a = 0
          rw [vu_ne e]
          by_cases e2 : qk g a = 0
          · exact e2
          · have := (A.1.2.2 a e2).2
            omega
      subst ea
      have kk : qk (wNB g) (qn g) = 5 := vu_eq
      rw [kk]
      refine ⟨?_, ?_, fun _ => ⟨hn h + 1, ?_⟩, fun e => by omega, fun e => by omega, fun e => by omega, fun c e => by omega⟩
      · rw [kdj, if_neg (by omega), if_pos (by omega)]
      · show qn g < qn g + 2
        omega
      · have eB : qB (wNB g) (qn g) = [] := vu_eq
        have eC : qC (wNB g) (qn g) = 16 := vu_eq
        unfold abB1
        rw [eB, eC]
        refine ⟨?_, ?_, ?_, ?_, ?_, ?_, ?_, Nat.zero_le _, by omega, by omega, fun i hi => ?_⟩
        · rw [fdj, if_neg (by omega), if_pos (by omega)]
        · rw [fdj, if_pos (by omega)]
          rfl
        · rw [kdj, if_pos rfl]
        · show va_up (qk g) (qn g) 5 (hn h + 1) = 0
          rw [vu_ne (by omega)]
          by_cases e2 : qk g (hn h + 1) = 0
          · exact e2
          · have := (A.1.2.2 _ e2).2
            omega
        · show hn h + 1 < qn g + 2
          omega
        · rw [← hn0]
          exact vu_eq
        · rw [eh]
          exact vu_eq
        · exact absurd hi (Nat.not_lt_zero _)
  obtain ⟨v, h2, g2, e2, a2, q2⟩ := hx h1 A1
  exact ⟨v, h2, g2, e1.trans e2, a2, q2⟩
theorem ok_newL {k : Nat → M α} (hx : ok (k (qn g)) (wNL g) Q) : ok (bd (nw 2 3) (fun y => bd (Jx4a65c_init_da8c8 y) (fun _ => k y))) g Q := by
  intro h ha
  obtain ⟨w, A⟩ := ha
  have hn0 : hn h = qn g := A.1.1
  have hs0 : sl h = qs g := A.1.2.1
  obtain ⟨e9, f1, f2, f3, f4⟩ := A.2.2.2.2.2.2.2
  have run : ∃ h1, (bd (nw 2 3) (fun y => bd (Jx4a65c_init_da8c8 y) (fun _ => k y))).1 h = (k (qn g)).1 h1 ∧ h1 = sF (sF (nO h 2 3) 200 (hn h) (.int 0)) 201 (hn h) (.ref e9) := by
    refine ⟨_, ?_, rfl⟩
    refine r_nw.trans ?_
    rw [← hn0]
    refine (r_bd (v := ()) (h1 := sF (sF (nO h 2 3) 200 (hn h) (.int 0)) 201 (hn h) (.ref e9)) ?_).trans rfl
    unfold Jx4a65c_init_da8c8 Jxc12de_init_da8c8 Jxa1e45_init_da8c8
    refine (r_bd (v := ()) (h1 := sF (nO h 2 3) 200 (hn h) (.int 0)) ?_).trans ?_
    · refine r_pu.trans ?_
      refine (r_pV ?_).trans rfl
      exact vu_eq
    refine (r_ge (e := e9) ?_).trans ?_
    · show u2 (fd (nO h 2 3)) 200 (hn h) (.int 0) 99 0 = _
      rw [u2_ne (by omega)]
      show (if 0 = hn h then _ else _) = _
      rw [if_neg (by omega)]
      exact f1
    refine (r_pV ?_).trans rfl
    exact vu_eq
  obtain ⟨h1, e1, eh⟩ := run
  have fdj : ∀ j a, fd h1 j a = if j = 201 ∧ a = hn h then .ref e9 else if j = 200 ∧ a = hn h then .int 0 else if a = hn h then dF j else fd h j a := fun j a => by rw [eh]; rfl
  have kdj : ∀ a, kd h1 a = if a = hn h then 3 else kd h a := fun a => by rw [eh]; rfl
  have A1 : Abs h1 (wNL g) := by
    refine abs_ext (w' := w) A ?_ ?_ ?_ ?_ ?_ ?_
    · rw [eh]
      show hn h + 1 = qn g + 1
      omega
    · rw [eh]
      show sl h + 3 = qs g + 3
      omega
    · show qn g ≤ qn g + 1
      omega
    · intro a q
      refine ⟨?_, by rw [eh]; rfl, ?_, by rw [eh]; rfl, by rw [eh]; rfl, by rw [eh]; rfl, rfl⟩
      · rw [kdj, if_neg (by omega)]
      · intro j
        rw [fdj, if_neg (by omega), if_neg (by omega), if_neg (by omega)]
    · intro a q
      exact ⟨vu_ne (by omega), fun _ => rfl, fun _ => rfl, rfl, rfl, vu_ne (by omega), vu_ne (by omega), rfl, rfl⟩
    · intro a q hk
      have ea : a = qn g := by
        by_cases e : a = qn g
        · exact e
        · exfalso
          apply hk
          show va_up (qk g) (qn g) 3 a = 0
          rw [vu_ne e]
          by_cases e2 : qk g a = 0
          · exact e2
          · have := (A.1.2.2 a e2).2
            omega
      subst ea
      have kk : qk (wNL g) (qn g) = 3 := vu_eq
      rw [kk]
      refine ⟨?_, ?_, fun e => by omega, fun _ => ⟨e9, ?_⟩, fun e => by omega, fun e => by omega, fun c e => by omega⟩
      · rw [kdj, if_pos (by omega)]
      · show qn g < qn g + 1
        omega
      · have eB : qL (wNL g) (qn g) = [] := vu_eq
        have eC : qE (wNL g) (qn g) = 0 := vu_eq
        unfold abL1
        rw [eB, eC]
        refine ⟨⟨0, ?_⟩, ?_, ?_, Or.inl ⟨rfl, rfl, ?_, ?_⟩⟩
        · rw [fdj, if_neg (by omega), if_pos (by omega)]
        · rw [fdj, if_pos (by omega)]
        · rw [fdj, if_neg (by omega), if_neg (by omega), if_pos (by omega)]
          rfl
        · rw [kdj, if_neg (by omega)]
          exact f2
        · rw [fdj, if_neg (by omega), if_neg (by omega), if_neg (by omega)]
          exact f1
  obtain ⟨v, h2, g2, e2, a2, q2⟩ := hx h1 A1
  exact ⟨v, h2, g2, e1.trans e2, a2, q2⟩
/-- a new row of bytes, ints or longs -/
theorem ok_na {kk n : Nat} {x : Int32} {k : Nat → M α} (hkk : kk = 21 ∨ kk = 22 ∨ kk = 23) (hi : x = nI n) (h6 : n ≤ 60000) (hx : ok (k (qn g)) (wNA g kk n) Q) : ok (bd (na kk x) k) g Q := by
  intro h ha
  obtain ⟨w, A⟩ := ha
  have hn0 : hn h = qn g := A.1.1
  have hs0 : sl h = qs g := A.1.2.1
  have A1 : Abs (nA h kk n) (wNA g kk n) := by
    refine abs_ext (w' := w) A ?_ ?_ ?_ ?_ ?_ ?_
    · show hn h + 1 = qn g + 1
      omega
    · show sl h + n = qs g + n
      omega
    · show qn g ≤ qn g + 1
      omega
    · intro a q
      exact ⟨vu_ne (by omega), vu_ne (by omega), fun _ => rfl, vu_ne (by omega), vu_ne (by omega), vu_ne (by omega), rfl⟩
    · intro a q
      exact ⟨vu_ne (by omega), fun _ => rfl, fun _ => rfl, rfl, rfl, rfl, rfl, vu_ne (by omega), vu_ne (by omega)⟩
    · intro a q hk
      have ea : a = qn g := by
        by_cases e : a = qn g
        · exact e
        · exfalso
          apply hk
          show va_up (qk g) (qn g) kk a = 0
          rw [vu_ne e]
          by_cases e2 : qk g a = 0
          · exact e2
          · have := (A.1.2.2 a e2).2
            omega
      subst ea
      have kq : qk (wNA g kk n) (qn g) = kk := vu_eq
      have eA : qA (wNA g kk n) (qn g) = List.replicate n 0 := vu_eq
      have eW : qW (wNA g kk n) (qn g) = List.replicate n 0 := vu_eq
      have eL : ln (nA h kk n) (qn g) = n := by rw [← hn0]; exact vu_eq
      rw [kq, eA, eW, eL]
      refine ⟨?_, ?_, fun e => by omega, fun e => by omega, fun _ => ⟨List.length_replicate.symm, by rw [List.length_replicate]; exact h6, fun i hi => ?_⟩, fun _ => ⟨List.length_replicate.symm, by rw [List.length_replicate]; exact h6, fun i hi => ?_⟩, fun c e => by omega⟩
      · rw [← hn0]
        exact vu_eq
      · show qn g < qn g + 1
        omega
      · rw [List.length_replicate] at hi
        have ex : ar (nA h kk n) (qn g) = fun _ => 0 := by rw [← hn0]; exact vu_eq
        rw [List.getElem?_replicate, if_pos hi, ex]
      · rw [List.length_replicate] at hi
        have ex : la (nA h kk n) (qn g) = fun _ => 0 := by rw [← hn0]; exact vu_eq
        rw [List.getElem?_replicate, if_pos hi, ex]
  obtain ⟨v, h2, g2, e2, a2, q2⟩ := hx _ A1
  subst hi
  refine ⟨v, h2, g2, ?_, a2, q2⟩
  refine (r_na h6).trans ?_
  rw [hn0]
  exact e2
theorem ok_ll {a i : Nat} {x : Int32} {k : Int64 → M α} (hk : qk g a = 23) (hi : x = nI i) {v : Int64} (hv : (qW g a)[i]? = some v) (hx : ok (k v) g Q) : ok (bd (ll a x) k) g Q := by
  refine ok_rd _ (fun h ha => ?_) hx
  obtain ⟨w, a1, _, _, _, _, _, a7, _⟩ := ha
  have hl := lt_of_some hv
  have e := (a1.2.2 a (by omega)).1
  obtain ⟨b1, b2, b3⟩ := a7 a (by omega)
  show (if kd h a = 23 ∧ inx x (ln h a) = true then some (la h a x.toNatClampNeg) else none).map _ = _
  subst hi
  have q := b3 i hl
  rw [hv] at q
  rw [if_pos ⟨e.trans hk, by rw [b1]; exact inx_nI hl (by omega)⟩, nI_clamp (by omega), ← q]
  rfl
theorem ok_lz {a i : Nat} {x : Int32} {v : Int64} {k : Unit → M α} (hk : qk g a = 23) (hi : x = nI i) (hl : i < (qW g a).length) (hx : ok (k ()) (wW g a ((qW g a).set i v)) Q) : ok (bd (lz a x v) k) g Q := by
  refine ok_wr () _ (fun h ha => ⟨sL h a i v, ?_, ?_⟩) hx
  · obtain ⟨w, a1, _, _, _, _, _, a7, _⟩ := ha
    have e := (a1.2.2 a (by omega)).1
    obtain ⟨b1, b2, b3⟩ := a7 a (by omega)
    subst hi
    show (if (kd h a == 23 && inx (nI i) (ln h a)) = true then some ((), sL h a (nI i).toNatClampNeg _) else none) = _
    rw [if_pos, nI_clamp (by omega)]
    rw [Bool.and_eq_true, beq_iff_eq, b1]
    exact ⟨e.trans hk, inx_nI hl (by omega)⟩
  · obtain ⟨w, a1, a2, a3, a4, a5, a6, a7, a8⟩ := ha
    refine ⟨w, a1, a2, a3, a4, a5, a6, ?_, a8⟩
    intro a' hk'
    obtain ⟨b1, b2, b3⟩ := a7 a' hk'
    show ln h a' = (va_up (qW g) _ _ a').length ∧ (va_up (qW g) _ _ a').length ≤ _ ∧ ∀ j, j < (va_up (qW g) _ _ a').length → (va_up (qW g) _ _ a')[j]? = some (u2 (la h) _ _ _ _ _)
    by_cases e : a' = a
    · subst e
      rw [vu_eq, List.length_set]
      refine ⟨b1, b2, fun j hj => ?_⟩
      rw [List.getElem?_set]
      by_cases ej : i = j
      · subst ej
        rw [u2_eq, if_pos rfl, if_pos hj]
      · rw [u2_ne (fun e => ej e.2.symm), if_neg ej]
        exact b3 j hj
    · rw [vu_ne e]
      refine ⟨b1, b2, fun j hj => ?_⟩
      rw [u2_ne (fun q => e q.1)]
      exact b3 j hj
end
