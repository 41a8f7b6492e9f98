/-! Bytes, as lists -/
def wX (g : Gh) (b : Nat) (l : List Int32) : Gh := (qn g, qs g, qk g, qi g, qr g, va_up (qB g) b l, qC g, qL g, qE g, qA g, qW g)
def wM (g : Gh) (b m : Nat) : Gh := (qn g + (if m ≤ qC g b then 0 else 1), qs g + (if m ≤ qC g b then 0 else gcap (qC g b) m), qk g, qi g, qr g, qB g, va_up (qC g) b (gcap (qC g b) m), qL g, qE g, qA g, qW g)
theorem wB_eq (g : Gh) (b : Nat) (l : List Int32) : wX (wM g b l.length) b l = wB g b l := rfl
theorem wM_id {g : Gh} {b m : Nat} (h : m ≤ qC g b) : wM g b m = g := by
  unfold wM
  rw [if_pos h, if_pos h]
  have e : va_up (qC g) b (gcap (qC g b) m) = qC g := by
    funext x
    unfold va_up gcap
    rw [if_pos h]
    split
    · next e => rw [e]
    · rfl
  rw [e]
  rfl
theorem abs_wb {w : Nat → Nat} {h h' : Hp} {g : Gh} {b r : Nat} {l : List Int32} (A : Abw w h g) (hb : qk g b = 5) (B1 : abB1 w h g b r)
    (hs : hn h' = hn h ∧ sl h' = sl h ∧ kd h' = kd h ∧ ln h' = ln h ∧ la h' = la h ∧ ra h' = ra h) (hf : ∀ j a, ¬ (j = 401 ∧ a = b) → fd h' j a = fd h j a) (har : ∀ a, a ≠ r → ar h' a = ar h a)
    (h1 : fd h' 401 b = .int (nI l.length)) (hl : l.length ≤ qC g b) (hc : ∀ i, i < l.length → l[i]? = some (ar h' r i)) : Abs h' (wX g b l) := by
  obtain ⟨⟨k1, k2, k3⟩, a2, a3, a4, a5, a6, a7, a8⟩ := A
  obtain ⟨s1, s2, s3, s4, s5, s6⟩ := hs
  obtain ⟨b1, b2, b3, b4, b5, b6, b7, b8, b9, b10, b11⟩ := B1
  refine ⟨w, ⟨?_, ?_, ?_⟩, ?_, ?_, ?_, ?_, ?_, ?_, ?_⟩
  · rw [s1]; exact k1
  · rw [s2]; exact k2
  · rw [s3]; exact k3
  · intro a c k hk hd
    have d := gIk_d hd
    rw [hf _ _ (by omega)]
    exact a2 a c k hk hd
  · intro a c k hk hd
    have d := gRk_d hd
    rw [hf _ _ (by omega)]
    exact a3 a c k hk hd
  · intro b' hb'
    by_cases e : b' = b
    · subst e
      refine ⟨r, ?_⟩
      have e1 : qB (wX g b' l) b' = l := vu_eq
      unfold abB1
      rw [e1, hf _ _ (by omega), s3, s4]
      exact ⟨b1, h1, b3, b4, b5, b6, b7, hl, b9, b10, hc⟩
    · obtain ⟨r', c1, c2, c3, c4, c5, c6, c7, c8, c9, c10, c11⟩ := a4 b' hb'
      have e1 : qB (wX g b l) b' = qB g b' := vu_ne e
      have er : r' ≠ r := fun q => e (by rw [← c6, ← b6, q])
      refine ⟨r', ?_⟩
      unfold abB1
      rw [e1, hf _ _ (by omega), hf _ _ (by omega), s3, s4, har r' er]
      exact ⟨c1, c2, c3, c4, c5, c6, c7, c8, c9, c10, c11⟩
  · intro a ha
    obtain ⟨e, c0, c1, c2, c3⟩ := a5 a ha
    refine ⟨e, ?_⟩
    unfold abL1
    rw [hf _ _ (by omega), hf _ _ (by omega), hf _ _ (by omega), hf _ _ (by omega), s3, s4, s6]
    exact ⟨c0, c1, c2, c3⟩
  · intro a ha
    have ea : a ≠ r := fun q => by
      have : qk g a = 21 ∨ qk g a = 22 := ha
      rw [q] at this
      omega
    rw [s4, har a ea]
    exact a6 a ha
  · intro a ha
    rw [s4, s5]
    exact a7 a ha
  · obtain ⟨e9, f1, f2, f3, f4⟩ := a8
    refine ⟨e9, ?_, ?_, f3, f4⟩
    · rw [hf _ _ (by omega)]
      exact f1
    · rw [s3]
      exact f2
/-- a larger row -/
theorem abs_wM {w : Nat → Nat} {h h' : Hp} {g : Gh} {b r m : Nat} (A : Abw w h g) (hb : qk g b = 5) (B1 : abB1 w h g b r) (hm : ¬ m ≤ qC g b) (h6 : gcap (qC g b) m ≤ 60000)
    (hs : hn h' = hn h + 1 ∧ sl h' = sl h + gcap (qC g b) m ∧ kd h' = va_up (kd h) (hn h) 21 ∧ ln h' = va_up (ln h) (hn h) (gcap (qC g b) m)) (hf : ∀ j a, ¬ (j = 400 ∧ a = b) → fd h' j a = fd h j a) (har : ∀ a, a ≠ hn h → ar h' a = ar h a ∧ la h' a = la h a ∧ ra h' a = ra h a)
    (h1 : fd h' 400 b = .ref (hn h)) (hc : ∀ i, i < (qB g b).length → ar h' (hn h) i = ar h r i) : Abs h' (wM g b m) := by
  have hz := abs_new ⟨w, A⟩
  obtain ⟨⟨k1, k2, k3⟩, a2, a3, a4, a5, a6, a7, a8⟩ := A
  obtain ⟨s1, s2, s3, s4⟩ := hs
  obtain ⟨b1, b2, b3, b4, b5, b6, b7, b8, b9, b10, b11⟩ := B1
  have hbn := (k3 b (by omega)).2
  have en : qn (wM g b m) = qn g + 1 := by
    show qn g + (if m ≤ qC g b then 0 else 1) = _
    rw [if_neg hm]
  have es : qs (wM g b m) = qs g + gcap (qC g b) m := by
    show qs g + (if m ≤ qC g b then 0 else _) = _
    rw [if_neg hm]
  refine ⟨va_up w (hn h) b, ⟨?_, ?_, ?_⟩, ?_, ?_, ?_, ?_, ?_, ?_, ?_⟩
  · rw [en]; omega
  · rw [es]; omega
  · intro a ha
    have := k3 a ha
    rw [en, s3, vu_ne (by omega)]
    exact ⟨this.1, by omega⟩
  · intro a c k hk hd
    have d := gIk_d hd
    rw [hf _ _ (by omega)]
    exact a2 a c k hk hd
  · intro a c k hk hd
    have d := gRk_d hd
    rw [hf _ _ (by omega)]
    exact a3 a c k hk hd
  · intro b' hb'
    have hb2 : qk g b' = 5 := hb'
    have hbn2 := (k3 b' (by omega)).2
    by_cases e : b' = b
    · subst e
      refine ⟨hn h, ?_⟩
      have e1 : qC (wM g b' m) b' = gcap (qC g b') m := vu_eq
      have g0 : qC g b' ≤ gcap (qC g b') m := by unfold gcap; rw [if_neg hm]; omega
      unfold abB1
      rw [e1, hf 401 _ (by omega), s3, s4, vu_eq, vu_eq, vu_eq, en]
      refine ⟨h1, b2, rfl, hz, by omega, rfl, rfl, Nat.le_trans b8 g0, h6, by omega, fun i hi => ?_⟩
      rw [hc i hi]
      exact b11 i hi
    · obtain ⟨r', c1, c2, c3, c4, c5, c6, c7, c8, c9, c10, c11⟩ := a4 b' hb2
      have e1 : qC (wM g b m) b' = qC g b' := vu_ne e
      refine ⟨r', ?_⟩
      unfold abB1
      rw [e1, hf _ _ (by omega), hf _ _ (by omega), s3, s4, vu_ne (by omega), vu_ne (by omega), vu_ne (by omega), (har r' (by omega)).1, en]
      exact ⟨c1, c2, c3, c4, by omega, c6, c7, c8, c9, c10, c11⟩
  · obtain ⟨e9, f1, f2, f3, f4⟩ := a8
    intro a ha
    obtain ⟨e, c0, c1, c2, c3⟩ := a5 a ha
    refine ⟨e, ?_⟩
    unfold abL1
    rw [hf _ _ (by omega), hf _ _ (by omega), hf _ _ (by omega), hf _ _ (by omega), s3, s4, en]
    refine ⟨c0, c1, c2, ?_⟩
    rcases c3 with ⟨d1, d2, d3, d4⟩ | ⟨d1, d2, d3, d4, d5⟩
    · have er : e = e9 := by rw [d4] at f1; cases f1; rfl
      rw [vu_ne (by omega)]
      exact Or.inl ⟨d1, d2, d3, d4⟩
    · rw [vu_ne (by omega), vu_ne (by omega), vu_ne (by omega), (har e (by omega)).2.2]
      exact Or.inr ⟨d1, d2, by omega, d4, d5⟩
  · intro a ha
    have ha2 : qk g a = 21 ∨ qk g a = 22 := ha
    have := k3 a (by omega)
    rw [s4, vu_ne (by omega), (har a (by omega)).1]
    exact a6 a ha
  · intro a ha
    have ha2 : qk g a = 23 := ha
    have := k3 a (by omega)
    rw [s4, vu_ne (by omega), (har a (by omega)).2.1]
    exact a7 a ha
  · obtain ⟨e9, f1, f2, f3, f4⟩ := a8
    refine ⟨e9, ?_, ?_, f3, by rw [en]; omega⟩
    · rw [hf _ _ (by omega)]
      exact f1
    · rw [s3, vu_ne (by omega)]
      exact f2
def bat (l : List Int32) (i : Int32) : Int32 := if i < 0 then -1 else if nI l.length ≤ i then -1 else (l.getD i.toNatClampNeg 0) &&& 255
def bsh (l : List Int32) (i : Int32) : Int32 := ((bat l i &&& 255) <<< ((8 : Int32) &&& 31)) ||| (bat l (i + 1) &&& 255)
def bnm (l : List Int32) (i : Int32) : Int32 := ((bsh l i) <<< ((16 : Int32) &&& 31)) ||| bsh l (i + 2)
section
variable {α : Type} {g : Gh} {Q : α → Gh → Prop}
theorem ok_bsize {b : Nat} {k : Int32 → M α} (hk : qk g b = 5) (hx : ok (k (nI (qB g b).length)) g Q) : ok (bd (X1_size b) k) g Q := by
  refine ok_rd _ (fun h ha => ?_) hx
  obtain ⟨w, a1, _, _, a4, _⟩ := ha
  obtain ⟨r, b1, b2, _⟩ := a4 b hk
  exact r_gI (c := 4) (k := 1) ((a1.2.2 b (by omega)).1.trans hk) b2
theorem ok_bat {b : Nat} {i : Int32} {k : Int32 → M α} (hk : qk g b = 5) (hx : ok (k (bat (qB g b) i)) g Q) : ok (bd (X1_at b i) k) g Q := by
  refine ok_rd _ (fun h ha => ?_) hx
  obtain ⟨w, a1, _, _, a4, _⟩ := ha
  obtain ⟨r, b1, b2, b3, b4, b5, b6, b7, b8, b9, b10, b11⟩ := a4 b hk
  have hkd := (a1.2.2 b (by omega)).1.trans hk
  unfold X1_at bat
  rw [r_it]
  by_cases e1 : i < 0
  · rw [if_pos e1, if_pos e1]
    rfl
  · rw [if_neg e1, if_neg e1]
    refine (r_gI (c := 4) (k := 1) hkd b2).trans ?_
    rw [r_it]
    by_cases e2 : nI (qB g b).length ≤ i
    · rw [if_pos e2, if_pos e2]
      rfl
    · rw [if_neg e2, if_neg e2]
      obtain ⟨j, hj, ej, _⟩ := pk_mu e1 e2 (by omega)
      subst ej
      refine (r_gR (c := 4) (k := 0) hkd b1).trans ?_
      refine (r_al b3 (by omega) (by omega)).trans ?_
      rw [nI_clamp (by omega), List.getD_eq_getElem?_getD, b11 j hj]
      rfl
theorem ok_bsh {b : Nat} {i : Int32} {k : Int32 → M α} (hk : qk g b = 5) (hx : ok (k (bsh (qB g b) i)) g Q) : ok (bd (X1_shortAt b i) k) g Q := by
  refine ok_bd ?_
  unfold X1_shortAt
  refine ok_ck hk ?_
  refine ok_bat hk ?_
  refine ok_ck hk ?_
  refine ok_bat hk ?_
  exact ok_pu hx
theorem ok_bnm {b : Nat} {i : Int32} {k : Int32 → M α} (hk : qk g b = 5) (hx : ok (k (bnm (qB g b) i)) g Q) : ok (bd (X1_numberAt b i) k) g Q := by
  refine ok_bd ?_
  unfold X1_numberAt
  refine ok_ck hk ?_
  refine ok_bsh hk ?_
  refine ok_ck hk ?_
  refine ok_bsh hk ?_
  exact ok_pu hx
/-- room for m bytes in all -/
theorem ok_bmr {b n : Nat} {x : Int32} {k : Unit → M α} (hk : qk g b = 5) (hi : x = nI n) (h6 : (qB g b).length + n ≤ 30000) (hx : ok (k ()) (wM g b ((qB g b).length + n)) Q) : ok (bd (X1_makeRoom b x) k) g Q := by
  subst hi
  refine ok_wr () _ (fun h ha => ?_) hx
  obtain ⟨w, A⟩ := ha
  obtain ⟨r, B1⟩ := A.2.2.2.1 b hk
  have B2 := B1
  obtain ⟨b1, b2, b3, b4, b5, b6, b7, b8, b9, b10, b11⟩ := B2
  have hkd := (A.1.2.2 b (by omega)).1.trans hk
  have hbn := (A.1.2.2 b (by omega)).2
  have hn0 : hn h = qn g := A.1.1
  unfold X1_makeRoom
  rw [r_gI (c := 4) (k := 1) hkd b2, r_gR (c := 4) (k := 0) hkd b1, r_ay (by omega), r_it, nI_add, b7]
  by_cases e : (qB g b).length + n ≤ qC g b
  · rw [if_pos (nI_le e (by omega)), wM_id e]
    exact ⟨h, rfl, w, A⟩
  · rw [if_neg (nI_ge (by omega) (by omega))]
    have gc : gcap (qC g b) ((qB g b).length + n) = max ((qB g b).length + n) (2 * qC g b) := by unfold gcap; rw [if_neg e]
    rw [r_gR (c := 4) (k := 0) hkd b1, r_gI (c := 4) (k := 1) hkd b2, r_gR (c := 4) (k := 0) hkd b1, r_ay (by omega), nI_add, b7]
    have e2 : (2 : Int32) * nI (qC g b) = nI (2 * qC g b) := pk_mul 2 _
    rw [e2, imx_nI (by omega) (by omega), ← gc]
    have h60 : gcap (qC g b) ((qB g b).length + n) ≤ 60000 := by rw [gc]; omega
    have hgt : qC g b < gcap (qC g b) ((qB g b).length + n) := by rw [gc]; omega
    have hkn : kd (nA h 21 (gcap (qC g b) ((qB g b).length + n))) r = 21 := (vu_ne (by omega)).trans b3
    have hln : ln (nA h 21 (gcap (qC g b) ((qB g b).length + n))) r = qC g b := (vu_ne (by omega)).trans b7
    have hln2 : ln (nA h 21 (gcap (qC g b) ((qB g b).length + n))) (hn h) = gcap (qC g b) ((qB g b).length + n) := vu_eq
    have hkn2 : kd (nA h 21 (gcap (qC g b) ((qB g b).length + n))) (hn h) = 21 := vu_eq
    have cp : (J7_copyOf_9075b r (nI (gcap (qC g b) ((qB g b).length + n)))).1 h = some (hn h, sR (nA h 21 (gcap (qC g b) ((qB g b).length + n))) (hn h) (va_cpy (ar (nA h 21 (gcap (qC g b) ((qB g b).length + n))) r) (ar (nA h 21 (gcap (qC g b) ((qB g b).length + n))) (hn h)) 0 0 (qC g b))) := by
      unfold J7_copyOf_9075b
      rw [r_ay (by omega), r_it, b7, if_pos (fun q => by rw [nI_eq (by omega) (by omega)] at q; omega), r_na h60, r_ay (by omega), hln, imn_nI (by omega) (by omega), Nat.min_eq_left (by omega)]
      exact (r_cb (i := 0) (j := 0) hkn hkn2 (by omega) (by omega) (by omega) (by omega)).trans rfl
    refine ⟨_, (r_bd cp).trans ((r_pV ?_).trans rfl), ?_⟩
    · exact (vu_ne (by omega)).trans hkd
    · refine abs_wM A hk B1 e h60 ⟨rfl, rfl, rfl, rfl⟩ ?_ ?_ ?_ ?_
      · intro j a hj
        exact u2_ne (by omega)
      · intro a hna
        exact ⟨(vu_ne hna).trans (vu_ne hna), vu_ne hna, vu_ne hna⟩
      · exact u2_eq
      · intro i hi
        show va_up (ar (nA h 21 (gcap (qC g b) ((qB g b).length + n)))) (hn h) (va_cpy (ar (nA h 21 (gcap (qC g b) ((qB g b).length + n))) r) (ar (nA h 21 (gcap (qC g b) ((qB g b).length + n))) (hn h)) 0 0 (qC g b)) (hn h) i = _
        rw [vu_eq]
        unfold va_cpy
        rw [if_pos (by omega)]
        have : ar (nA h 21 (gcap (qC g b) ((qB g b).length + n))) r = ar h r := vu_ne (by omega)
        rw [this]
        congr 1
        omega
end
