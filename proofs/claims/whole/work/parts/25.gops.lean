theorem gIk_d {c k : Nat} (h : gIk c k = true) : 3 ≤ c ∧ c ≤ 12 ∧ c ≠ 4 ∧ k < 100 ∧ rfF.elem (100 * c + k) = false := by
  unfold gIk at h
  simp only [Bool.and_eq_true, decide_eq_true_eq, Bool.not_eq_true'] at h
  obtain ⟨⟨⟨⟨h1, h2⟩, h3⟩, h4⟩, h5⟩ := h
  exact ⟨h1, h2, h3, h4, h5⟩
theorem gRk_d {c k : Nat} (h : gRk c k = true) : 3 ≤ c ∧ c ≤ 12 ∧ c ≠ 4 ∧ k < 100 ∧ rfF.elem (100 * c + k) = true := by
  unfold gRk at h
  simp only [Bool.and_eq_true, decide_eq_true_eq] at h
  obtain ⟨⟨⟨⟨h1, h2⟩, h3⟩, h4⟩, h5⟩ := h
  exact ⟨h1, h2, h3, h4, h5⟩
theorem u2_ne {α : Type} {f : Nat → Nat → α} {a i b j : Nat} {v : α} (h : ¬ (b = a ∧ j = i)) : u2 f a i v b j = f b j := if_neg h
theorem u2_eq {α : Type} {f : Nat → Nat → α} {a i : Nat} {v : α} : u2 f a i v a i = v := if_pos ⟨rfl, rfl⟩
theorem vu_ne {α : Type} {f : Nat → α} {k j : Nat} {v : α} (h : j ≠ k) : va_up f k v j = f j := if_neg h
theorem vu_eq {α : Type} {f : Nat → α} {k : Nat} {v : α} : va_up f k v k = v := if_pos rfl
/-- a plain int field is written -/
theorem abs_wI {h : Hp} {g : Gh} {c n a : Nat} {v : Int32} (hd : gIk c n = true) (ha : Abs h g) : Abs (sF h (100 * c + n) a (.int v)) (wI g (100 * c + n) a v) := by
  obtain ⟨w, a1, a2, a3, a4, a5, a6, a7, a8⟩ := ha
  obtain ⟨d1, d2, d3, d4, d5⟩ := gIk_d hd
  refine ⟨w, a1, ?_, ?_, ?_, ?_, a6, a7, ?_⟩
  · intro a' c' k' hk' hd'
    show u2 (fd h) _ _ _ _ _ = Value.int (u2 (qi g) _ _ _ _ _)
    by_cases e : 100 * c' + k' = 100 * c + n ∧ a' = a
    · rw [e.1, e.2, u2_eq, u2_eq]
    · rw [u2_ne e, u2_ne e]
      exact a2 a' c' k' hk' hd'
  · intro a' c' k' hk' hd'
    have e : ¬ (100 * c' + k' = 100 * c + n ∧ a' = a) := by
      rintro ⟨e, _⟩
      have := (gRk_d hd').2.2.2.2
      rw [e, d5] at this
      cases this
    show u2 (fd h) _ _ _ _ _ = _ ∨ u2 (fd h) _ _ _ _ _ = _ ∧ _
    rw [u2_ne e]
    exact a3 a' c' k' hk' hd'
  · intro b hb
    obtain ⟨r, b1, b2, bs⟩ := a4 b hb
    refine ⟨r, ?_, ?_, bs⟩
    · show u2 (fd h) _ _ _ _ _ = _
      rw [u2_ne (by omega)]
      exact b1
    · show u2 (fd h) _ _ _ _ _ = _
      rw [u2_ne (by omega)]
      exact b2
  · intro b hb
    obtain ⟨e, ⟨z, b0⟩, b1, b2, b3⟩ := a5 b hb
    refine ⟨e, ⟨z, ?_⟩, ?_, ?_, ?_⟩
    · show u2 (fd h) _ _ _ _ _ = _
      rw [u2_ne (by omega)]
      exact b0
    · show u2 (fd h) _ _ _ _ _ = _
      rw [u2_ne (by omega)]
      exact b1
    · show u2 (fd h) _ _ _ _ _ = _
      rw [u2_ne (by omega)]
      exact b2
    · rcases b3 with ⟨c1, c2, c3, c4⟩ | b3
      · refine Or.inl ⟨c1, c2, c3, ?_⟩
        show u2 (fd h) _ _ _ _ _ = _
        rw [u2_ne (by omega)]
        exact c4
      · exact Or.inr b3
  · obtain ⟨e, e1, e2⟩ := a8
    refine ⟨e, ?_, e2⟩
    show u2 (fd h) _ _ _ _ _ = _
    rw [u2_ne (by omega)]
    exact e1
theorem abs_wR {h : Hp} {g : Gh} {c n a b : Nat} (hd : gRk c n = true) (ha : Abs h g) : Abs (sF h (100 * c + n) a (.ref b)) (wR g (100 * c + n) a b) := by
  obtain ⟨w, a1, a2, a3, a4, a5, a6, a7, a8⟩ := ha
  obtain ⟨d1, d2, d3, d4, d5⟩ := gRk_d hd
  refine ⟨w, a1, ?_, ?_, ?_, ?_, a6, a7, ?_⟩
  · intro a' c' k' hk' hd'
    have e : ¬ (100 * c' + k' = 100 * c + n ∧ a' = a) := by
      rintro ⟨e, _⟩
      have := (gIk_d hd').2.2.2.2
      rw [e, d5] at this
      cases this
    show u2 (fd h) _ _ _ _ _ = _
    rw [u2_ne e]
    exact a2 a' c' k' hk' hd'
  · intro a' c' k' hk' hd'
    show u2 (fd h) _ _ _ _ _ = Value.ref (u2 (qr g) _ _ _ _ _) ∨ u2 (fd h) _ _ _ _ _ = _ ∧ u2 (qr g) _ _ _ _ _ = 0
    by_cases e : 100 * c' + k' = 100 * c + n ∧ a' = a
    · rw [e.1, e.2, u2_eq, u2_eq]
      exact Or.inl rfl
    · rw [u2_ne e, u2_ne e]
      exact a3 a' c' k' hk' hd'
  · intro b hb
    obtain ⟨r, b1, b2, bs⟩ := a4 b hb
    refine ⟨r, ?_, ?_, bs⟩
    · show u2 (fd h) _ _ _ _ _ = _
      rw [u2_ne (by omega)]
      exact b1
    · show u2 (fd h) _ _ _ _ _ = _
      rw [u2_ne (by omega)]
      exact b2
  · intro b hb
    obtain ⟨e, ⟨z, b0⟩, b1, b2, b3⟩ := a5 b hb
    refine ⟨e, ⟨z, ?_⟩, ?_, ?_, ?_⟩
    · show u2 (fd h) _ _ _ _ _ = _
      rw [u2_ne (by omega)]
      exact b0
    · show u2 (fd h) _ _ _ _ _ = _
      rw [u2_ne (by omega)]
      exact b1
    · show u2 (fd h) _ _ _ _ _ = _
      rw [u2_ne (by omega)]
      exact b2
    · rcases b3 with ⟨c1, c2, c3, c4⟩ | b3
      · refine Or.inl ⟨c1, c2, c3, ?_⟩
        show u2 (fd h) _ _ _ _ _ = _
        rw [u2_ne (by omega)]
        exact c4
      · exact Or.inr b3
  · obtain ⟨e, e1, e2⟩ := a8
    refine ⟨e, ?_, e2⟩
    show u2 (fd h) _ _ _ _ _ = _
    rw [u2_ne (by omega)]
    exact e1
section
variable {α β : Type} {g : Gh} {Q : α → Gh → Prop}
theorem ok_pI {c n a : Nat} {v : Int32} {k : Unit → M α} (hk : qk g a = c + 1) (hx : ok (k ()) (wI g (100 * c + n) a v) Q) (hd : gIk c n = true := by rfl) : ok (bd (pV c n a (.int v)) k) g Q := by
  refine ok_wr () _ (fun h ha => ⟨_, ?_, abs_wI hd ha⟩) hx
  obtain ⟨w, a1, _⟩ := ha
  have e := (a1.2.2 a (by omega)).1
  show (if (kd h a == c + 1) = true then _ else _) = _
  rw [if_pos (beq_iff_eq.mpr (e.trans hk))]
theorem ok_pR {c n a b : Nat} {k : Unit → M α} (hk : qk g a = c + 1) (hx : ok (k ()) (wR g (100 * c + n) a b) Q) (hd : gRk c n = true := by rfl) : ok (bd (pV c n a (.ref b)) k) g Q := by
  refine ok_wr () _ (fun h ha => ⟨_, ?_, abs_wR hd ha⟩) hx
  obtain ⟨w, a1, _⟩ := ha
  have e := (a1.2.2 a (by omega)).1
  show (if (kd h a == c + 1) = true then _ else _) = _
  rw [if_pos (beq_iff_eq.mpr (e.trans hk))]
theorem ok_pZ {c n a : Nat} {v : Int32} {k : Unit → M α} (hk : qk g a = c + 1) (hv : v = 0 ∨ v = 1) (hx : ok (k ()) (wI g (100 * c + n) a v) Q) (hd : gIk c n = true := by rfl) : ok (bd (pZ c n a v) k) g Q := by
  refine ok_wr () _ (fun h ha => ⟨_, ?_, abs_wI hd ha⟩) hx
  obtain ⟨w, a1, _⟩ := ha
  have e := (a1.2.2 a (by omega)).1
  show (if (kd h a == c + 1 && (v == 0 || v == 1)) = true then _ else _) = _
  rw [if_pos]
  simp only [Bool.and_eq_true, Bool.or_eq_true, beq_iff_eq]
  exact ⟨e.trans hk, hv⟩
theorem ok_tb {i : Nat} {x : Int32} {k : Int32 → M α} (hi : x = nI i) (h16 : i < 16) (hx : ok (k (sumT i)) g Q) : ok (bd (tb x) k) g Q := by
  refine ok_rd _ (fun h ha => ?_) hx
  show (if inx x 16 = true then some (sumT x.toNatClampNeg) else none).map _ = _
  have e : x.toNatClampNeg = i := by rw [hi]; exact nI_clamp (by omega)
  rw [if_pos, e]
  · rfl
  · unfold inx
    rw [decide_eq_true_eq, e, hi]
    exact ⟨nI_pos' (by omega), h16⟩
theorem inx_nI {i n : Nat} (h : i < n) (hn : n < 2 ^ 31) : inx (nI i) n = true := by
  unfold inx
  rw [decide_eq_true_eq, nI_clamp (by omega)]
  exact ⟨nI_pos' (by omega), h⟩
/-- the reference's rows -/
theorem lt_of_some {α : Type} {l : List α} {i : Nat} {v : α} (h : l[i]? = some v) : i < l.length := by
  by_cases e : i < l.length
  · exact e
  · rw [List.getElem?_eq_none (by omega)] at h
    cases h
theorem ok_al {kk a i : Nat} {x : Int32} {k : Int32 → M α} (hkk : kk = 21 ∨ kk = 22) (hk : qk g a = kk) (hi : x = nI i) {v : Int32} (hv : (qA g a)[i]? = some v) (hx : ok (k v) g Q) : ok (bd (al kk a x) k) g Q := by
  refine ok_rd _ (fun h ha => ?_) hx
  obtain ⟨w, a1, _, _, _, _, a6, _⟩ := ha
  have hl := lt_of_some hv
  have e := (a1.2.2 a (by omega)).1
  obtain ⟨b1, b2, b3⟩ := a6 a (by omega)
  show (if kd h a = kk ∧ inx x (ln h a) = true then some (ar h a x.toNatClampNeg) else none).map _ = _
  subst hi
  have q := b3 i hl
  rw [hv] at q
  rw [if_pos ⟨e.trans hk, by rw [b1]; exact inx_nI hl (by omega)⟩, nI_clamp (by omega), ← q]
  rfl
theorem ok_ay {a : Nat} {k : Int32 → M α} (hk : qk g a = 21 ∨ qk g a = 22) (hx : ok (k (nI (qA g a).length)) g Q) : ok (bd (ay a) k) g Q := by
  refine ok_rd _ (fun h ha => ?_) hx
  obtain ⟨w, a1, _, _, _, _, a6, _⟩ := ha
  have e := (a1.2.2 a (by omega)).1
  obtain ⟨b1, b2, b3⟩ := a6 a hk
  show (if kd h a = 25 then some 0 else if 21 ≤ kd h a ∧ kd h a ≤ 24 then some (nI (ln h a)) else none).map _ = _
  rw [if_neg (by omega), if_pos (by omega), b1]
  rfl
theorem abs_wA {h : Hp} {a i : Nat} {v : Int32} (hk : qk g a = 21 ∨ qk g a = 22) (hi : i < (qA g a).length) (ha : Abs h g) : Abs (sA h a i v) (wA g a ((qA g a).set i v)) := by
  obtain ⟨w, a1, a2, a3, a4, a5, a6, a7, a8⟩ := ha
  refine ⟨w, a1, a2, a3, ?_, a5, ?_, a7, a8⟩
  · intro b hb
    obtain ⟨r, b1, b2, b3, b4, b5, b6, b7, b8, b9, b10, b11⟩ := a4 b hb
    refine ⟨r, b1, b2, b3, b4, b5, b6, b7, b8, b9, b10, fun j hj => ?_⟩
    show _ = some (u2 (ar h) _ _ _ _ _)
    rw [u2_ne (fun e => by rw [e.1] at b4; omega)]
    exact b11 j hj
  · intro a' hk'
    obtain ⟨b1, b2, b3⟩ := a6 a' hk'
    show ln h a' = (va_up (qA g) _ _ a').length ∧ (va_up (qA g) _ _ a').length ≤ _ ∧ ∀ j, j < (va_up (qA g) _ _ a').length → (va_up (qA g) _ _ a')[j]? = some (u2 (ar h) _ _ _ _ _)
    by_cases e : a' = a
    · subst e
      rw [vu_eq, List.length_set]
      refine ⟨b1, b2, fun j hj => ?_⟩
      rw [List.getElem?_set]
      by_cases ej : i = j
      · subst ej
        rw [u2_eq, if_pos rfl, if_pos hj]
      · rw [u2_ne (fun e => ej e.2.symm), if_neg ej]
        exact b3 j hj
    · rw [vu_ne e]
      refine ⟨b1, b2, fun j hj => ?_⟩
      rw [u2_ne (fun q => e q.1)]
      exact b3 j hj
theorem ok_as {kk a i : Nat} {x v : Int32} {k : Unit → M α} (hkk : kk = 21 ∨ kk = 22) (hk : qk g a = kk) (hi : x = nI i) (hl : i < (qA g a).length) (hx : ok (k ()) (wA g a ((qA g a).set i (if kk = 21 then v.toInt8.toInt32 else v))) Q) : ok (bd (as kk a x v) k) g Q := by
  refine ok_wr () _ (fun h ha => ⟨sA h a i (if kk = 21 then v.toInt8.toInt32 else v), ?_, abs_wA (by omega) hl ha⟩) hx
  obtain ⟨w, a1, _, _, _, _, a6, _⟩ := ha
  have e := (a1.2.2 a (by omega)).1
  obtain ⟨b1, b2, b3⟩ := a6 a (by omega)
  subst hi
  show (if (kd h a == kk && inx (nI i) (ln h a)) = true then some ((), sA h a (nI i).toNatClampNeg _) else none) = _
  rw [if_pos, nI_clamp (by omega)]
  rw [Bool.and_eq_true, beq_iff_eq, b1]
  exact ⟨e.trans hk, inx_nI hl (by omega)⟩
end
