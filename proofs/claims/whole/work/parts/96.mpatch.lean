/-! the reference: a byte is patched; the disk is formatted -/
theorem flat_set : ∀ {fs : List AF} {f j : Nat} {x y : AF} {v : Int32}, fs[f]? = some x → j < x.2.2.1.length → y.2.2.1 = x.2.2.1.set j v → (fs.flatMap (fun f => f.2.2.1)).set (totF (fs.take f) + j) v = (fs.set f y).flatMap (fun f => f.2.2.1) ∧ totF (fs.set f y) = totF fs
  | [], f, j, x, y, v, h, _, _ => by cases h
  | z :: zs, 0, j, x, y, v, h, hj, hy => by
    simp only [List.getElem?_cons_zero, Option.some.injEq] at h
    subst h
    have e0 : totF ((z :: zs).take 0) = 0 := rfl
    refine ⟨?_, ?_⟩
    · rw [e0, Nat.zero_add, List.flatMap_cons, List.set_append_left _ _ hj, List.set_cons_zero, List.flatMap_cons, hy]
    · show y.2.2.1.length + totF zs = z.2.2.1.length + totF zs
      rw [hy, List.length_set]
  | z :: zs, f + 1, j, x, y, v, h, hj, hy => by
    rw [List.getElem?_cons_succ] at h
    obtain ⟨i1, i2⟩ := flat_set h hj hy
    have e0 : totF ((z :: zs).take (f + 1)) = z.2.2.1.length + totF (zs.take f) := rfl
    refine ⟨?_, ?_⟩
    · rw [e0, List.flatMap_cons, Nat.add_assoc, List.set_append_right _ _ (by omega), Nat.add_sub_cancel_left, i1, List.set_cons_succ, List.flatMap_cons]
    · show z.2.2.1.length + totF (zs.set f y) = z.2.2.1.length + totF zs
      rw [i2]
theorem set_same {β : Type} {l : List β} {i : Nat} {a : β} (h : l[i]? = some a) : l.set i a = l := by
  apply List.ext_getElem?
  intro j
  rw [List.getElem?_set]
  by_cases c : i = j
  · subst c
    rw [if_pos rfl, if_pos (lt_of_some h), h]
  · rw [if_neg c]
theorem map_set_same {β γ : Type} {l : List β} {i : Nat} {a b : β} (f : β → γ) (h : l[i]? = some a) (hf : f b = f a) : (l.set i b).map f = l.map f := by
  rw [List.map_set, hf]
  exact set_same (by rw [List.getElem?_map, h]; rfl)
section
variable {m : Nat} {g : Gh} {S : MS} {α : Type} {rs : List AR} {fs : List AF} {ps : List AV}
theorem repF_pat {f j : Nat} {x : AF} {v : Int32} (hF : RepF S fs) (hf : fs[f]? = some x) (hj : j < x.2.2.1.length) : RepF (upA S 1 ((S.2 1).set (totF (fs.take f) + j) (b8 v))) (patF f j v fs) := by
  have eT := totF_take hf
  obtain ⟨⟨b1, b2, b3, b4⟩, ⟨c1, c2, c3, c4⟩, d1, d2, d3, d4, d5⟩ := hF
  have ep : patF f j v fs = fs.set f (x.1, x.2.1, x.2.2.1.set j (b8 v), x.2.2.2.1, x.2.2.2.2) := by
    unfold patF
    rw [hf]
  obtain ⟨p1, p2⟩ := flat_set (y := (x.1, x.2.1, x.2.2.1.set j (b8 v), x.2.2.2.1, x.2.2.2.2)) (v := b8 v) hf hj rfl
  rw [ep]
  refine ⟨⟨?_, ?_, ?_, ?_⟩, ⟨?_, c2, c3, c4⟩, ?_, ?_, ?_, ?_, ?_⟩
  · rw [List.length_set]
    exact b1
  · rw [p2]
    exact b2
  · rw [p2]
    exact b3
  · rw [List.length_set]
    exact b4
  · show ((S.2 1).set _ _).length = 16384
    rw [List.length_set]
    exact c1
  · rw [List.length_set, map_set_same (b := (x.1, x.2.1, x.2.2.1.set j (b8 v), x.2.2.2.1, x.2.2.2.2)) (fun f : AF => f.1) hf rfl]
    exact d1
  · rw [List.length_set, map_set_same (b := (x.1, x.2.1, x.2.2.1.set j (b8 v), x.2.2.2.1, x.2.2.2.2)) (fun f : AF => f.2.1) hf rfl]
    exact d2
  · rw [List.length_set, map_set_same (fun f : AF => nI f.2.2.1.length) hf (by dsimp only; rw [List.length_set])]
    exact d3
  · show ((S.2 1).set (totF (fs.take f) + j) (b8 v)).take _ = _
    rw [p2, List.take_set, d4]
    exact p1
  · exact nrm_set d5
theorem m_patch {f i v : Int32} {k : Int32 → M α} {Q : α → MS → Prop} (hM : Mk m g) (hF : RepF S fs) (h1 : ¬ S.1 23 = 0 → okM m g (k 0) (upI S 0 1) Q) (h2 : S.1 23 = 0 → oat fs f = none → okM m g (k 0) (upI S 0 2) Q) (h3 : ∀ x, S.1 23 = 0 → oat fs f = some x → (i < 0 ∨ nI x.2.2.1.length ≤ i) → okM m g (k 0) (upI S 0 2) Q) (h4 : ∀ x S', S.1 23 = 0 → oat fs f = some x → ¬ (i < 0 ∨ nI x.2.2.1.length ≤ i) → RepF S' (patF f.toNatClampNeg i.toNatClampNeg v fs) → S'.1 0 = 0 → mfr [0] [1] S S' → okM m g (k (bat x.2.2.1 i)) S' Q) : okM m g (bd (X9_patch m f i v) k) S Q := by
  refine oM_bd ?_
  unfold X9_patch X9_patch_b38
  have hl := hF.1.2.2.2
  have hT := hF.1.2.2.1
  have l1 := hF.2.1.1
  refine oM_gI hM ?_
  by_cases c0 : S.1 23 = 0
  · have bad : okM m g (k 0) (upI S 0 2) Q → okM m g (X9_patch_b43 m f i v 2 m) S (fun v S1 => okM m g (k v) S1 Q) := by
      intro q
      unfold X9_patch_b43
      exact oM_pI hM (oM_gI hM (oM_itF (show ¬ (2 : Int32) ≤ 0 by decide) (oM_pu q)))
    refine oM_itT c0 ?_
    rcases oat_cases fs f (by omega) with ⟨c, e⟩ | ⟨c, c2, e⟩ | ⟨j, x, ej, hj, e⟩
    · exact oM_itT c (bad (h2 c0 e))
    · refine oM_itF c (oM_gI hM ?_)
      rw [hF.1.1]
      exact oM_itT c2 (bad (h2 c0 e))
    · have lj := lt_of_some hj
      have eT := totF_take hj
      obtain ⟨n1, n2, n3⟩ := rf_n hF hj
      subst ej
      refine oM_itF (fun q => absurd (nI_le (a := 0) (b := j) (by omega) (by omega)) (Int32.not_le.mpr q)) (oM_gI hM ?_)
      rw [hF.1.1]
      refine oM_itF (nI_ge lj (by omega)) ?_
      rcases bat_cases x.2.2.1 i (by omega) with ⟨d, e2⟩ | ⟨d, d2, e2⟩ | ⟨t, u, d, d2, et, ht, e2⟩
      · exact oM_itT d (bad (h3 x c0 e (Or.inl d)))
      · exact oM_itF d (oM_gR hM (oM_al (q := 4) hM rfl n3 (oM_itF (Int32.not_lt.mpr d2) (bad (h3 x c0 e (Or.inr d2))))))
      · have F1 : RepF (upI S 0 0) fs := repF_fr hF (mfr_I (J := [0]) (K := []) (by decide)) (by decide) (by decide) (by decide) (by decide) (by decide) (by decide)
        have lt := lt_of_some ht
        have cl : ∀ n, n < 2 ^ 31 → (nI n).toNatClampNeg = n := by
          intro n hn
          show (nI n).toInt.toNat = n
          rw [nI_toInt hn]
          rfl
        have h5 := fun S' => h4 x S' c0 e (fun q => q.elim d d2)
        rw [e2] at h5
        rw [et] at h5 ⊢
        rw [cl j (by omega), cl t (by omega)] at h5
        refine oM_itF (by rw [← et]; exact d) (oM_gR hM (oM_al (q := 4) hM rfl n3 (oM_itT (by rw [← et]; exact Int32.not_le.mp d2) ?_)))
        unfold X9_patch_b43
        refine oM_pI hM (oM_gI hM (oM_itT (show (0 : Int32) ≤ 0 by decide) (oM_ck hM (m_startOf hM F1 rfl (by omega) (oM_bpu (oM_gR hM (oM_al (q := 1) hM (nI_add _ t) (dsk_get F1 hj ht) (oM_bpu (oM_gR hM (oM_as (q := 1) hM (nI_add _ t) ?_ (oM_pu (h5 _ ?_ ?_ ?_))))))))))))
        · show totF (fs.take j) + t < (S.2 1).length
          omega
        · rw [if_pos rfl]
          have q := repF_pat (v := v) F1 hj lt
          have q2 := b8_b8 v
          unfold b8 at q q2
          rw [q2]
          exact q
        · rfl
        · exact mfr_tr (mfr_I (by decide)) (mfr_A (by decide))
  · refine oM_itF c0 ?_
    unfold X9_patch_b43
    exact oM_pI hM (oM_gI hM (oM_itF (show ¬ (1 : Int32) ≤ 0 by decide) (oM_pu (h1 c0))))
/-- what holds after a reset -/
def Fresh (S S' : MS) (c f : Int32) : Prop := (S'.1 1 = c ∧ S'.1 2 = f) ∧ (∀ j, j ∈ [4, 8, 12, 18, 19, 20, 21, 22, 33, 34] → S'.1 j = 0) ∧ (∀ j, j ∈ [23, 24, 25] → S'.1 j = 1) ∧ (∀ j, j ∈ [26, 35] → S'.1 j = -1) ∧ mfr [1, 2, 4, 8, 12, 18, 19, 20, 21, 22, 23, 24, 25, 26, 33, 34, 35] [] S S'
theorem m_reset {c f : Int32} {k : Unit → M α} {Q : α → MS → Prop} (hM : Mk m g) (h : ∀ S', Fresh S S' c f → okM m g (k ()) S' Q) : okM m g (bd (X9_reset m c f) k) S Q := by
  refine oM_bd ?_
  unfold X9_reset
  refine oM_pI hM (oM_pI hM (oM_pI hM (oM_pI hM (oM_pI hM (oM_pI hM (oM_pI hM (oM_pI hM (oM_pI hM (oM_pI hM (oM_pZ hM (Or.inr rfl) (oM_pI hM (oM_pI hM (oM_pI hM (oM_pI hM (oM_pI hM (oM_pI hM (oM_pu (h _ ⟨⟨rfl, rfl⟩, ?_, ?_, ?_, ?_⟩))))))))))))))))))
  · intro j hj
    simp only [List.mem_cons, List.not_mem_nil, or_false] at hj
    rcases hj with q | q | q | q | q | q | q | q | q | q <;> subst q <;> rfl
  · intro j hj
    simp only [List.mem_cons, List.not_mem_nil, or_false] at hj
    rcases hj with q | q | q <;> subst q <;> rfl
  · intro j hj
    simp only [List.mem_cons, List.not_mem_nil, or_false] at hj
    rcases hj with q | q <;> subst q <;> rfl
  · refine ⟨fun j hj => ?_, fun q _ => rfl⟩
    simp only [List.mem_cons, List.not_mem_nil, or_false, not_or] at hj
    obtain ⟨q1, q2, q3, q4, q5, q6, q7, q8, q9, q10, q11, q12, q13, q14, q15, q16, q17⟩ := hj
    unfold upI va_up
    dsimp only
    simp only [if_neg q1, if_neg q2, if_neg q3, if_neg q4, if_neg q5, if_neg q6, if_neg q7, if_neg q8, if_neg q9, if_neg q10, if_neg q11, if_neg q12, if_neg q13, if_neg q14, if_neg q15, if_neg q16, if_neg q17]
theorem m_format {c f : Int32} {k : Unit → M α} {Q : α → MS → Prop} (hM : Mk m g) (h1 : (c < 128 ∨ 16384 < c ∨ f < 128 ∨ 4096 < f) → okM m g (k ()) (upI S 0 1) Q) (h2 : ∀ S', ¬ (c < 128 ∨ 16384 < c ∨ f < 128 ∨ 4096 < f) → Fresh (upI S 0 0) S' c f → okM m g (k ()) S' Q) : okM m g (bd (X9_format m c f) k) S Q := by
  refine oM_bd ?_
  unfold X9_format X9_format_b29
  have bad : (c < 128 ∨ 16384 < c ∨ f < 128 ∨ 4096 < f) → okM m g (X9_format_b34 m c f 1 m) S (fun v S1 => okM m g (k v) S1 Q) := by
    intro q
    unfold X9_format_b34
    exact oM_pI hM (oM_gI hM (oM_itT (show ¬ (1 : Int32) = 0 by decide) (oM_pu (h1 q))))
  by_cases c1 : c < 128
  · exact oM_itT c1 (bad (Or.inl c1))
  refine oM_itF c1 ?_
  by_cases c2 : 16384 < c
  · exact oM_itT c2 (bad (Or.inr (Or.inl c2)))
  refine oM_itF c2 ?_
  by_cases c3 : f < 128
  · exact oM_itT c3 (bad (Or.inr (Or.inr (Or.inl c3))))
  refine oM_itF c3 ?_
  by_cases c4 : 4096 < f
  · exact oM_itF (Int32.not_le.mpr c4) (bad (Or.inr (Or.inr (Or.inr c4))))
  refine oM_itT (Int32.not_lt.mp c4) ?_
  unfold X9_format_b34
  exact oM_pI hM (oM_gI hM (oM_itF (fun q => q rfl) (oM_ck hM (m_reset hM (fun S' hf => oM_pu (h2 S' (fun q => q.elim c1 (fun q => q.elim c2 (fun q => q.elim c3 c4))) hf))))))
end
