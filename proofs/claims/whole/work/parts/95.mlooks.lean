/-! the reference: looking at files and entries -/
theorem oat_cases {β : Type} (l : List β) (i : Int32) (h : l.length < 2 ^ 31) : (i < 0 ∧ oat l i = none) ∨ (¬ i < 0 ∧ nI l.length ≤ i ∧ oat l i = none) ∨ ∃ j x, i = nI j ∧ l[j]? = some x ∧ oat l i = some x := by
  by_cases c : i < 0
  · exact Or.inl ⟨c, oat_neg c⟩
  · have e := nI_cl c
    have h31 := clamp_lt i
    have eo : oat l i = l[i.toNatClampNeg]? := by
      conv => lhs; rw [e]
      exact oat_nI h31
    by_cases c2 : i.toNatClampNeg < l.length
    · obtain ⟨x, hx⟩ := some_of_lt c2
      exact Or.inr (Or.inr ⟨_, x, e, hx, eo.trans hx⟩)
    · refine Or.inr (Or.inl ⟨c, ?_, ?_⟩)
      · rw [e]
        exact nI_le (by omega) h31
      · rw [eo]
        exact List.getElem?_eq_none (by omega)
theorem bat_cases (l : List Int32) (i : Int32) (h : l.length < 2 ^ 31) : (i < 0 ∧ bat l i = -1) ∨ (¬ i < 0 ∧ nI l.length ≤ i ∧ bat l i = -1) ∨ ∃ j x, ¬ i < 0 ∧ ¬ nI l.length ≤ i ∧ i = nI j ∧ l[j]? = some x ∧ bat l i = x &&& 255 := by
  unfold bat
  by_cases c : i < 0
  · exact Or.inl ⟨c, if_pos c⟩
  · rw [if_neg c]
    by_cases c2 : nI l.length ≤ i
    · exact Or.inr (Or.inl ⟨c, c2, if_pos c2⟩)
    · rw [if_neg c2]
      have e := nI_cl c
      have h31 := clamp_lt i
      have hlt : i.toNatClampNeg < l.length := by
        rw [e, Int32.le_iff_toInt_le, nI_toInt h, nI_toInt h31] at c2
        omega
      exact Or.inr (Or.inr ⟨_, _, c, c2, e, getD_some hlt, rfl⟩)
section
variable {m : Nat} {g : Gh} {S : MS} {α : Type} {rs : List AR} {fs : List AF} {ps : List AV}
theorem m_byteOf {f i : Int32} {k : Int32 → M α} {Q : α → MS → Prop} (hM : Mk m g) (hF : RepF S fs) (h : okM m g (k (match oat fs f with | none => -1 | some x => bat x.2.2.1 i)) (upI S 0 0) Q) : okM m g (bd (X9_byteOf m f i) k) S Q := by
  refine oM_bd ?_
  unfold X9_byteOf X9_byteOf_b31
  have hl := hF.1.2.2.2
  have hT := hF.1.2.2.1
  have F1 : RepF (upI S 0 0) fs := repF_fr hF (mfr_I (J := [0]) (K := []) (by decide)) (by decide) (by decide) (by decide) (by decide) (by decide) (by decide)
  refine oM_pI hM ?_
  rcases oat_cases fs f (by omega) with ⟨c, e⟩ | ⟨c, c2, e⟩ | ⟨j, x, ej, hj, e⟩
  · rw [e] at h
    exact oM_itT c (oM_pu h)
  · rw [e] at h
    refine oM_itF c (oM_gI hM ?_)
    rw [F1.1.1]
    exact oM_itT c2 (oM_pu h)
  · rw [e] at h
    have lj := lt_of_some hj
    have eT := totF_take hj
    obtain ⟨n1, n2, n3⟩ := rf_n F1 hj
    subst ej
    refine oM_itF (fun q => absurd (nI_le (a := 0) (b := j) (by omega) (by omega)) (Int32.not_le.mpr q)) (oM_gI hM ?_)
    rw [F1.1.1]
    refine oM_itF (nI_ge lj (by omega)) ?_
    rcases bat_cases x.2.2.1 i (by omega) with ⟨d, e2⟩ | ⟨d, d2, e2⟩ | ⟨t, v, d, d2, et, ht, e2⟩
    · dsimp only at h
      rw [e2] at h
      exact oM_itT d (oM_pu h)
    · dsimp only at h
      rw [e2] at h
      exact oM_itF d (oM_gR hM (oM_al (q := 4) hM rfl n3 (oM_itF (Int32.not_lt.mpr d2) (oM_pu h))))
    · dsimp only at h
      rw [e2] at h
      refine oM_itF d (oM_gR hM (oM_al (q := 4) hM rfl n3 (oM_itT (Int32.not_le.mp d2) (oM_gR hM (oM_ck hM (m_startOf hM F1 rfl (by omega) ?_))))))
      rw [et]
      exact oM_al (q := 1) hM (nI_add _ t) (dsk_get F1 hj ht) (oM_pu h)
theorem m_entry {i w : Int32} {k : Int32 → M α} {Q : α → MS → Prop} (hM : Mk m g) (hR : RepR S rs) (h : okM m g (k (if S.1 23 = 0 then -1 else match oat rs i with | none => -1 | some r => if w = 0 then nI r.1.length else if w = 1 then r.2.2.2.1 else if w = 2 then r.2.1 else if w = 3 then r.2.2.1 else if w = 4 then r.2.2.2.2 else -1)) (upI S 0 0) Q) : okM m g (bd (X9_entry m i w) k) S Q := by
  refine oM_bd ?_
  unfold X9_entry
  have hn := hR.1.2
  have R1 : RepR (upI S 0 0) rs := repR_fr hR (mfr_I (J := [0]) (K := []) (by decide)) (by decide) (fun q _ _ => List.not_mem_nil)
  refine oM_pI hM (oM_gI hM ?_)
  have e23 : (upI S 0 0).1 23 = S.1 23 := rfl
  rw [e23]
  by_cases c0 : S.1 23 = 0
  · rw [if_pos c0] at h
    exact oM_itT c0 (oM_pu h)
  rw [if_neg c0] at h
  refine oM_itF c0 ?_
  rcases oat_cases rs i (by omega) with ⟨c, e⟩ | ⟨c, c2, e⟩ | ⟨j, r, ej, hj, e⟩
  · rw [e] at h
    exact oM_itT c (oM_pu h)
  · rw [e] at h
    refine oM_itF c (oM_gI hM ?_)
    rw [R1.1.1]
    exact oM_itF (Int32.not_lt.mpr c2) (oM_pu h)
  · rw [e] at h
    have lj := lt_of_some hj
    obtain ⟨a1, a2, a3, a4, a5, a6, a7⟩ := R1.2.2 j r hj
    subst ej
    refine oM_itF (fun q => absurd (nI_le (a := 0) (b := j) (by omega) (by omega)) (Int32.not_le.mpr q)) (oM_gI hM ?_)
    rw [R1.1.1]
    refine oM_itT (Int32.not_le.mp (nI_ge lj (by omega))) ?_
    dsimp only at h
    by_cases w0 : w = 0
    · rw [if_pos w0] at h
      exact oM_itT w0 (oM_gR hM (oM_al (q := 12) hM rfl a3 (oM_pu h)))
    rw [if_neg w0] at h
    refine oM_itF w0 ?_
    by_cases w1 : w = 1
    · rw [if_pos w1] at h
      exact oM_itT w1 (oM_gR hM (oM_al (q := 15) hM rfl a6 (oM_pu h)))
    rw [if_neg w1] at h
    refine oM_itF w1 ?_
    by_cases w2 : w = 2
    · rw [if_pos w2] at h
      exact oM_itT w2 (oM_gR hM (oM_al (q := 13) hM rfl a4 (oM_pu h)))
    rw [if_neg w2] at h
    refine oM_itF w2 ?_
    by_cases w3 : w = 3
    · rw [if_pos w3] at h
      exact oM_itT w3 (oM_gR hM (oM_al (q := 14) hM rfl a5 (oM_pu h)))
    rw [if_neg w3] at h
    refine oM_itF w3 ?_
    by_cases w4 : w = 4
    · rw [if_pos w4] at h
      exact oM_itT w4 (oM_gR hM (oM_al (q := 16) hM rfl a7 (oM_pu h)))
    rw [if_neg w4] at h
    exact oM_itF w4 (oM_pu h)
theorem m_key {i w : Int32} {k : Int32 → M α} {Q : α → MS → Prop} (hM : Mk m g) (hR : RepR S rs) (h : okM m g (k (if S.1 23 = 0 then -1 else match oat rs i with | none => -1 | some r => bat r.1 w)) (upI S 0 0) Q) : okM m g (bd (X9_key m i w) k) S Q := by
  refine oM_bd ?_
  unfold X9_key X9_key_b38
  have hn := hR.1.2
  have R1 : RepR (upI S 0 0) rs := repR_fr hR (mfr_I (J := [0]) (K := []) (by decide)) (by decide) (fun q _ _ => List.not_mem_nil)
  refine oM_pI hM (oM_gI hM ?_)
  have e23 : (upI S 0 0).1 23 = S.1 23 := rfl
  rw [e23]
  by_cases c0 : S.1 23 = 0
  · rw [if_pos c0] at h
    exact oM_itT c0 (oM_pu h)
  rw [if_neg c0] at h
  refine oM_itF c0 ?_
  rcases oat_cases rs i (by omega) with ⟨c, e⟩ | ⟨c, c2, e⟩ | ⟨j, r, ej, hj, e⟩
  · rw [e] at h
    exact oM_itT c (oM_pu h)
  · rw [e] at h
    refine oM_itF c (oM_gI hM ?_)
    rw [R1.1.1]
    exact oM_itT c2 (oM_pu h)
  · rw [e] at h
    have lj := lt_of_some hj
    obtain ⟨a1, a2, a3, a4, a5, a6, a7⟩ := R1.2.2 j r hj
    subst ej
    refine oM_itF (fun q => absurd (nI_le (a := 0) (b := j) (by omega) (by omega)) (Int32.not_le.mpr q)) (oM_gI hM ?_)
    rw [R1.1.1]
    refine oM_itF (nI_ge lj (by omega)) ?_
    dsimp only at h
    rcases bat_cases r.1 w (by omega) with ⟨d, e2⟩ | ⟨d, d2, e2⟩ | ⟨t, v, d, d2, et, ht, e2⟩
    · rw [e2] at h
      exact oM_itT d (oM_pu h)
    · rw [e2] at h
      exact oM_itF d (oM_gR hM (oM_al (q := 12) hM rfl a3 (oM_itF (Int32.not_lt.mpr d2) (oM_pu h))))
    · rw [e2] at h
      refine oM_itF d (oM_gR hM (oM_al (q := 12) hM rfl a3 (oM_itT (Int32.not_le.mp d2) (oM_gR hM ?_))))
      rw [et]
      exact oM_al (q := 11) hM (by rw [nI_16, nI_add]) (a2 t v ht) (oM_pu h)
theorem m_bad {k : Int32 → M α} {Q : α → MS → Prop} (hM : Mk m g) (hF : RepF S fs) (hS : SrtF fs) (hR : RepR S rs) (hfit : ∀ r, r ∈ rs → ∃ x P V, rowFit fs r x P V) (h1 : S.1 23 = 0 → ∀ v, okM m g (k v) (upI S 0 1) Q) (h2 : ¬ S.1 23 = 0 → okM m g (k (rs.foldl (fun c r => match badA fs r with | true => c + 1 | false => c) 0)) (upI S 0 0) Q) : okM m g (bd (X9_bad m) k) S Q := by
  refine oM_bd ?_
  unfold X9_bad X9_bad_b13
  have hn := hR.1.2
  have : FU = 1000000 := rfl
  refine oM_gI hM ?_
  by_cases c0 : S.1 23 = 0
  · refine oM_itT c0 (oM_pI hM ?_)
    obtain ⟨w, hw⟩ : ∃ w, FU = w + 1 := ⟨999999, rfl⟩
    rw [hw]
    show okM m g (X9_bad_b20b (X9_bad_b20 w) m 0 0) _ _
    unfold X9_bad_b20b
    refine oM_gI hM (oM_it (fun _ => oM_pu (h1 c0 0)) (fun _ => oM_gI hM (oM_itT c0 (oM_pu (h1 c0 0)))))
  · refine oM_itF c0 (oM_pI hM ?_)
    have F1 : RepF (upI S 0 0) fs := repF_fr hF (mfr_I (J := [0]) (K := []) (by decide)) (by decide) (by decide) (by decide) (by decide) (by decide) (by decide)
    have R1 : RepR (upI S 0 0) rs := repR_fr hR (mfr_I (J := [0]) (K := []) (by decide)) (by decide) (fun q _ _ => List.not_mem_nil)
    have loop : ∀ (w i : Nat) (c : Int32), rs.length - i < w → i ≤ rs.length → okM m g (k ((rs.drop i).foldl (fun c r => match badA fs r with | true => c + 1 | false => c) c)) (upI S 0 0) Q → okM m g (X9_bad_b20 w m c (nI i)) (upI S 0 0) (fun v S1 => okM m g (k v) S1 Q) := by
      intro w
      induction w with
      | zero => intro i c h; omega
      | succ w ih =>
        intro i c hw hi hq
        show okM m g (X9_bad_b20b (X9_bad_b20 w) m c (nI i)) _ _
        unfold X9_bad_b20b X9_bad_b49
        refine oM_gI hM ?_
        rw [R1.1.1]
        by_cases cc : i < rs.length
        · obtain ⟨r, hr⟩ := some_of_lt cc
          obtain ⟨x, P, V, hf⟩ := hfit r (List.mem_of_getElem? hr)
          rw [drop_cons hr, List.foldl_cons] at hq
          have eb : badA fs r = badR r x.2.2.1 := by
            unfold badA
            rw [hf.1]
          rw [eb] at hq
          refine oM_itF (nI_ge cc (by omega)) (oM_gI hM (oM_itF c0 (oM_ck hM (m_isBad hM R1 F1 hS hr hf rfl ?_))))
          cases hb : badR r x.2.2.1 with
          | true =>
            rw [hb] at hq
            refine oM_itF (by decide) (oM_bpu ?_)
            rw [nI_1]
            exact ih (i + 1) _ (by omega) (by omega) hq
          | false =>
            rw [hb] at hq
            refine oM_itT rfl (oM_bpu ?_)
            rw [nI_1, Int32.add_zero]
            exact ih (i + 1) _ (by omega) (by omega) hq
        · rw [List.drop_eq_nil_of_le (by omega)] at hq
          exact oM_itT (nI_le (by omega) (by omega)) (oM_pu hq)
    exact loop FU 0 0 (by omega) (Nat.zero_le _) (by rw [List.drop_zero]; exact h2 c0)
end
