/-! the reference: live bytes, data bytes -/
section
variable {m : Nat} {g : Gh} {S : MS} {α : Type} {rs : List AR} {fs : List AF} {ps : List AV}
theorem m_liveBytes {k : Int32 → M α} {Q : α → MS → Prop} (hM : Mk m g) (hR : RepR S rs) (h : okM m g (k (rlive 0 rs)) S Q) : okM m g (bd (X9_liveBytes m) k) S Q := by
  refine oM_bd ?_
  have hn := hR.1.2
  have loop : ∀ (w i : Nat) (c : Int32), rs.length - i < w → i ≤ rs.length → okM m g (k (rlive c (rs.drop i))) S Q → okM m g (X9_liveBytes_b4 w m c (nI i)) S (fun v S1 => okM m g (k v) S1 Q) := by
    intro w
    induction w with
    | zero => intro i c h; omega
    | succ w ih =>
      intro i c hw hi hq
      show okM m g (X9_liveBytes_b4b (X9_liveBytes_b4 w) m c (nI i)) S _
      unfold X9_liveBytes_b4b
      refine oM_gI hM ?_
      rw [hR.1.1]
      by_cases cc : i < rs.length
      · obtain ⟨r, hr⟩ := some_of_lt cc
        rw [drop_cons hr] at hq
        refine oM_itF (nI_ge cc (by omega)) (oM_ck hM (m_recordBytes hM hR hr rfl (oM_bpu ?_)))
        rw [nI_1]
        exact ih (i + 1) _ (by omega) (by omega) hq
      · rw [List.drop_eq_nil_of_le (by omega)] at hq
        exact oM_itT (nI_le (by omega) (by omega)) (oM_pu hq)
  have : FU = 1000000 := rfl
  exact loop FU 0 0 (by omega) (Nat.zero_le _) (by rw [List.drop_zero]; exact h)
theorem m_dataBytes {k : Int32 → M α} {Q : α → MS → Prop} (hM : Mk m g) (hF : RepF S fs) (h : okM m g (k (fdat 0 fs)) S Q) : okM m g (bd (X9_dataBytes m) k) S Q := by
  refine oM_bd ?_
  have hl := hF.1.2.2.2
  have loop : ∀ (w i : Nat) (c : Int32), fs.length - i < w → i ≤ fs.length → okM m g (k (fdat c (fs.drop i))) S Q → okM m g (X9_dataBytes_b4 w m c (nI i)) S (fun v S1 => okM m g (k v) S1 Q) := by
    intro w
    induction w with
    | zero => intro i c h; omega
    | succ w ih =>
      intro i c hw hi hq
      show okM m g (X9_dataBytes_b4b (X9_dataBytes_b4 w) m c (nI i)) S _
      unfold X9_dataBytes_b4b X9_dataBytes_b32
      refine oM_gI hM ?_
      rw [hF.1.1]
      by_cases cc : i < fs.length
      · obtain ⟨f, hf⟩ := some_of_lt cc
        obtain ⟨n1, n2, n3⟩ := rf_n hF hf
        rw [drop_cons hf] at hq
        have hq : okM m g (k (fdat (c + (if f.2.1 = 0 then nI f.2.2.1.length else 0)) (fs.drop (i + 1)))) S Q := hq
        refine oM_itF (nI_ge cc (by omega)) (oM_gR hM (oM_al (q := 3) hM rfl n2 ?_))
        by_cases d : f.2.1 = 0
        · rw [if_pos d] at hq
          refine oM_itF (fun q => q d) (oM_gR hM (oM_al (q := 4) hM rfl n3 (oM_bpu ?_)))
          rw [nI_1]
          exact ih (i + 1) _ (by omega) (by omega) hq
        · rw [if_neg d] at hq
          refine oM_itT d (oM_bpu ?_)
          rw [nI_1]
          exact ih (i + 1) _ (by omega) (by omega) hq
      · rw [List.drop_eq_nil_of_le (by omega)] at hq
        exact oM_itT (nI_le (by omega) (by omega)) (oM_pu hq)
  have : FU = 1000000 := rfl
  exact loop FU 0 0 (by omega) (Nat.zero_le _) (by rw [List.drop_zero]; exact h)
end
