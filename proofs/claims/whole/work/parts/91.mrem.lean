/-! the reference: remove -/
section
variable {m : Nat} {g : Gh} {S : MS} {α : Type} {rs : List AR} {fs : List AF} {ps : List AV}
theorem rsz_m1 (n : Nat) : rsz (nI n) (-1) = nI (14 + n) := by
  rw [rsz_nI]
  rfl
theorem m_remove {sv : List Nat} {tp : List Int32} {k : Int32 → M α} {Q : α → MS → Prop} (hM : Mk m g) (hF : RepF S fs) (hS : SrtF fs) (hP : RepP S ps) (hR : RepR S rs) (hT : RepT S tp) (hD : drOk S) (hl : fs.length < 4000) (hps : ps.length < 4100) (ht : ¬ S.1 23 = 0 → fullM S (nI (14 + tp.length)) = false → totF fs + (14 + tp.length) ≤ 16384 ∧ rs.length < 1199 ∧ szF (S.1 24) 0 fs = 0)
    (h1 : ∀ S', S.1 23 = 0 → Threw S S' 1 → okM m g (k 0) S' Q) (h2 : ∀ S', ¬ S.1 23 = 0 → (tp.length < 1 ∨ 16 < tp.length) → Threw S S' 2 → okM m g (k 0) S' Q) (h0 : ∀ S', ¬ S.1 23 = 0 → ¬ (tp.length < 1 ∨ 16 < tp.length) → lokR tp rs = none → Threw S S' 0 → okM m g (k 0) S' Q) (h3 : ∀ S' r, ¬ S.1 23 = 0 → ¬ (tp.length < 1 ∨ 16 < tp.length) → lokR tp rs = some r → fullM S (rsz (nI tp.length) (-1)) = true → Threw S S' 3 → okM m g (k 0) S' Q) (h4 : ∀ S' r, ¬ S.1 23 = 0 → ¬ (tp.length < 1 ∨ 16 < tp.length) → lokR tp rs = some r → fullM S (rsz (nI tp.length) (-1)) = false → Wrote S S' fs ps rs sv tp.length (-1) tp → okM m g (k 1) S' Q) : okM m g (bd (X9_remove m) k) S Q := by
  refine oM_bd ?_
  unfold X9_remove X9_remove_b33
  have h80 := hT.2.1
  refine oM_gI hM (oM_pI hM (oM_gI hM ?_))
  rw [hT.1]
  have e23 : (upI S 16 0).1 23 = S.1 23 := rfl
  rw [e23]
  by_cases c : S.1 23 = 0
  · refine oM_itF (fun q => q c) ?_
    unfold X9_remove_b38
    exact oM_pI hM (oM_gI hM (oM_itT (show (0 : Int32) < 1 by decide) (oM_pu (h1 _ c (threw1 hT)))))
  refine oM_itT c ?_
  have bad : (tp.length < 1 ∨ 16 < tp.length) → okM m g (X9_remove_b38 m (nI tp.length) 2 m) (upI S 16 0) (fun v S1 => okM m g (k v) S1 Q) := by
    intro q
    unfold X9_remove_b38
    exact oM_pI hM (oM_gI hM (oM_itT (show (0 : Int32) < 2 by decide) (oM_pu (h2 _ c q (threw1 hT)))))
  by_cases d1 : tp.length < 1
  · exact oM_itT (Int32.not_le.mp (nI_ge (a := tp.length) (b := 1) d1 (by decide))) (bad (Or.inl d1))
  refine oM_itF (fun q => absurd (nI_le (a := 1) (b := tp.length) (by omega) (by omega)) (Int32.not_le.mpr q)) ?_
  by_cases d2 : 16 < tp.length
  · exact oM_itF (nI_ge d2 (by omega)) (bad (Or.inr d2))
  have nb : ¬ (tp.length < 1 ∨ 16 < tp.length) := fun q => q.elim d1 d2
  refine oM_itT (nI_le (a := tp.length) (b := 16) (by omega) (by decide)) ?_
  unfold X9_remove_b38
  refine oM_pI hM (oM_gI hM (oM_itF (show ¬ (0 : Int32) < 0 by decide) ?_))
  obtain ⟨S1, hS1⟩ : ∃ S1, upI (upI S 16 0) 0 0 = S1 := ⟨_, rfl⟩
  have w1 := threw1 (c := 0) hT
  rw [hS1] at w1 ⊢
  obtain ⟨T1, z1, f1⟩ := w1
  have R1 : RepR S1 rs := repR_fr hR f1 (by decide) (fun q _ _ => List.not_mem_nil)
  have e9 : S1.2 9 = S.2 9 := f1.2 9 List.not_mem_nil
  have K1 : keyAt S1 9 0 tp := by
    refine ⟨?_, ?_, ?_⟩
    · rw [e9, hT.2.2.1]
      omega
    · rw [e9, hT.2.2.1]
      decide
    · rw [e9, List.drop_zero]
      exact hT.2.2.2.1
  refine oM_gR hM (oM_ck hM (m_placeOf (q := 9) hM R1 K1 rfl rfl (oM_gR hM (oM_ck hM (m_isAt (q := 9) hM R1 K1 rfl rfl (fun hn => oM_itF (by decide) (oM_pu (h0 S1 c nb hn ⟨T1, z1, f1⟩))) (fun r hr => oM_itT (by decide) ?_))))))
  unfold X9_bytesOf
  refine oM_bpu (oM_ck hM ?_)
  have hsz := rsz_m1 tp.length
  have hsz' : (14 + nI tp.length) + imx (-1) 0 = nI (14 + tp.length) := hsz
  rw [hsz']
  rw [hsz] at h3 h4
  have ef : fullM S1 (nI (14 + tp.length)) = fullM S (nI (14 + tp.length)) := by rw [← hS1]; rfl
  refine m_isFull hM ?_
  rw [ef]
  unfold X9_remove_b91
  cases hb : fullM S (nI (14 + tp.length)) with
  | true =>
    refine oM_itF (by decide) (oM_pI hM (oM_gI hM (oM_itF (show ¬ (3 : Int32) ≤ 0 by decide) (oM_pu (h3 _ r c nb hr hb ?_)))))
    rw [← hS1]
    exact threw2 hT
  | false =>
    obtain ⟨t1, t2, t3⟩ := ht c hb
    have hfd : plR tp rs < rs.length := lt_of_some (telR_some (a := 0) (b := 0) (c := 0) (d := 0) hr).2.1
    refine oM_itT rfl (oM_pI hM (oM_gI hM (oM_itT (show (0 : Int32) ≤ 0 by decide) (oM_ck hM ?_))))
    have w2 := threw2 (c := 0) (d := 0) hT
    rw [hS1] at w2
    exact m_wrote (sv := sv) (kn := tp.length) (vs := -1) (upI S1 0 0) hM hF hS hP hR hT hD (Nat.le_refl _) (by omega) hl hps t1 t2 (fun _ => by rw [List.take_length]; exact hfd) hsz t3 w2.2.2 w2.1 w2.2.1 (fun S' hw => oM_pu (h4 S' r c nb hr hb hw))
end
