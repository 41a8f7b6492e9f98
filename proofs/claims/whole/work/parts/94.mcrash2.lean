/-! the reference: crash, the call -/
section
variable {m : Nat} {g : Gh} {S : MS} {α : Type} {rs : List AR} {fs : List AF} {ps : List AV}
theorem m_crash {x : Int32} {U : Nat} {k : Int32 → M α} {Q : α → MS → Prop} (hM : Mk m g) (hF : RepF S fs) (hS : SrtF fs) (hP : RepP S ps) (hne : ∀ f, f ∈ fs → neF f = true) (hU : psum 0 ps = nI U) (hU16 : U ≤ 16384) (hL : ∀ left, left ≤ U → lossOK left ps.reverse fs) (h1 : S.1 23 = 0 → okM m g (k 0) (upI S 0 1) Q) (h2 : ¬ S.1 23 = 0 → (x < 0 ∨ nI U < x) → okM m g (k 0) (upI S 0 2) Q) (h3 : ∀ S', ¬ S.1 23 = 0 → ¬ (x < 0 ∨ nI U < x) → Crashed (upI S 0 0) S' ((losR (nI U - x).toNatClampNeg ps.reverse fs).filter neF) → okM m g (k (nI U - x)) S' Q) : okM m g (bd (X9_crash m x) k) S Q := by
  refine oM_bd ?_
  unfold X9_crash X9_crash_b24
  refine oM_gI hM ?_
  by_cases c : S.1 23 = 0
  · refine oM_itF (fun q => q c) ?_
    unfold X9_crash_b29
    exact oM_pI hM (oM_gI hM (oM_itF (show ¬ (1 : Int32) ≤ 0 by decide) (oM_pu (h1 c))))
  refine oM_itT c ?_
  have bad : (x < 0 ∨ nI U < x) → okM m g (X9_crash_b29 m x 2 m) S (fun v S1 => okM m g (k v) S1 Q) := by
    intro q
    unfold X9_crash_b29
    exact oM_pI hM (oM_gI hM (oM_itF (show ¬ (2 : Int32) ≤ 0 by decide) (oM_pu (h2 c q))))
  by_cases d1 : x < 0
  · exact oM_itT d1 (bad (Or.inl d1))
  refine oM_itF d1 (oM_ck hM (m_unsynced hM hP ?_))
  rw [hU]
  by_cases d2 : nI U < x
  · exact oM_itF (Int32.not_le.mpr d2) (bad (Or.inr d2))
  have nb : ¬ (x < 0 ∨ nI U < x) := fun q => q.elim d1 d2
  refine oM_itT (Int32.not_lt.mp d2) ?_
  unfold X9_crash_b29
  have f1 : mfr [0] [] S (upI S 0 0) := mfr_I (by decide)
  have P1 : RepP (upI S 0 0) ps := repP_fr hP f1 (by decide) (by decide) (by decide) (by decide)
  have F1 : RepF (upI S 0 0) fs := repF_fr hF f1 (by decide) (by decide) (by decide) (by decide) (by decide) (by decide)
  obtain ⟨n, en⟩ : ∃ n, x.toNatClampNeg = n := ⟨_, rfl⟩
  have ex : x = nI n := by rw [← en]; exact nI_cl d1
  have hn31 : n < 2 ^ 31 := by rw [← en]; exact clamp_lt x
  have hnU : n ≤ U := by
    rw [ex, Int32.lt_iff_toInt_lt, nI_toInt (by omega), nI_toInt hn31] at d2
    omega
  have es : nI U - x = nI (U - n) := by rw [ex]; exact nI_subN hnU
  have ecl : (nI (U - n)).toNatClampNeg = U - n := by
    show (nI (U - n)).toInt.toNat = _
    rw [nI_toInt (by omega)]
    rfl
  rw [es, ecl] at h3
  refine oM_pI hM (oM_gI hM (oM_itT (show (0 : Int32) ≤ 0 by decide) (oM_ck hM (m_unsynced hM P1 (oM_bpu (oM_gI hM (oM_bpu ?_)))))))
  rw [hU, es, P1.1.1]
  have hpl := hP.1.2
  have : FU = 1000000 := rfl
  have efl : fs.filter neF = fs := List.filter_eq_self.mpr hne
  refine m_crash_loop (ps := ps) (upI S 0 0) hM FU ps.length (U - n) (upI S 0 0) fs (by omega) (Nat.le_refl _) (by omega) P1 (by rw [efl]; exact F1) hS ?_ mfr_refl (fun S' hc => ?_)
  · rw [List.take_length]
    exact hL _ (by omega)
  · rw [List.take_length] at hc
    exact h3 S' c nb hc
end
