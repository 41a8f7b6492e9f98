/-! the goal, out of three bounds -/
theorem pure_of {R0 C0 Z0 : Nat} (hr : ∀ N m a3 g V S ps, WS N m a3 512 g V S ps → (∃ h, Abs h g) → CE N g → rsum N g ≤ R0 ∧ ccnt N g ≤ C0) (hz : ∀ k V' z, k ≤ 512 → Pth k (sBegin 4096 512 V00) V' z → z ≤ Z0) (h1 : R0 + Z0 + 137538 ≤ 7293034) (h2 : R0 + Z0 + 16 * C0 + 146530 ≤ 9616384) : PureGoal := by
  intro xs L n eA hL he
  obtain ⟨v, h', g', e1, e2, e3, m, a3, V', S', ps', k, z, q1, q2, q3, qce, q4, q5⟩ := law_run (xs := xs) (show 0 < n by omega) hL (h00 n eA) (abs_g0 he)
  obtain ⟨b1, b2⟩ := hr _ _ _ _ _ _ _ q2 ⟨h', e2⟩ qce
  have b3 := hz k V' z q1 q3
  obtain ⟨w, ⟨⟨a1, a2, _⟩, _⟩⟩ := e2
  refine ⟨h', by rw [e1, e3], ?_, ?_⟩
  · rw [a1]
    omega
  · rw [a2]
    omega
