/-! the claim -/
theorem room_end {N m a3 : Nat} {g : Gh} {V : VC} {S : MS} {ps : List AV} (h : WS N m a3 512 g V S ps) (hA : ∃ h, Abs h g) (hE : CE N g) : rsum N g ≤ 397096 ∧ ccnt N g ≤ 144000 := by
  obtain ⟨hp, w, A⟩ := hA
  have hCI := h.1.1
  obtain ⟨_, _, _, _, _, _, _, _, _, c17, _⟩ := A.2.2.2.1 (N + 17) (cs_hint (ci_C hCI))
  obtain ⟨_, _, _, _, _, _, _, _, _, c19, _⟩ := A.2.2.2.1 (N + 19) (cs_mark (ci_C hCI))
  obtain ⟨_, _, l1, l2, l3⟩ := hCI
  obtain ⟨⟨e1, e2, e3, e4⟩, e5, e6, e7, e8, e9⟩ := hE
  unfold rsum ccnt
  omega
theorem pure_goal : PureGoal := pure_of (R0 := 397096) (C0 := 144000) (Z0 := 6758400) (fun _ _ _ _ _ _ _ h hA hE => room_end h hA hE) (fun _ _ _ hk h => path_cost hk h) (by decide) (by decide)
theorem i_vc : Claimed_1_1 ∧ Claimed_1_2 := ivc_open pure_goal
