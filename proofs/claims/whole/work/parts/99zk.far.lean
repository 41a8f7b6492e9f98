/-! what comes later leaves the class as it is -/
def Far (g1 g : Gh) : Prop := (∀ a, a < qn g1 → qk g a = qk g1 a) ∧ (∀ j a, a < qn g1 → qi g j a = qi g1 j a) ∧ (∀ j a, a < qn g1 → qr g j a = qr g1 j a) ∧ qB g = qB g1 ∧ qC g = qC g1 ∧ qL g = qL g1 ∧ qE g = qE g1
section
variable {N : Nat} {g1 g : Gh}
theorem far_refl : Far g g := ⟨fun _ _ => rfl, fun _ _ _ => rfl, fun _ _ _ => rfl, rfl, rfl, rfl, rfl⟩
theorem ci_far (hz : ∀ a, qk g1 a ≠ 0 → a < qn g1) (h : CI N g1) (f : Far g1 g) : CI N g ∧ CV N g = CV N g1 ∧ rsum N g = rsum N g1 ∧ ccnt N g = ccnt N g1 ∧ (CE N g1 → CE N g) := by
  obtain ⟨f1, f2, f3, f4, f5, f6, f7⟩ := f
  have h0 := h
  obtain ⟨⟨hC, hD, hA, hR⟩, ⟨z1, z2, z3, z4⟩, l1, l2, l3⟩ := h
  have lt : ∀ a v, qk g1 a = v + 1 → a < qn g1 := fun a v q => hz a (by rw [q]; omega)
  have hlt : N + 21 < qn g1 := lt _ _ hC.2.1.2.2.2.2.2.2
  have kk : ∀ a, a ≤ N + 21 → qk g a = qk g1 a := fun a ha => f1 a (by omega)
  have rr : ∀ j a, a ≤ N + 21 → qr g j a = qr g1 j a := fun j a ha => f3 j a (by omega)
  have ii : ∀ j a, a ≤ N + 21 → qi g j a = qi g1 j a := fun j a ha => f2 j a (by omega)
  have eC : Cs N g := by
    obtain ⟨c0, c1, c2⟩ := hC
    refine ⟨c0, ?_, ?_⟩
    · unfold CsK at c1 ⊢
      rw [kk N (by omega), kk (N + 1) (by omega), kk (N + 3) (by omega), kk (N + 5) (by omega), kk (N + 7) (by omega), kk (N + 9) (by omega), kk (N + 10) (by omega), kk (N + 11) (by omega), kk (N + 12) (by omega), kk (N + 13) (by omega), kk (N + 14) (by omega), kk (N + 15) (by omega), kk (N + 16) (by omega), kk (N + 17) (by omega), kk (N + 19) (by omega), kk (N + 21) (by omega)]
      exact c1
    · unfold CsR at c2 ⊢
      rw [rr _ N (by omega), rr _ N (by omega), rr _ N (by omega), rr _ N (by omega), rr _ N (by omega), rr _ N (by omega), rr _ N (by omega), rr _ N (by omega), rr _ (N + 9) (by omega), rr _ (N + 9) (by omega), rr _ (N + 9) (by omega), rr _ (N + 13) (by omega), rr _ (N + 13) (by omega), rr _ (N + 16) (by omega), rr _ (N + 16) (by omega), rr _ (N + 16) (by omega), rr _ (N + 16) (by omega), rr _ (N + 21) (by omega), rr _ (N + 21) (by omega)]
      exact c2
  have dlt : ∀ d, d ∈ qL g1 (N + 10) ++ qL g1 (N + 11) → d < qn g1 := fun d hd => lt d 7 (hD.1 d hd).1
  have rlt : ∀ d, d ∈ qL g1 (N + 14) ++ qL g1 (N + 15) → d < qn g1 := fun d hd => lt d 10 (hR.1 d hd).1
  have eA : acn N g = acn N g1 := by
    unfold acn
    rw [ii _ _ (by omega)]
  refine ⟨⟨⟨eC, ⟨fun d hd => ?_, by rw [f6]; exact hD.2⟩, ?_, ⟨fun d hd => ?_, by rw [f6]; exact hR.2⟩⟩, ⟨by rw [kk _ (by omega)]; exact z1, by rw [kk _ (by omega)]; exact z2, by rw [kk _ (by omega)]; exact z3, by rw [kk _ (by omega)]; exact z4⟩, by rw [f6]; exact l1, by rw [f6]; exact l2, by rw [f6]; exact l3⟩, ?_, ?_, ?_, ?_⟩
  · rw [f6] at hd
    obtain ⟨q1, q2, q3, q4⟩ := hD.1 d hd
    unfold dOk
    rw [f1 d (dlt d hd), f3 _ d (dlt d hd), f1 (d + 1) (lt _ 4 q3)]
    exact ⟨q1, q2, q3, q4⟩
  · obtain ⟨a1, a2, a3, a4, a5⟩ := hA
    unfold AvI
    rw [eA, f6, ii _ _ (by omega)]
    refine ⟨a1, a2, fun v hv => ?_, a4, fun v hv => ?_⟩
    · rw [f1 v (lt v 3 (a3 v hv))]
      exact a3 v hv
    · rw [f3 _ v (lt v 3 (a3 v (List.mem_of_mem_take hv)))]
      exact a5 v hv
  · rw [f6] at hd
    obtain ⟨q1, q2, q3, q4, q5⟩ := hR.1 d hd
    unfold rOk
    rw [f1 d (rlt d hd), f3 _ d (rlt d hd), f1 (d + 1) (lt _ 4 q3), f5]
    exact ⟨q1, q2, q3, q4, q5⟩
  · have e1 : FV N g = FV N g1 := by
      unfold FV
      rw [f6]
      refine List.map_congr_left (fun d hd => ?_)
      have := dlt d (List.mem_append_left _ hd)
      unfold fvw
      rw [f2 _ d this, f2 _ d this, f2 _ d this, f4, f5]
    have e2 : SV N g = SV N g1 := by
      unfold SV
      rw [f6, f5]
    have e3 : RV N g = RV N g1 := by
      unfold RV
      rw [f6]
      refine List.map_congr_left (fun d hd => ?_)
      have := rlt d (List.mem_append_left _ hd)
      unfold rvw
      rw [f2 _ d this, f2 _ d this, f2 _ d this, f2 _ d this, f4]
    have e4 : AIV N g = AIV N g1 := by
      unfold AIV
      rw [f6, eA]
      refine List.map_congr_left (fun v hv => ?_)
      have h1 := lt v 3 (hA.2.2.1 v (List.mem_of_mem_take hv))
      have h2 := dlt _ (List.mem_append_left _ (hA.2.2.2.2 v hv))
      unfold avw
      rw [f3 _ v h1, f2 _ _ h2, f2 _ _ h2, f2 _ v h1]
    unfold CV vD vM vO vK vT DSC
    rw [e1, e2, e3, e4, f4]
    simp only [ii _ (N + 9) (by omega), ii _ (N + 16) (by omega), ii _ (N + 21) (by omega), ii _ N (by omega)]
  · unfold rsum
    rw [f5, f6, f7]
  · unfold ccnt
    rw [f6, f7]
  · unfold CE
    rw [f5, f6, f7]
    exact fun h => h
end
