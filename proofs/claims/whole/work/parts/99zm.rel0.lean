/-! the start: the relation holds -/
theorem s0_len {q : Nat} : (S0.2 q).length = (TT.find? (fun p => p.1 == q)).elim 0 (fun p => p.2.2) := List.length_replicate
theorem s0_nrm {q : Nat} : nrm (S0.2 q) := fun v hv => by
  rw [List.eq_of_mem_replicate hv]
  rfl
theorem rel_start {S' : MS} (hf : Fresh S0 S' 4096 512) : Rel 0 (sBegin 4096 512 V00) S' [] := by
  obtain ⟨⟨g1, g2⟩, g3, g4, g5, g6⟩ := hf
  have eK : ∀ q, S'.2 q = S0.2 q := fun q => g6.2 q List.not_mem_nil
  have ln : ∀ q n, (TT.find? (fun p => p.1 == q)).elim 0 (fun p => p.2.2) = n → (S'.2 q).length = n := fun q n h => by
    rw [eK q, s0_len, h]
  have nr : ∀ q, nrm (S'.2 q) := fun q => by
    rw [eK q]
    exact s0_nrm
  have e16 : S'.1 16 = 0 := g6.1 16 (by decide)
  refine ⟨⟨⟨List.Pairwise.nil, fun f hf => absurd hf List.not_mem_nil, Nat.zero_le _, ?_, ?_, fun f f' hf => absurd hf List.not_mem_nil⟩, ⟨List.Pairwise.nil, fun r hr => absurd hr List.not_mem_nil, Nat.zero_le _, fun _ => rfl⟩, ⟨Or.inr rfl, ?_, ?_, Or.inl rfl, fun _ => ⟨rfl, rfl, rfl⟩, Nat.zero_le _, ?_⟩⟩, ⟨⟨⟨g1, g2, g4 24 (by decide), g4 25 (by decide), g5 26 (by decide), g4 23 (by decide)⟩, g3 19 (by decide), g3 20 (by decide), g3 21 (by decide), g3 22 (by decide)⟩, ⟨⟨ln 8 _ rfl, nr 8⟩, ⟨ln 17 _ rfl, ⟨ln 18 _ rfl, ln 19 _ rfl, ln 20 _ rfl⟩, nr 17⟩, ⟨ln 22 _ rfl, ⟨ln 23 _ rfl, ln 24 _ rfl, ln 25 _ rfl, ln 26 _ rfl⟩, nr 22⟩, ln 21 _ rfl⟩, ?_, ?_, ?_, ?_, ?_⟩, ⟨prel_nil (fun f hf => absurd hf List.not_mem_nil), fun _ => rfl⟩, Or.inl ⟨rfl, g3 34 (by decide), g5 35 (by decide), rfl, rfl, rfl, fun _ f hf => absurd hf List.not_mem_nil⟩⟩
  · show 128 ≤ (4096 : Int32).toInt ∧ (4096 : Int32).toInt ≤ 16384 ∧ 128 ≤ (512 : Int32).toInt ∧ (512 : Int32).toInt ≤ 4096
    decide
  · show ((0 : Nat) : Int) ≤ (4096 : Int32).toInt
    decide
  · show 1 ≤ (1 : Int32).toInt ∧ (1 : Int32).toInt ≤ 1 + 1300 * ((0 : Nat) : Int)
    decide
  · show 1 ≤ (1 : Int32).toInt ∧ (1 : Int32).toInt ≤ 1000000001
    decide
  · exact Nat.zero_le _
  · exact ⟨⟨g3 8 (by decide), g3 4 (by decide), Nat.zero_le _, Nat.zero_le _⟩, ⟨ln 1 _ rfl, ln 2 _ rfl, ln 3 _ rfl, ln 4 _ rfl⟩, rfl, rfl, rfl, rfl, nr 1⟩
  · exact ⟨⟨g3 12 (by decide), Nat.zero_le _⟩, ⟨ln 5 _ rfl, ln 6 _ rfl, ln 7 _ rfl⟩, rfl, rfl, rfl⟩
  · refine ⟨⟨g3 33 (by decide), (show 0 < 1200 by decide)⟩, ⟨ln 11 _ rfl, fun q h1 h2 => ?_, nr 11⟩, fun i r hr => (by cases hr)⟩
    refine ln q 1200 ?_
    have : ∀ q, q < 17 → 12 ≤ q → (TT.find? (fun p => p.1 == q)).elim 0 (fun p => p.2.2) = 1200 := by decide
    exact this q (by omega) h1
  · exact ⟨e16, Nat.zero_le _, ln 9 _ rfl, rfl, nr 9⟩
  · exact ⟨g3 18 (by decide), Nat.zero_le _, ln 10 _ rfl, rfl⟩
theorem ok_reset {m : Nat} {g : Gh} {S : MS} {Q : Unit → Gh → Prop} (hM : Mk m g) (hA : At m g S) (h : ∀ S', Fresh S S' 4096 512 → Q () (mset g m S')) : ok (X9_reset m 4096 512) g Q := by
  have h2 : okM m g (X9_reset m 4096 512) S (fun v S' => Q v (mset g m S')) := oM_tail (m_reset hM (fun S' hf => oM_pu (h S' hf)))
  unfold okM at h2
  rw [at_eq hA] at h2
  exact ok_mono h2 (fun v g' q => by
    obtain ⟨S', e, q⟩ := q
    rw [e]
    exact q)
