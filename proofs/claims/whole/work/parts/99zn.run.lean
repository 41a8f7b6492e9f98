/-! the law's run, from the empty heap to its end -/
theorem law_run {N L : Nat} {xs : Nat → Int32} (hN : 0 < N) (hL : L ≤ 3072) : ok (L_law xs L) (g0 N) (fun v g' => v = 1 ∧ ∃ m a3 V' S' ps' k z, k ≤ 512 ∧ WS N m a3 512 g' V' S' ps' ∧ Pth k (sBegin 4096 512 V00) V' z ∧ CE N g' ∧ qs g' ≤ rsum N g' + z + 6 * k + 134466 ∧ 16 * qn g' ≤ 16 * N + qs g' + 16 * ccnt N g' + 16 * k + 800) := by
  unfold L_law
  refine c_init hN (fun ga gb hga hcp hcv => ok_zz (fun hz => m_init (K := fun y2 _ => bd (na 23 1) (fun y3 => L_law_b23 xs L FU N y2 y3 0)) rfl (fun g hly => ?_)))
  have hle := hcp.1.1
  have hMk := m_mk (by omega) hly
  have hAt := m_at hly
  refine ok_reset hMk hAt (fun S' hf => ?_)
  obtain ⟨⟨l1, l2, _⟩, ⟨f1, f2, f3, f4, f5, f6, f7⟩, _⟩ := hly
  have en : qn (mset g (qn gb) S') = qn gb + 27 := l1
  refine ok_na (n := 1) (Or.inr (Or.inr rfl)) rfl (by decide) ?_
  rw [en]
  have ek : qk (wNA (mset g (qn gb) S') 23 1) = va_up (qk g) (qn gb + 27) 23 := by rw [← l1]; rfl
  have eA : qA (wNA (mset g (qn gb) S') 23 1) = va_up (qA (mset g (qn gb) S')) (qn gb + 27) [0] := by rw [← l1]; rfl
  have eW : qW (wNA (mset g (qn gb) S') 23 1) = va_up (qW g) (qn gb + 27) [0] := by rw [← l1]; rfl
  have hfar : Far gb (wNA (mset g (qn gb) S') 23 1) := by
    refine ⟨fun a ha => ?_, fun j a ha => ?_, f3, f4, f5, f6, f7⟩
    · rw [ek]
      exact (vu_ne (by omega)).trans (f1 a ha)
    · exact (if_neg (fun q => by omega)).trans (f2 j a ha)
  obtain ⟨c1, c2, c3, c4, c5⟩ := ci_far hz hcp.2.2 hfar
  have hws : WS N (qn gb) (qn gb + 27) 0 (wNA (mset g (qn gb) S') 23 1) (sBegin 4096 512 V00) S' [] := by
    refine ⟨⟨c1, ⟨hMk.1, ?_, fun q q1 q2 => ?_, hMk.2.2.2⟩, by omega, Nat.le_refl _, ?_, ?_⟩, ⟨fun j hj => if_pos ⟨rfl, hj⟩, fun a q1 q2 => ?_⟩, c2.trans hcv, rel_start hf⟩
    · rw [ek]
      exact (vu_ne (by omega)).trans hMk.2.1
    · rw [ek]
      exact (vu_ne (by omega)).trans (hMk.2.2.1 q q1 q2)
    · rw [ek]
      exact vu_eq
    · rw [eW, vu_eq]
      rfl
    · rw [eA, vu_ne (by omega)]
      exact if_pos ⟨q1, q2⟩
  refine ok_mono (law_loop hL 512 FU 0 _ _ _ _ (by decide) rfl hws) (fun v g' q => ?_)
  obtain ⟨q1, V', S2, ps', k, z, q2, q3, q4, q5⟩ := q
  refine ⟨q1, _, _, V', S2, ps', k, z, q2, q3, q4, ?_⟩
  have a1 := hcp.2.1.1
  unfold acc2 at a1
  obtain ⟨q5, q6⟩ := q5
  have q7 := q6 (c5 (hcp.2.1.2 hga.2.2.2.2))
  have es : qs (wNA (mset g (qn gb) S') 23 1) = qs g + 1 := rfl
  have en2 : qn (wNA (mset g (qn gb) S') 23 1) = qn gb + 28 := by
    show qn g + 1 = _
    omega
  rw [c3, c4, es, en2, l2] at q5
  refine ⟨q7, ?_⟩
  omega
