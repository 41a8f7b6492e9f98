/-! class and reference: the units that finish and remove -/
theorem mkL_eq (l : Int32) : ∀ fs : List AF, mkL l fs = (inpL l fs).flatMap be4
  | [] => rfl
  | f :: fs => by
    rw [inpL_cons, List.flatMap_append, ← mkL_eq l fs]
    show (if f.2.1 = 0 ∧ f.1 < l then be4 f.1 else []) ++ mkL l fs = _
    by_cases c : f.2.1 = 0 ∧ f.1 < l
    · rw [if_pos c, if_pos c, List.flatMap_cons, List.flatMap_nil, List.append_nil]
    · rw [if_neg c, if_neg c]
      rfl
theorem mkC_eq (W : VC) : mkC W = mrC (inpL W.2.2.1.2.1 W.1.1) := by
  unfold mkC mkB mrC mrB
  rw [fcnt_nat, Int32.zero_add, mkL_eq]
theorem mrC_len (is : List Int32) : (mrC is).length = 8 + 4 * is.length := by
  unfold mrC mrB
  rw [List.length_append, List.length_append, be4_len, be4_len, flat4_len]
  omega
section
variable {m : Nat} {g : Gh} {S : MS} {α : Type} {t : Nat} {V : VC} {ps : List AV} {C : Int}
/-- the mark is written: what is kept -/
theorem rel_fin {V' : VC} {S' : MS} {fs1 : List AF} {ar1 ps1 : List AV} {sv : List Nat} {R1 : Nat} (h : RelB t C V S ps) (ht : t ≤ 512) (hCb : C ≤ 1000000) (hnx : V.1.2.2.2.2.2.toInt + 1 ≤ C) (hM1 : M1 V S) (hrows : ∀ r, r ∈ V.2.1 → ¬ r.2.1 < V.2.2.1.2.1)
    (hdk : DK t V.1.2.2.2.2.2 V.1.2.2.2.1 fs1 ar1 ps1) (hfit : ∀ r, r ∈ V.2.1 → ∃ x P W, rowFit fs1 r x P W) (hinp : inpL V.2.2.1.2.1 fs1 = inpL V.2.2.1.2.1 V.1.1) (hdby : dby V.2.2.1.2.1 fs1 = dby V.2.2.1.2.1 V.1.1) (h15 : totF V.1.1 ≤ totF fs1) (hac : ∀ f, fndF V.2.2.2.2.1.2.1 0 fs1 = some f → 12 ≤ f.2.2.1.length)
    (hcap : ((totF fs1 + R1 : Nat) : Int) ≤ V.1.2.2.2.1.toInt) (hneed : (mrC (inpL V.2.2.1.2.1 V.1.1)).length ≤ R1)
    (e1 : V'.1.1 = ((appF V.1.2.2.2.2.2 2 (mrC (inpL V.2.2.1.2.1 V.1.1)) fs1 sv).1).map ph0) (e2 : V'.1.2.2 = ([], V.1.2.2.2.1, V.1.2.2.2.2.1, V.1.2.2.2.2.2 + 1)) (e3 : V'.2.1 = V.2.1) (e4 : ∃ hc hb, V'.2.2.1 = (1, V.2.2.1.2.1, -1, V.1.2.2.2.2.2, hc, 0, hb) ∧ hb.length ≤ 8900) (e5 : V'.2.2.2.1 = V.2.2.2.1) (e6 : V'.2.2.2.2.1 = V.2.2.2.2.1)
    (w1 : RepF S' (appF V.1.2.2.2.2.2 2 (mrC (inpL V.2.2.1.2.1 V.1.1)) fs1 sv).1) (w2 : RepP S' []) (w3 : S'.1 35 = -1) (w4 : S'.1 47 = V.1.2.2.2.2.2) (w5 : S'.1 24 = V.1.2.2.2.2.2 + 1) (w6 : S'.1 34 = 2) (w7 : drOk S') (hf : mfr [4, 8, 12, 14, 24, 34, 35, 37, 47] [1, 2, 3, 4, 5, 6, 7, 8] S S') : RelB t C V' S' [] := by
  obtain ⟨⟨⟨f1, f2, f3, f4, f5, f6⟩, hW, hC⟩, ⟨hRS, hArr, r1, r2, r3, r4, r5⟩, ⟨hP, hP0⟩, hMm⟩ := h
  obtain ⟨c1, c2, c3, c4, c5, c6, c7⟩ := hC
  obtain ⟨a1, a2, a3, a4, ⟨l1, l2, l3⟩, a6, _, _, _, _, _, ⟨b5, b6, b7⟩, _⟩ := hM1
  obtain ⟨hc, hb, e4, e4b⟩ := e4
  have hop : V.2.2.2.2.1.1 = 1 := c1.resolve_left (fun q => by
    have := (c5 q).1
    rw [a1] at this
    exact absurd this (by decide))
  have e1n : (V.1.2.2.2.2.2 + 1).toInt = V.1.2.2.2.2.2.toInt + 1 := i_p1 (by omega)
  have lm := mrC_len (inpL V.2.2.1.2.1 V.1.1)
  have hi1 : 1 ≤ (inpL V.2.2.1.2.1 V.1.1).length := by
    cases hq : inpL V.2.2.1.2.1 V.1.1 with
    | nil => exact absurd hq b7
    | cons x l =>
      rw [List.length_cons]
      omega
  have hs1 := hdk.1
  have hnone : fndF V.1.2.2.2.2.2 2 fs1 = none := by
    cases hz : fndF V.1.2.2.2.2.2 2 fs1 with
    | none => rfl
    | some f =>
      obtain ⟨z1, z2, _⟩ := fnd_mem hz
      have := (hdk.2.1 f z1).2.1.2
      rw [z2] at this
      omega
  obtain ⟨x, x1, x2, x3, x4, x5⟩ := app_has (a := V.1.2.2.2.2.2) (b := 2) (part := mrC (inpL V.2.2.1.2.1 V.1.1)) (sv := sv) hs1
  have mem : ∀ f, f ∈ (appF V.1.2.2.2.2.2 2 (mrC (inpL V.2.2.1.2.1 V.1.1)) fs1 sv).1 → (f ∈ fs1) ∨ (f.1 = V.1.2.2.2.2.2 ∧ f.2.1 = 2 ∧ 1 ≤ f.2.2.1.length) := by
    intro f hf
    rcases app_mem hs1 hf with ⟨q1, _⟩ | ⟨y, q1, q2⟩ | ⟨q1, c, q2⟩
    · exact Or.inl q1
    · rw [hnone] at q1
      cases q1
    · rw [q2]
      refine Or.inr ⟨rfl, rfl, ?_⟩
      show 1 ≤ ([] ++ mrC (inpL V.2.2.1.2.1 V.1.1)).length
      rw [List.nil_append]
      omega
  have hsc : scnt (appF V.1.2.2.2.2.2 2 (mrC (inpL V.2.2.1.2.1 V.1.1)) fs1 sv).1 ≤ t := Nat.le_trans (scnt_app (by omega)) hdk.2.2.1
  have hln := scnt_len (appF V.1.2.2.2.2.2 2 (mrC (inpL V.2.2.1.2.1 V.1.1)) fs1 sv).1
  have mk1 : ∀ f, f ∈ fs1 → ¬ f.2.1 = 2 := by
    intro f hf q
    rcases (hdk.2.1 f hf).1 with z | z
    · rw [z] at q
      exact absurd q (by decide)
    · rw [z] at q
      exact absurd q (by decide)
  have eI : inpL V.2.2.1.2.1 (((appF V.1.2.2.2.2.2 2 (mrC (inpL V.2.2.1.2.1 V.1.1)) fs1 sv).1).map ph0) = inpL V.2.2.1.2.1 V.1.1 := by
    rw [ph_inp, inpL_app (Or.inl (by decide))]
    exact hinp
  have eK : ∀ q, 17 ≤ q → S'.2 q = S.2 q := fun q hq => hf.2 q (by simp only [List.mem_cons, List.not_mem_nil, or_false]; omega)
  refine ⟨⟨⟨?_, ?_, ?_, ?_, ?_, ?_⟩, ⟨?_, ?_, ?_, ?_⟩, ?_, ?_, ?_, ?_, ?_, ?_, ?_⟩, ⟨?_, ?_, ?_, w2, ?_, ?_, ?_⟩, ⟨?_, fun _ => rfl⟩, Or.inr (Or.inr ?_)⟩
  · rw [e1]
    exact ph_srt x3
  · intro f hf2
    rw [e1] at hf2
    rw [e2]
    obtain ⟨y, y1, y2, y3, y4, _⟩ := ph_mem hf2
    rw [y2, y3, y4]
    show _ ∧ (1 ≤ y.1.toInt ∧ y.1.toInt < (V.1.2.2.2.2.2 + 1).toInt) ∧ _
    rcases mem y y1 with z | z
    · obtain ⟨g1, g2, g3⟩ := hdk.2.1 y z
      exact ⟨g1.elim Or.inl (fun w => Or.inr (Or.inl w)), ⟨g2.1, by omega⟩, g3⟩
    · refine ⟨Or.inr (Or.inr z.2.1), ?_, z.2.2⟩
      rw [z.1]
      omega
  · rw [e1, List.length_map]
    have := f4.2.1
    omega
  · rw [e2]
    exact f4
  · rw [e1, e2, ph_tot, x5]
    show ((totF fs1 + (mrC (inpL V.2.2.1.2.1 V.1.1)).length : Nat) : Int) ≤ V.1.2.2.2.1.toInt
    omega
  · intro f f' h1 h2 k1 k2
    rw [e1] at h1 h2
    obtain ⟨y, y1, y2, y3, _⟩ := ph_mem h1
    obtain ⟨z, z1, z2, z3, _⟩ := ph_mem h2
    rw [y2, z2]
    rw [y3] at k1
    rw [z3] at k2
    rcases mem y y1 with w | w
    · exact absurd k1 (mk1 y w)
    · rcases mem z z1 with v | v
      · exact absurd k2 (mk1 z v)
      · rw [w.1, v.1]
  · rw [e3]
    exact hW.1
  · intro r hr
    rw [e3] at hr
    rw [e1]
    obtain ⟨x, P, W, q⟩ := hfit r hr
    obtain ⟨x', q', _⟩ := fit_app (a := V.1.2.2.2.2.2) (b := 2) (part := mrC (inpL V.2.2.1.2.1 V.1.1)) (sv := sv) hs1 q
    exact ⟨(hW.2.1 r hr).1, ph0 x', P, W, ph_fit q'⟩
  · rw [e3, e1, ph_tot, x5]
    have := hW.2.2.1
    omega
  · intro q
    rw [e6, hop] at q
    exact absurd q (by decide)
  · rw [e6]
    exact c1
  · rw [e2]
    show 1 ≤ (V.1.2.2.2.2.2 + 1).toInt ∧ (V.1.2.2.2.2.2 + 1).toInt ≤ C
    omega
  · rw [e6]
    exact c3
  · rw [e6, e2, e1]
    rcases c4 with z | z
    · exact Or.inl z
    · refine Or.inr ⟨⟨z.1.1, ?_⟩, fun f hf2 => ?_⟩
      · show V.2.2.2.2.1.2.1.toInt < (V.1.2.2.2.2.2 + 1).toInt
        omega
      · rw [ph_fnd, fnd_app_ne hs1 (fun w => absurd w.2 (by decide))] at hf2
        cases hx : fndF V.2.2.2.2.1.2.1 0 fs1 with
        | none =>
          rw [hx] at hf2
          cases hf2
        | some y =>
          rw [hx] at hf2
          cases hf2
          exact hac y hx
  · intro q
    rw [e6, hop] at q
    exact absurd q (by decide)
  · rw [e1, ph_scnt]
    exact hsc
  · rw [e4]
    exact e4b
  · obtain ⟨⟨s1, s2, s3, s4, s5, s6⟩, s7, s8, s9, s10⟩ := hRS
    unfold RelS
    rw [e2, e5, e6]
    refine ⟨⟨?_, ?_, w5, ?_, ?_, ?_⟩, ?_, ?_, ?_, ?_⟩
    · rw [hf.1 1 (by decide)]
      exact s1
    · rw [hf.1 2 (by decide)]
      exact s2
    · rw [hf.1 25 (by decide)]
      exact s4
    · rw [hf.1 26 (by decide)]
      exact s5
    · rw [hf.1 23 (by decide)]
      exact s6
    · rw [hf.1 19 (by decide)]
      exact s7
    · rw [hf.1 20 (by decide)]
      exact s8
    · rw [hf.1 21 (by decide)]
      exact s9
    · rw [hf.1 22 (by decide)]
      exact s10
  · refine ⟨w7, ?_, ?_, ?_⟩
    · unfold lLen
      rw [eK 17 (by decide), eK 18 (by decide), eK 19 (by decide), eK 20 (by decide)]
      exact hArr.2.1
    · unfold oLen
      rw [eK 22 (by decide), eK 23 (by decide), eK 24 (by decide), eK 25 (by decide), eK 26 (by decide)]
      exact hArr.2.2.1
    · rw [eK 21 (by decide)]
      exact hArr.2.2.2
  · rw [e1]
    exact repF_congr w1 (ph_pro _)
  · rw [e3]
    exact repR_fr r3 hf (by decide) (fun q u1 u2 => by simp only [List.mem_cons, List.not_mem_nil, or_false]; omega)
  · rw [e6]
    exact repT_fr r4 hf (by decide) (by decide)
  · rw [e6]
    exact repA_fr r5 hf (by decide) (by decide)
  · rw [e1, e2]
    refine prel_nil (fun f hf2 => ?_)
    obtain ⟨_, _, _, _, _, z⟩ := ph_mem hf2
    exact z
  · unfold M2 liOk
    rw [e4, e1, e2, e3, e6, eI]
    refine ⟨rfl, fun q => ?_, w6, w3, rfl, w4, ⟨⟨l1.1, ?_⟩, l2, ?_⟩, ⟨l1.2, ?_⟩, fun f hf2 k2 => ?_, rfl, hrows, fun p hp => absurd hp List.not_mem_nil, inpL V.2.2.1.2.1 V.1.1, 0, repI_fr b5 hf (by decide) (by decide), ?_, Nat.zero_le _, rfl⟩
    · have q : V.1.2.2.2.2.2 = -1 := q
      rw [q] at c2
      exact absurd c2.1 (by decide)
    · show V.2.2.1.2.1.toInt ≤ (V.1.2.2.2.2.2 + 1).toInt
      omega
    · rw [ph_dby, dby_app, if_neg (fun w => absurd w.1 (by decide)), Nat.add_zero, hdby]
      exact l3
    · show V.1.2.2.2.2.2.toInt < (V.1.2.2.2.2.2 + 1).toInt
      omega
    · obtain ⟨y, y1, y2, y3, _⟩ := ph_mem hf2
      rw [y3] at k2
      rcases mem y y1 with w | w
      · exact absurd k2 (mk1 y w)
      · rw [y2, w.1]
    · rw [hf.1 46 (by decide)]
      exact b6
end
