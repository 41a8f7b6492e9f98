/-! class and reference: puts and removes -/
section
variable {m : Nat} {g : Gh} {S : MS} {α : Type} {t : Nat} {V : VC} {ps : List AV}
theorem rel_res (h : Rel t V S ps) : ∃ R : Nat, V.2.2.1.2.2.2.2.2.1 = nI R ∧ ((totF V.1.1 + R : Nat) : Int) ≤ V.1.2.2.2.1.toInt ∧ (M1 V S → ∃ ms nl os, (RepL S ms ∧ S.1 43 = nI nl ∧ nl ≤ ms.length ∧ LV V.2.2.1.2.1 V.2.1 ms nl) ∧ (RepI S (inpL V.2.2.1.2.1 V.1.1) ∧ S.1 46 = 0 ∧ inpL V.2.2.1.2.1 V.1.1 ≠ []) ∧ (V.2.2.1.2.2.1 ≠ -1 → outOk V S os) ∧ S.1 36 - S.1 37 = nI R ∧ need1 V ms os nl (inpL V.2.2.1.2.1 V.1.1) ≤ R) := by
  have hc := h.1.1.2.2.2.2.1
  rcases h.2.2.2 with d | d | d
  · exact ⟨0, d.2.2.2.2.2.1, by rw [Nat.add_zero]; exact hc, fun q => absurd d.1 (by rw [q.1]; decide)⟩
  · obtain ⟨a1, a2, a3, a4, a5, a6, ms, nl, os, R, b1, b5, b7, b8, b9, b10, b11⟩ := d
    exact ⟨R, b8, b10, fun _ => ⟨ms, nl, os, b1, b5, b7, b9, b11⟩⟩
  · exact ⟨0, d.2.2.2.2.2.2.2.2.2.1, by rw [Nat.add_zero]; exact hc, fun q => absurd q.2.1 d.2.1⟩
theorem full_no {n : Nat} {R : Nat} (h : Rel t V S ps) (hR : V.2.2.1.2.2.2.2.2.1 = nI R) (hc : ((totF V.1.1 + R : Nat) : Int) ≤ V.1.2.2.2.1.toInt) (hn : n ≤ 200) (hf : fullM S (nI n) = false) : ((totF V.1.1 + R + n : Nat) : Int) ≤ V.1.2.2.2.1.toInt ∧ V.2.2.2.2.1.2.2.1.toInt ≤ 1000000000 := by
  have hf := of_decide_eq_false hf
  rw [res_eq h, hR, h.2.1.1.1.1, h.2.1.2.2.1.1.2.1, h.2.1.1.1.2.2.2.1] at hf
  have c1 := h.1.1.2.2.2.1
  have e1 : (V.1.2.2.2.1 - nI (totF V.1.1)).toInt = V.1.2.2.2.1.toInt - totF V.1.1 := by
    rw [Int32.toInt_sub, nI_toInt (by omega), Int.bmod_eq_of_le (by omega) (by omega)]
  have e2 : (V.1.2.2.2.1 - nI (totF V.1.1) - nI R).toInt = V.1.2.2.2.1.toInt - totF V.1.1 - R := by
    rw [Int32.toInt_sub, e1, nI_toInt (by omega), Int.bmod_eq_of_le (by omega) (by omega)]
  have n1 : ¬ V.1.2.2.2.1 - nI (totF V.1.1) - nI R < nI n := fun q => hf (Or.inl q)
  have n2 : ¬ 1000000000 < V.2.2.2.2.1.2.2.1 := fun q => hf (Or.inr q)
  rw [Int32.lt_iff_toInt_lt, e2, nI_toInt (by omega)] at n1
  rw [Int32.lt_iff_toInt_lt, liG] at n2
  omega
theorem full_eq (h : Rel t V S ps) (s : Int32) (tp : List Int32) (tk : List Int32) : fullV (sB1 tp (sB3 tk V)) s = fullM S s := by
  have e : fullV (sB1 tp (sB3 tk V)) s = decide (froom V.1.2.2.2.1 V.1.1 - V.2.2.1.2.2.2.2.2.1 < s ∨ 1000000000 < V.2.2.2.2.1.2.2.1) := rfl
  rw [e]
  unfold fullM
  rw [res_eq h, h.2.1.1.1.1, h.2.1.2.2.1.1.2.1, h.2.1.1.1.2.2.2.1, froom_nat]
theorem i_p1 {z : Int32} (h : z.toInt ≤ 1000000001 ∧ -5 ≤ z.toInt) : (z + 1).toInt = z.toInt + 1 := by
  rw [Int32.toInt_add, li1, Int.bmod_eq_of_le (by omega) (by omega)]
theorem nlt_of {a b : Int32} (h : b.toInt ≤ a.toInt) : ¬ a < b := by
  rw [Int32.lt_iff_toInt_lt]
  omega
/-- a record is written to the file a: what is kept -/
theorem rel_wrote {V' : VC} {S' : MS} {a nx' : Int32} {part : List Int32} {sv : List Nat} {rs' : List AR} {R : Nat} (h : Rel t V S ps) (ht : t ≤ 512) (hop : V.2.2.2.2.1.1 = 1) (hR : V.2.2.1.2.2.2.2.2.1 = nI R) (hcap : ((totF V.1.1 + R + part.length : Nat) : Int) ≤ V.1.2.2.2.1.toInt) (hst : V.2.2.2.2.1.2.2.1.toInt ≤ 1000000000) (hp : 15 ≤ part.length ∧ part.length ≤ 94)
    (ha : (a = V.1.2.2.2.2.2 ∧ nx' = V.1.2.2.2.2.2 + 1) ∨ (a = V.2.2.2.2.1.2.1 ∧ V.2.2.2.2.1.2.1 ≠ -1 ∧ nx' = V.1.2.2.2.2.2))
    (e1 : V'.1.1 = (appF a 0 part V.1.1 sv).1) (e2 : V'.1.2.2 = (noteA a 0 (nI part.length) V.1.2.2.1, V.1.2.2.2.1, V.1.2.2.2.2.1, nx')) (e3 : V'.2.1 = rs') (e4 : V'.2.2.1 = V.2.2.1) (e5 : V'.2.2.2.1 = V.2.2.2.1) (e6 : V'.2.2.2.2.1 = (V.2.2.2.2.1.1, a, V.2.2.2.2.1.2.2.1 + 1, [], V.2.2.2.2.1.2.2.2.2))
    (hcn : ∀ l, cnw l rs' ≤ cnw l V.2.1 + 1) (hrs : SrtR rs' ∧ rs'.length ≤ V.2.1.length + 1 ∧ ∀ r, r ∈ rs' → r ∈ V.2.1 ∨ (r.2.1 = a ∧ (1 ≤ r.1.length ∧ r.1.length ≤ 16) ∧ r.2.2.1 = nI (szF a 0 V.1.1) ∧ ∃ W, r.2.2.2.1 = nI W ∧ W ≤ 64 ∧ 14 + r.1.length + W = part.length))
    (w1 : RepF S' V'.1.1) (w2 : RepP S' (ps ++ [(a, 0, nI part.length)])) (w3 : RepR S' rs') (w4 : S'.1 25 = V.2.2.2.2.1.2.2.1 + 1 ∧ S'.1 26 = a ∧ S'.1 24 = nx') (w5 : drOk S') (w6 : RepT S' []) (hf : mfr [0, 4, 8, 12, 14, 16, 24, 25, 26, 33] [1, 2, 3, 4, 5, 6, 7, 8, 11, 12, 13, 14, 15, 16] S S') : Rel (t + 1) V' S' (ps ++ [(a, 0, nI part.length)]) := by
  obtain ⟨⟨hF, hW, hC⟩, ⟨hRS, hArr, r1, r2, r3, r4, r5⟩, ⟨hP, _⟩, hM⟩ := h
  obtain ⟨f1, f2, f3, f4, f5, f6⟩ := hF
  obtain ⟨c1, c2, c3, c4, c5, c6, c7⟩ := hC
  have hnx : V.1.2.2.2.2.2.toInt ≤ 800000 := by omega
  have hnx1 : (V.1.2.2.2.2.2 + 1).toInt = V.1.2.2.2.2.2.toInt + 1 := i_p1 (by omega)
  have hnx' : V.1.2.2.2.2.2.toInt ≤ nx'.toInt ∧ nx'.toInt ≤ V.1.2.2.2.2.2.toInt + 1 := by
    rcases ha with ⟨_, q⟩ | ⟨_, _, q⟩ <;> rw [q]
    · omega
    · omega
  have ha1 : 1 ≤ a.toInt ∧ a.toInt < nx'.toInt := by
    rcases ha with ⟨q1, q2⟩ | ⟨q1, q2, q3⟩
    · rw [q1, q2]
      omega
    · rw [q1, q3]
      exact (c4.resolve_left q2).1
  obtain ⟨x, x1, x2, x3, x4, x5⟩ := app_has (a := a) (b := 0) (part := part) (sv := sv) f1
  have s1 := hst
  have hst1 : (V.2.2.2.2.1.2.2.1 + 1).toInt = V.2.2.2.2.1.2.2.1.toInt + 1 := i_p1 (by omega)
  have mem : ∀ f, f ∈ (appF a 0 part V.1.1 sv).1 → (f ∈ V.1.1) ∨ (f.1 = a ∧ f.2.1 = 0 ∧ 15 ≤ f.2.2.1.length) := by
    intro f hf
    rcases app_mem f1 hf with ⟨q1, _⟩ | ⟨y, q1, q2⟩ | ⟨q1, c, q2⟩
    · exact Or.inl q1
    · obtain ⟨_, y2, y3⟩ := fnd_mem q1
      rw [q2]
      refine Or.inr ⟨y2, y3, ?_⟩
      show 15 ≤ (y.2.2.1 ++ part).length
      rw [List.length_append]
      omega
    · rw [q2]
      refine Or.inr ⟨rfl, rfl, ?_⟩
      show 15 ≤ ([] ++ part).length
      rw [List.nil_append]
      omega
  have sc : scnt (appF a 0 part V.1.1 sv).1 ≤ scnt V.1.1 := scnt_app (by omega)
  have tot := scnt_len (appF a 0 part V.1.1 sv).1
  have hbase : ∀ f, fndF a 0 V.1.1 = some f → 12 ≤ f.2.2.1.length := by
    intro f hf
    rcases ha with ⟨q1, q2⟩ | ⟨q1, q2, q3⟩
    · obtain ⟨z1, z2, _⟩ := fnd_mem hf
      have := (f2 f z1).2.1.2
      rw [z2, q1] at this
      omega
    · rw [q1] at hf
      exact (c4.resolve_left q2).2 f hf
  have li : ∀ l : Int32, l.toInt ≤ V.1.2.2.2.2.2.toInt → (V.2.2.2.2.1.2.1 = -1 ∨ l.toInt ≤ V.2.2.2.2.1.2.1.toInt) → l.toInt ≤ a.toInt := by
    intro l h1 h2
    rcases ha with ⟨q1, q2⟩ | ⟨q1, q2, q3⟩
    · rw [q1]
      exact h1
    · rw [q1]
      exact h2.resolve_left q2
  have liok : liOk V → liOk V' ∧ ¬ a < V.2.2.1.2.1 := by
    rintro ⟨⟨l1, l2⟩, l3, l4⟩
    have hl := li _ l2 l3
    have hna : ¬ a < V.2.2.1.2.1 := nlt_of hl
    refine ⟨?_, hna⟩
    unfold liOk
    rw [e4, e2, e6, e3, e1]
    refine ⟨⟨l1, ?_⟩, Or.inr hl, ?_⟩
    · show V.2.2.1.2.1.toInt ≤ nx'.toInt
      omega
    · rw [dby_app, if_pos ⟨rfl, hna⟩]
      have := hcn V.2.2.1.2.1
      omega
  have hnew : ∀ r, r ∈ rs' → ¬ r.2.1 < V.2.2.1.2.1 ∨ r ∈ V.2.1 ∨ a < V.2.2.1.2.1 := by
    intro r hr
    rcases hrs.2.2 r hr with q | q
    · exact Or.inr (Or.inl q)
    · by_cases c : a < V.2.2.1.2.1
      · exact Or.inr (Or.inr c)
      · rw [q.1]
        exact Or.inl c
  have fJ : ∀ j, 34 ≤ j → j ∉ [0, 4, 8, 12, 14, 16, 24, 25, 26, 33] := fun j hj => by simp only [List.mem_cons, List.not_mem_nil, or_false]; omega
  have fK : ∀ q, 17 ≤ q → q ∉ [1, 2, 3, 4, 5, 6, 7, 8, 11, 12, 13, 14, 15, 16] := fun j hj => by simp only [List.mem_cons, List.not_mem_nil, or_false]; omega
  have eJ : ∀ j, 34 ≤ j → S'.1 j = S.1 j := fun j hj => hf.1 j (fJ j hj)
  have eK : ∀ q, 17 ≤ q → S'.2 q = S.2 q := fun q hq => hf.2 q (fK q hq)
  refine ⟨⟨⟨?_, ?_, ?_, ?_, ?_, ?_⟩, ⟨?_, ?_, ?_, ?_⟩, ?_, ?_, ?_, ?_, ?_, ?_, ?_⟩, ⟨?_, ?_, w1, w2, ?_, ?_, ?_⟩, ⟨?_, ?_⟩, ?_⟩
  · rw [e1]
    exact x3
  · intro f hf
    rw [e1] at hf
    rw [e2]
    rcases mem f hf with q | q
    · obtain ⟨g1, g2, g3⟩ := f2 f q
      refine ⟨g1, ⟨g2.1, ?_⟩, g3⟩
      show f.1.toInt < nx'.toInt
      omega
    · refine ⟨Or.inl q.2.1, ?_, by omega⟩
      rw [q.1]
      exact ha1
  · rw [e1]
    have := x5
    omega
  · rw [e2]
    exact f4
  · rw [e1, e2, x5]
    show ((totF V.1.1 + part.length : Nat) : Int) ≤ V.1.2.2.2.1.toInt
    omega
  · intro f f' hf1 hf2 k1 k2
    rw [e1] at hf1 hf2
    rcases mem f hf1 with q | q
    · rcases mem f' hf2 with q' | q'
      · exact f6 f f' q q' k1 k2
      · rw [q'.2.1] at k2
        exact absurd k2 (by decide)
    · rw [q.2.1] at k1
      exact absurd k1 (by decide)
  · rw [e3]
    exact hrs.1
  · intro r hr
    rw [e3] at hr
    rw [e1]
    rcases hrs.2.2 r hr with q | ⟨q1, q2, q3, W, q4, q5, q6⟩
    · obtain ⟨g1, y, P, W, g2⟩ := hW.2.1 r q
      obtain ⟨y', g3, _⟩ := fit_app (a := a) (b := 0) (part := part) (sv := sv) f1 g2
      exact ⟨g1, y', P, W, g3⟩
    · obtain ⟨y, y1, y2, _⟩ := fnd_app_eq (a := a) (b := 0) (part := part) (sv := sv) f1
      refine ⟨q2.1, y, szF a 0 V.1.1, W, ?_, q3, q4, q5, q2.2, by omega⟩
      rw [q1]
      exact y1
  · rw [e3, e1, x5]
    have := hrs.2.1
    have := hW.2.2.1
    omega
  · intro q
    rw [e6] at q
    have q : V.2.2.2.2.1.1 = 0 := q
    rw [hop] at q
    exact absurd q (by decide)
  · rw [e6]
    exact c1
  · rw [e2]
    show 1 ≤ nx'.toInt ∧ nx'.toInt ≤ 1 + 1300 * ((t + 1 : Nat) : Int)
    omega
  · rw [e6]
    show 1 ≤ (V.2.2.2.2.1.2.2.1 + 1).toInt ∧ (V.2.2.2.2.1.2.2.1 + 1).toInt ≤ 1000000001
    omega
  · rw [e6, e2, e1]
    refine Or.inr ⟨ha1, fun f hf => ?_⟩
    obtain ⟨y, y1, y2, _⟩ := fnd_app_eq (a := a) (b := 0) (part := part) (sv := sv) f1
    have hf : fndF a 0 (appF a 0 part V.1.1 sv).1 = some f := hf
    rw [y1] at hf
    cases hf
    omega
  · intro q
    rw [e6] at q
    have q : V.2.2.2.2.1.1 = 0 := q
    rw [hop] at q
    exact absurd q (by decide)
  · rw [e1]
    omega
  · rw [e4]
    exact c7
  · obtain ⟨⟨s1, s2, s3, s4, s5, s6⟩, s7, s8, s9, s10⟩ := hRS
    unfold RelS
    rw [e2, e5, e6]
    refine ⟨⟨?_, ?_, w4.2.2, w4.1, w4.2.1, ?_⟩, ?_, ?_, ?_, ?_⟩
    · rw [hf.1 1 (by decide)]
      exact s1
    · rw [hf.1 2 (by decide)]
      exact s2
    · rw [hf.1 23 (by decide)]
      exact s6
    · rw [hf.1 19 (by decide)]
      exact s7
    · rw [hf.1 20 (by decide)]
      exact s8
    · rw [hf.1 21 (by decide)]
      exact s9
    · rw [hf.1 22 (by decide)]
      exact s10
  · refine ⟨w5, ?_, ?_, ?_⟩
    · unfold lLen
      rw [eK 17 (by decide), eK 18 (by decide), eK 19 (by decide), eK 20 (by decide)]
      exact hArr.2.1
    · unfold oLen
      rw [eK 22 (by decide), eK 23 (by decide), eK 24 (by decide), eK 25 (by decide), eK 26 (by decide)]
      exact hArr.2.2.1
    · rw [eK 21 (by decide)]
      exact hArr.2.2.2
  · rw [e3]
    exact w3
  · rw [e6]
    exact w6
  · rw [e6]
    exact repA_fr r5 hf (by decide) (by decide)
  · rw [e1, e2]
    exact prel_app f1 hP (by omega) (by omega) hbase
  · intro q
    rw [e6] at q
    have q : V.2.2.2.2.1.1 = 0 := q
    rw [hop] at q
    exact absurd q (by decide)
  · rcases hM with d | d | d
    · refine Or.inl ?_
      unfold M0
      rw [e4, e6, e1, eJ 34 (by decide), eJ 35 (by decide)]
      refine ⟨d.1, d.2.1, d.2.2.1, d.2.2.2.1, d.2.2.2.2.1, d.2.2.2.2.2.1, fun q f hf k2 => ?_⟩
      rcases mem f hf with z | z
      · exact d.2.2.2.2.2.2 q f z k2
      · rw [z.2.1] at k2
        exact absurd k2 (by decide)
    · refine Or.inr (Or.inl ?_)
      obtain ⟨a1, a2, a3, a4, a5, a6, ms, nl, os, R', ⟨b1, b2, b3, b4⟩, ⟨b5, b6⟩, b7, b8, b9, b10, b11⟩ := d
      obtain ⟨l1, l2⟩ := liok a5
      have eI : inpL V.2.2.1.2.1 (appF a 0 part V.1.1 sv).1 = inpL V.2.2.1.2.1 V.1.1 := inpL_app (Or.inr l2)
      have eR : R' = R := by
        have h1 := congrArg Int32.toInt (b8.symm.trans hR)
        rw [nI_toInt (by omega), nI_toInt (by omega)] at h1
        omega
      have hold : ∀ r, r ∈ rs' → r.2.1 < V.2.2.1.2.1 → r ∈ V.2.1 := by
        intro r hr q
        rcases hnew r hr with z | z | z
        · exact absurd q z
        · exact z
        · exact absurd z l2
      have hLV : LV V.2.2.1.2.1 rs' ms nl := ⟨b4.1, b4.2.1, b4.2.2.1, b4.2.2.2.1, fun r hr q => b4.2.2.2.2 r (hold r hr q) q⟩
      have esz : V.2.2.1.2.2.1 ≠ -1 → szF V.2.2.1.2.2.1 0 (appF a 0 part V.1.1 sv).1 = szF V.2.2.1.2.2.1 0 V.1.1 := by
        intro q
        refine szF_app_ne f1 (fun z => ?_)
        obtain ⟨o1, o2, o3, o4, o5, o6, o7, o8⟩ := b7 q
        rcases ha with ⟨q1, q2⟩ | ⟨q1, q2, q3⟩
        · rw [z.1, q1] at o6
          omega
        · exact o7 (by rw [z.1, q1])
      unfold M1
      rw [e4, e1, e3, eJ 34 (by decide), eJ 35 (by decide)]
      refine ⟨a1, a2, a3, a4, l1, fun f hf k2 => ?_, ms, nl, os, R, ⟨repL_fr b1 hf (by decide) (by decide) (by decide) (by decide) (by decide), by rw [eJ 43 (by decide)]; exact b2, b3, hLV⟩, ⟨?_, by rw [eI, eJ 46 (by decide)]; exact b6⟩, fun q => ?_, hR, by rw [eJ 36 (by decide), eJ 37 (by decide), ← eR]; exact b9, ?_, ?_⟩
      · rcases mem f hf with z | z
        · exact a6 f z k2
        · rw [z.2.1] at k2
          exact absurd k2 (by decide)
      · rw [eI]
        exact repI_fr b5 hf (by decide) (by decide)
      · obtain ⟨o1, o2, o3, o4, o5, o6, o7, o8⟩ := b7 q
        unfold outOk
        rw [e4, e1, e2, e6, esz q]
        refine ⟨repO_fr o1 hf (by decide) (by decide) (by decide) (by decide) (by decide) (by decide), o2, o3, o4, o5, ⟨o6.1, ?_⟩, ?_, by rw [fnd_app_ne f1 (fun z => absurd z.2 (by decide))]; exact o8⟩
        · show V.2.2.1.2.2.1.toInt < nx'.toInt
          omega
        · show a ≠ V.2.2.1.2.2.1
          intro z
          rcases ha with ⟨q1, q2⟩ | ⟨q1, q2, q3⟩
          · rw [← z, q1] at o6
            omega
          · exact o7 (by rw [← z, q1])
      · rw [e2, x5]
        show ((totF V.1.1 + part.length + R : Nat) : Int) ≤ V.1.2.2.2.1.toInt
        omega
      · have hsub : (remL rs' ms nl).Sublist (remL V.2.1 ms nl) := by
          refine filt_sub _ (fun y hy hs => ?_)
          have hin : y ∈ remL rs' ms nl := List.mem_filter.mpr ⟨hy, hs⟩
          obtain ⟨z1, z2⟩ := (rem_mem hrs.1 hLV).mp hin
          exact (List.mem_filter.mp ((rem_mem hW.1 b4).mpr ⟨hold y z1 z2, z2⟩)).2
        rw [eI]
        unfold need1 at b11 ⊢
        rw [e4, e3, e1, e2]
        have elv : oLv V.2.2.1.2.2.1 (appF a 0 part V.1.1 sv).1 = oLv V.2.2.1.2.2.1 V.1.1 := by
          unfold oLv
          by_cases q : V.2.2.1.2.2.1 = -1
          · rw [if_pos q, if_pos q]
          · rw [if_neg q, if_neg q, esz q]
        rw [elv]
        have := pkk_sub (fm := V.1.2.2.2.2.1.toNatClampNeg) hsub (oLv V.2.2.1.2.2.1 V.1.1)
        rw [← eR]
        exact Nat.le_trans (Nat.add_le_add_left this _) b11
    · refine Or.inr (Or.inr ?_)
      obtain ⟨a1, a2, a3, a4, a5, a6, a7, a8, a9, a10, a11, a12, is, ni, b1, b2, b3, b4⟩ := d
      obtain ⟨l1, l2⟩ := liok a7
      have eI : inpL V.2.2.1.2.1 (appF a 0 part V.1.1 sv).1 = inpL V.2.2.1.2.1 V.1.1 := inpL_app (Or.inr l2)
      unfold M2
      rw [e4, e1, e2, e3, eI, eJ 34 (by decide), eJ 35 (by decide), eJ 47 (by decide)]
      refine ⟨a1, a2, a3, a4, a5, a6, l1, ⟨a8.1, ?_⟩, fun f hf k2 => ?_, a10, fun r hr => ?_, fun p hp => ?_, is, ni, repI_fr b1 hf (by decide) (by decide), by rw [eJ 46 (by decide)]; exact b2, b3, b4⟩
      · show V.2.2.1.2.2.2.1.toInt < nx'.toInt
        omega
      · rcases mem f hf with z | z
        · exact a9 f z k2
        · rw [z.2.1] at k2
          exact absurd k2 (by decide)
      · rcases hnew r hr with z | z | z
        · exact z
        · exact a11 r z
        · exact absurd z l2
      · rcases List.mem_append.mp hp with z | z
        · exact a12 p z
        · rw [List.mem_singleton] at z
          rw [z]
          exact ⟨l2, rfl⟩
end
