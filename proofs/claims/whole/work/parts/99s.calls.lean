/-! class and reference: sync, format, patch, crash -/
def ph0 (f : AF) : AF := (f.1, f.2.1, f.2.2.1, f.2.2.2.1, 0)
theorem ph_pl (a b : Int32) : ∀ fs : List AF, plF a b (fs.map ph0) = plF a b fs
  | [] => rfl
  | f :: fs => by
    show (if a < f.1 ∨ (f.1 = a ∧ ¬ f.2.1 < b) then 0 else plF a b (fs.map ph0) + 1) = (if a < f.1 ∨ (f.1 = a ∧ ¬ f.2.1 < b) then 0 else plF a b fs + 1)
    rw [ph_pl a b fs]
theorem ph_fnd (a b : Int32) (fs : List AF) : fndF a b (fs.map ph0) = (fndF a b fs).map ph0 := by
  unfold fndF
  rw [ph_pl, List.getElem?_map]
  cases fs[plF a b fs]? with
  | none => rfl
  | some x =>
    show (some (ph0 x)).filter (isF a b) = ((some x).filter (isF a b)).map ph0
    rw [Option.filter_some, Option.filter_some]
    have e : isF a b (ph0 x) = isF a b x := rfl
    rw [e]
    cases isF a b x <;> rfl
theorem ph_sz (a b : Int32) (fs : List AF) : szF a b (fs.map ph0) = szF a b fs := by
  unfold szF
  rw [ph_fnd]
  cases fndF a b fs <;> rfl
theorem ph_tot : ∀ fs : List AF, totF (fs.map ph0) = totF fs
  | [] => rfl
  | f :: fs => by
    show f.2.2.1.length + totF (fs.map ph0) = f.2.2.1.length + totF fs
    rw [ph_tot fs]
theorem ph_srt {fs : List AF} (h : SrtF fs) : SrtF (fs.map ph0) := by
  unfold SrtF
  rw [List.pairwise_map]
  exact h
theorem ph_inp (l : Int32) : ∀ fs : List AF, inpL l (fs.map ph0) = inpL l fs
  | [] => rfl
  | f :: fs => by
    rw [List.map_cons, inpL_cons, inpL_cons, ph_inp l fs]
    rfl
theorem ph_dby (l : Int32) : ∀ fs : List AF, dby l (fs.map ph0) = dby l fs
  | [] => rfl
  | f :: fs => by
    show (if f.2.1 = 0 ∧ ¬ f.1 < l then f.2.2.1.length else 0) + dby l (fs.map ph0) = (if f.2.1 = 0 ∧ ¬ f.1 < l then f.2.2.1.length else 0) + dby l fs
    rw [ph_dby l fs]
theorem ph_scnt : ∀ fs : List AF, scnt (fs.map ph0) = scnt fs
  | [] => rfl
  | f :: fs => by
    rw [List.map_cons, scnt_cons, scnt_cons, ph_scnt fs]
    rfl
theorem ph_mem {fs : List AF} {y : AF} (h : y ∈ fs.map ph0) : ∃ x, x ∈ fs ∧ y.1 = x.1 ∧ y.2.1 = x.2.1 ∧ y.2.2.1 = x.2.2.1 ∧ y.2.2.2.2 = 0 := by
  obtain ⟨x, hx, e⟩ := List.mem_map.mp h
  rw [← e]
  exact ⟨x, hx, rfl, rfl, rfl, rfl⟩
theorem ph_fit {fs : List AF} {r : AR} {x : AF} {P W : Nat} (h : rowFit fs r x P W) : rowFit (fs.map ph0) r (ph0 x) P W := by
  obtain ⟨h1, h2⟩ := h
  refine ⟨?_, h2⟩
  rw [ph_fnd, h1]
  rfl
theorem ph_pro (fs : List AF) : fs.map (fun f => (f.1, f.2.1, f.2.2.1)) = (fs.map ph0).map (fun f => (f.1, f.2.1, f.2.2.1)) := by
  rw [List.map_map]
  rfl
theorem pnat_rev (a b : Int32) : ∀ qs : List AV, pnat a b qs.reverse = pnat a b qs
  | [] => rfl
  | p :: qs => by
    rw [List.reverse_cons, pnat_app, pnat_rev a b qs]
    show _ + ((if p.1 = a ∧ p.2.1 = b then p.2.2.toNatClampNeg else 0) + 0) = (if p.1 = a ∧ p.2.1 = b then p.2.2.toNatClampNeg else 0) + pnat a b qs
    omega
theorem prel_nil {fs : List AF} (h : ∀ f, f ∈ fs → f.2.2.2.2 = 0) : PRel fs [] [] := ⟨rfl, ⟨fun p hp => (by cases hp), fun f _ => ⟨Nat.zero_le _, Or.inl rfl⟩⟩, fun f hf => h f hf⟩
section
variable {m : Nat} {g : Gh} {S : MS} {α : Type} {t : Nat} {V : VC} {ps : List AV}
theorem settle_eq (V : VC) : sSettle V = ((V.1.1.map ph0, V.1.2.1, [], V.1.2.2.2), V.2) := rfl
theorem repP_nil {S' : MS} {J K : List Nat} (h : RepP S ps) (hf : mfr J K S S') (h12 : S'.1 12 = 0) (k5 : 5 ∉ K) (k6 : 6 ∉ K) (k7 : 7 ∉ K) : RepP S' [] := by
  refine ⟨⟨h12, by decide⟩, ?_, by simp, by simp, by simp⟩
  rw [hf.2 5 k5, hf.2 6 k6, hf.2 7 k7]
  exact h.2.1
theorem rel_settle {S' : MS} (h : Rel t V S ps) (h12 : S'.1 12 = 0) (hf : mfr [0, 12] [] S S') : Rel t (sSettle V) S' [] := by
  obtain ⟨⟨⟨f1, f2, f3, f4, f5, f6⟩, hW, hC⟩, ⟨hRS, hArr, r1, r2, r3, r4, r5⟩, ⟨hP, hP0⟩, hMm⟩ := h
  rw [settle_eq]
  have eJ : ∀ j, j ∉ [0, 12] → S'.1 j = S.1 j := hf.1
  have fJ : ∀ j, 34 ≤ j → j ∉ [0, 12] := fun j hj => by simp only [List.mem_cons, List.not_mem_nil, or_false]; omega
  have fK : ∀ q, 17 ≤ q → q ∉ ([] : List Nat) := fun q _ => List.not_mem_nil
  have hC' : SCi t ((V.1.1.map ph0, V.1.2.1, [], V.1.2.2.2), V.2) := by
    obtain ⟨c1, c2, c3, c4, c5, c6⟩ := hC
    refine ⟨c1, c2, c3, ?_, c5, by rw [ph_scnt]; exact c6.1, c6.2⟩
    rcases c4 with c4 | ⟨c4, c7⟩
    · exact Or.inl c4
    · refine Or.inr ⟨c4, fun f hf => ?_⟩
      have hf : fndF V.2.2.2.2.1.2.1 0 (V.1.1.map ph0) = some f := hf
      rw [ph_fnd] at hf
      cases hx : fndF V.2.2.2.2.1.2.1 0 V.1.1 with
      | none =>
        rw [hx] at hf
        cases hf
      | some x =>
        rw [hx] at hf
        cases hf
        exact c7 x hx
  refine ⟨⟨⟨ph_srt f1, fun f hf => ?_, by rw [List.length_map]; exact f3, f4, by rw [ph_tot]; exact f5, fun f f' h1 h2 k1 k2 => ?_⟩, ⟨hW.1, fun r hr => ?_, by rw [ph_tot]; exact hW.2.2.1, hW.2.2.2⟩, hC'⟩, ⟨?_, arr_fr hArr hf (fun q _ => List.not_mem_nil), repF_congr (repF_fr r1 hf (by decide) (by decide) (by decide) (by decide) (by decide) (by decide)) (ph_pro _), repP_nil r2 hf h12 (by decide) (by decide) (by decide), repR_fr r3 hf (by decide) (fun q _ _ => List.not_mem_nil), repT_fr r4 hf (by decide) (by decide), repA_fr r5 hf (by decide) (by decide)⟩, ⟨prel_nil (fun f hf => ?_), fun _ => rfl⟩, ?_⟩
  · obtain ⟨x, x1, x2, x3, x4, _⟩ := ph_mem hf
    rw [x2, x3, x4]
    exact f2 x x1
  · obtain ⟨x, x1, x2, x3, _⟩ := ph_mem h1
    obtain ⟨y, y1, y2, y3, _⟩ := ph_mem h2
    rw [x2, y2]
    exact f6 x y x1 y1 (by rw [← x3]; exact k1) (by rw [← y3]; exact k2)
  · obtain ⟨g1, x, P, W, g2⟩ := hW.2.1 r hr
    exact ⟨g1, ph0 x, P, W, ph_fit g2⟩
  · unfold RelS
    rw [eJ 1 (by decide), eJ 2 (by decide), eJ 24 (by decide), eJ 25 (by decide), eJ 26 (by decide), eJ 23 (by decide), eJ 19 (by decide), eJ 20 (by decide), eJ 21 (by decide), eJ 22 (by decide)]
    exact hRS
  · obtain ⟨x, _, _, _, _, e⟩ := ph_mem hf
    exact e
  · rcases hMm with d | d | d
    · refine Or.inl (m0_fr (S := S) ?_ hf (by decide) (by decide))
      refine ⟨d.1, d.2.1, d.2.2.1, d.2.2.2.1, d.2.2.2.2.1, d.2.2.2.2.2.1, fun q f hf => ?_⟩
      obtain ⟨x, x1, x2, x3, _⟩ := ph_mem hf
      rw [x3]
      exact d.2.2.2.2.2.2 q x x1
    · refine Or.inr (Or.inl (m1_fr (S := S) ?_ hf fJ fK))
      obtain ⟨a1, a2, a3, a4, ⟨l1, l2, l3⟩, a6, ms, nl, os, R, b1, ⟨b5, b6⟩, b7, b8, b9, b10, b11⟩ := d
      refine ⟨a1, a2, a3, a4, ⟨l1, l2, by rw [ph_dby]; exact l3⟩, fun f hf => ?_, ms, nl, os, R, b1, ⟨by rw [ph_inp]; exact b5, b6.1, by rw [ph_inp]; exact b6.2⟩, fun q => ?_, b8, b9, by rw [ph_tot]; exact b10, ?_⟩
      · obtain ⟨x, x1, x2, x3, _⟩ := ph_mem hf
        rw [x3]
        exact a6 x x1
      · obtain ⟨o1, o2, o3, o4, o5, o6⟩ := b7 q
        exact ⟨o1, o2, o3, o4, by rw [ph_sz]; exact o5, o6.1, o6.2.1, by rw [ph_fnd, o6.2.2]; rfl⟩
      · rw [ph_inp]
        unfold need1 oLv at b11 ⊢
        rw [ph_sz]
        exact b11
    · refine Or.inr (Or.inr (m2_fr (S := S) ?_ hf fJ fK))
      obtain ⟨a1, a2, a3, a4, a5, a6, ⟨l1, l2, l3⟩, a8, a9, a10, a11, a12, is, ni, b1, b2, b3, b4⟩ := d
      refine ⟨a1, a2, a3, a4, a5, a6, ⟨l1, l2, by rw [ph_dby]; exact l3⟩, a8, fun f hf k => ?_, a10, a11, fun p hp => (by cases hp), is, ni, b1, b2, b3, by rw [ph_inp]; exact b4⟩
      obtain ⟨x, x1, x2, x3, _⟩ := ph_mem hf
      rw [x2]
      exact a9 x x1 (by rw [← x3]; exact k)
theorem r_sync {k : Int32 → M α} {Q : α → MS → Prop} (hM : Mk m g) (h : Rel t V S ps) (hk : ∀ S' ps', Rel t (sSync V).2.1 S' ps' → S'.1 0 = th2 (fun _ => 1) (sSync V).1 → okM m g (k (vl (sSync V).1)) S' Q) : okM m g (bd (X9_sync m) k) S Q := by
  have e23 := h.2.1.1.1.2.2.2.2.2
  obtain ⟨u1, u2⟩ := prel_uns h.1.1.1 h.2.2.1.1
  unfold sSync at hk
  refine m_sync hM h.2.1.2.2.2.1 (fun c => ?_) (fun c => ?_)
  · rw [e23] at c
    rw [if_pos c] at hk
    exact hk _ ps (rel_0 h) rfl
  · rw [e23] at c
    rw [if_neg c] at hk
    rw [u2, ← u1]
    exact hk _ [] (rel_settle h rfl (mfr_tr (mfr_I (by decide)) (mfr_I (by decide)))) rfl
theorem r_format {c f : Int32} {k : Unit → M α} {Q : α → MS → Prop} (hM : Mk m g) (h : Rel t V S ps) (hk : ∀ S' ps', Rel (t + 1) (sFormat c f V).2.1 S' ps' → S'.1 0 = th2 (fun _ => 1) (sFormat c f V).1 → okM m g (k ()) S' Q) : okM m g (bd (X9_format m c f) k) S Q := by
  unfold sFormat at hk
  refine m_format hM (fun q => ?_) (fun S' q hf => ?_)
  · rw [if_pos q] at hk
    exact hk _ ps (rel_t (rel_0 h) (by omega)) rfl
  · rw [if_neg q] at hk
    obtain ⟨⟨g1, g2⟩, g3, g4, g5, g6⟩ := hf
    have hhb := h.1.2.2.2.2.2.2.2.2
    obtain ⟨_, ⟨_, hArr, r1, r2, r3, r4, r5⟩, _, _⟩ := h
    have f0 : mfr [0] [] S (upI S 0 0) := mfr_I (by decide)
    have hfr : mfr [0, 1, 2, 4, 8, 12, 18, 19, 20, 21, 22, 23, 24, 25, 26, 33, 34, 35] [] S S' := mfr_tr (mfr_mono f0 (by decide) (by decide)) (mfr_mono g6 (by decide) (by decide))
    have eK : ∀ q, S'.2 q = S.2 q := fun q => hfr.2 q List.not_mem_nil
    simp only [Int32.lt_iff_toInt_lt, show (128 : Int32).toInt = 128 from rfl, show (16384 : Int32).toInt = 16384 from rfl, show (4096 : Int32).toInt = 4096 from rfl] at q
    refine hk S' [] ⟨⟨⟨List.Pairwise.nil, fun f hf => absurd hf List.not_mem_nil, Nat.zero_le _, ?_, ?_, fun f f' hf => absurd hf List.not_mem_nil⟩, ⟨List.Pairwise.nil, fun r hr => absurd hr List.not_mem_nil, Nat.zero_le _, fun _ => rfl⟩, ⟨Or.inr rfl, ?_, ?_, Or.inl rfl, fun _ => ⟨rfl, rfl, rfl⟩, Nat.zero_le _, hhb⟩⟩, ⟨⟨⟨g1, g2, g4 24 (by decide), g4 25 (by decide), g5 26 (by decide), g4 23 (by decide)⟩, g3 19 (by decide), g3 20 (by decide), g3 21 (by decide), g3 22 (by decide)⟩, arr_fr hArr hfr (fun q _ => List.not_mem_nil), ?_, repP_nil r2 hfr (g3 12 (by decide)) (by decide) (by decide) (by decide), ?_, repT_fr r4 hfr (by decide) (by decide), ?_⟩, ⟨prel_nil (fun f hf => absurd hf List.not_mem_nil), fun _ => rfl⟩, Or.inl ⟨rfl, g3 34 (by decide), g5 35 (by decide), rfl, rfl, rfl, fun _ f hf => absurd hf List.not_mem_nil⟩⟩ ?_
    · show 128 ≤ c.toInt ∧ c.toInt ≤ 16384 ∧ 128 ≤ f.toInt ∧ f.toInt ≤ 4096
      omega
    · show ((0 : Nat) : Int) ≤ c.toInt
      omega
    · show 1 ≤ (1 : Int32).toInt ∧ (1 : Int32).toInt ≤ 1 + 1300 * ((t + 1 : Nat) : Int)
      rw [li1]
      omega
    · show 1 ≤ (1 : Int32).toInt ∧ (1 : Int32).toInt ≤ 1000000001
      rw [li1]
      omega
    · refine ⟨⟨g3 8 (by decide), g3 4 (by decide), Nat.zero_le _, Nat.zero_le _⟩, ?_, by simp [sBegin, sForget, sStop, si1108, si1110, si1109, sRr, sB5, sOclr, sDd], by simp [sBegin, sForget, sStop, si1108, si1110, si1109, sRr, sB5, sOclr, sDd], by simp [sBegin, sForget, sStop, si1108, si1110, si1109, sRr, sB5, sOclr, sDd], by simp [sBegin, sForget, sStop, si1108, si1110, si1109, sRr, sB5, sOclr, sDd, totF], ?_⟩
      · rw [eK 1, eK 2, eK 3, eK 4]
        exact r1.2.1
      · rw [eK 1]
        exact r1.2.2.2.2.2.2
    · refine ⟨⟨g3 33 (by decide), (show 0 < 1200 by decide)⟩, ?_, fun i r hr => (by cases hr)⟩
      unfold dLen
      rw [eK 11]
      exact ⟨r3.2.1.1, fun q h1 h2 => by rw [eK q]; exact r3.2.1.2.1 q h1 h2, r3.2.1.2.2⟩
    · refine ⟨g3 18 (by decide), Nat.zero_le _, ?_, by simp [sBegin, sForget, sStop, si1108, si1110, si1109, sRr, sB5, sOclr, sDd]⟩
      rw [eK 10]
      exact r5.2.2.1
    · rw [g6.1 0 (by decide)]
      rfl
theorem r_patch {f i v : Int32} {k : Int32 → M α} {Q : α → MS → Prop} (hM : Mk m g) (h : Rel t V S ps) (hk : ∀ S' ps', Rel t (sPatch f i v V).2.1 S' ps' → S'.1 0 = th2 (fun j => if j = 1 then 1 else 2) (sPatch f i v V).1 → okM m g (k (vl (sPatch f i v V).1)) S' Q) : okM m g (bd (X9_patch m f i v) k) S Q := by
  have e23 := h.2.1.1.1.2.2.2.2.2
  unfold sPatch at hk
  refine m_patch hM h.2.1.2.2.1 (fun c => ?_) (fun c c2 => ?_) (fun x c c2 c3 => ?_) (fun x S' c c2 c3 q1 q2 q3 => ?_)
  · rw [e23] at c
    rw [if_pos c] at hk
    exact hk _ ps (rel_0 h) rfl
  · rw [e23] at c
    rw [if_neg (fun z => z c), c2] at hk
    exact hk _ ps (rel_0 h) rfl
  · rw [e23] at c
    rw [if_neg (fun z => z c), c2] at hk
    dsimp only at hk
    rw [if_pos c3] at hk
    exact hk _ ps (rel_0 h) rfl
  · rw [e23] at c
    rw [if_neg (fun z => z c), c2] at hk
    dsimp only at hk
    rw [if_neg c3] at hk
    refine hk S' ps ?_ q2
    obtain ⟨⟨⟨f1, f2, f3, f4, f5, f6⟩, hW, hC⟩, ⟨hRS, hArr, r1, r2, r3, r4, r5⟩, ⟨hP, hP0⟩, hMm⟩ := h
    have hps := hP0 c
    have hrows := hW.2.2.2 c
    have hf2 : V.1.1[f.toNatClampNeg]? = some x := by
      unfold oat at c2
      split at c2
      · cases c2
      · exact c2
    have ep : patF f.toNatClampNeg i.toNatClampNeg v V.1.1 = V.1.1.set f.toNatClampNeg (x.1, x.2.1, x.2.2.1.set i.toNatClampNeg (b8 v), x.2.2.2.1, x.2.2.2.2) := by
      unfold patF
      rw [hf2]
    have mem : ∀ y, y ∈ patF f.toNatClampNeg i.toNatClampNeg v V.1.1 → ∃ z, z ∈ V.1.1 ∧ y.1 = z.1 ∧ y.2.1 = z.2.1 ∧ y.2.2.1.length = z.2.2.1.length ∧ y.2.2.2.2 = z.2.2.2.2 := by
      intro y hy
      rw [ep] at hy
      rcases List.mem_or_eq_of_mem_set hy with q | q
      · exact ⟨y, q, rfl, rfl, rfl, rfl⟩
      · rw [q]
        exact ⟨x, List.mem_of_getElem? hf2, rfl, rfl, List.length_set, rfl⟩
    have tot : totF (patF f.toNatClampNeg i.toNatClampNeg v V.1.1) = totF V.1.1 := by
      rw [ep, set_split hf2, totF_app, totF_take hf2]
      show totF _ + ((x.2.2.1.set _ _).length + totF _) = _
      rw [List.length_set]
      omega
    have eJ : ∀ j, j ∉ [0] → S'.1 j = S.1 j := q3.1
    have spat : SrtF (patF f.toNatClampNeg i.toNatClampNeg v V.1.1) := by
      rw [ep]
      exact srt_set f1 hf2 rfl rfl
    have hC' : SCi t (sDd (patF f.toNatClampNeg i.toNatClampNeg v V.1.1, V.1.2) V) := by
      obtain ⟨c1, c2, c3, c4, c5, c6⟩ := hC
      refine ⟨c1, c2, c3, ?_, c5, ?_, c6.2⟩
      · rcases c4 with c4 | ⟨c4, c7⟩
        · exact Or.inl c4
        · refine Or.inr ⟨c4, fun y hy => ?_⟩
          obtain ⟨y1, y2, y3⟩ := fnd_mem hy
          obtain ⟨z, z1, z2, z3, z4, _⟩ := mem y y1
          have := fnd_uniq f1 z1
          rw [← z2, ← z3, y2, y3] at this
          rw [z4]
          exact c7 z this
      · show scnt (patF _ _ _ _) ≤ t
        have e2 : V.1.1 = V.1.1.take f.toNatClampNeg ++ x :: V.1.1.drop (f.toNatClampNeg + 1) := by rw [← drop_cons hf2, List.take_append_drop]
        have e3 := congrArg scnt e2
        rw [scnt_app2, scnt_cons] at e3
        rw [ep, set_split hf2, scnt_app2, scnt_cons]
        show _ + ((if (x.2.2.1.set _ _).length < 12 then 1 else 0) + _) ≤ t
        rw [List.length_set]
        have := c6.1
        omega
    refine ⟨⟨⟨?_, fun y hy => ?_, ?_, f4, ?_, fun y y' h1 h2 k1 k2 => ?_⟩, ⟨hW.1, fun r hr => ?_, ?_, hW.2.2.2⟩, hC'⟩, ⟨?_, arr_fr hArr q3 (fun q hq => by simp only [List.mem_cons, List.not_mem_nil, or_false]; omega), q1, repP_fr r2 q3 (by decide) (by decide) (by decide) (by decide), repR_fr r3 q3 (by decide) (fun q u1 u2 => by simp only [List.mem_cons, List.not_mem_nil, or_false]; omega), repT_fr r4 q3 (by decide) (by decide), repA_fr r5 q3 (by decide) (by decide)⟩, ⟨?_, hP0⟩, ?_⟩
    · show SrtF (patF _ _ _ _)
      rw [ep]
      exact srt_set f1 hf2 rfl rfl
    · obtain ⟨z, z1, z2, z3, z4, _⟩ := mem y hy
      rw [z2, z3, z4]
      exact f2 z z1
    · show (patF _ _ _ _).length ≤ _
      rw [ep, List.length_set]
      exact f3
    · show ((totF (patF _ _ _ _) : Nat) : Int) ≤ _
      rw [tot]
      exact f5
    · obtain ⟨z, z1, z2, z3, _⟩ := mem y h1
      obtain ⟨u, u1, u2, u3, _⟩ := mem y' h2
      rw [z2, u2]
      exact f6 z u z1 u1 (by rw [← z3]; exact k1) (by rw [← u3]; exact k2)
    · have hr : r ∈ V.2.1 := hr
      rw [hrows] at hr
      cases hr
    · show 15 * V.2.1.length ≤ _
      rw [hrows]
      exact Nat.zero_le _
    · unfold RelS
      rw [eJ 1 (by decide), eJ 2 (by decide), eJ 24 (by decide), eJ 25 (by decide), eJ 26 (by decide), eJ 23 (by decide), eJ 19 (by decide), eJ 20 (by decide), eJ 21 (by decide), eJ 22 (by decide)]
      exact hRS
    · subst hps
      refine ⟨hP.1, ⟨fun p hp => (by cases hp), fun y hy => ⟨Nat.zero_le _, Or.inl rfl⟩⟩, fun y hy => ?_⟩
      obtain ⟨z, z1, z2, z3, _, z5⟩ := mem y hy
      rw [z5, hP.2.2 z z1]
      rfl
    · have hm0 : M0 V S := by
        rcases hMm with d | d | d
        · exact d
        · exact absurd (hC.2.2.2.2.1 c).1 (by rw [d.1]; decide)
        · exact absurd (hC.2.2.2.2.1 c).1 (by rw [d.1]; decide)
      exact Or.inl (m0_fr (S := S) ⟨hm0.1, hm0.2.1, hm0.2.2.1, hm0.2.2.2.1, hm0.2.2.2.2.1, hm0.2.2.2.2.2.1, fun z => absurd c z⟩ q3 (by decide) (by decide))
theorem r_crash {x : Int32} {k : Int32 → M α} {Q : α → MS → Prop} (hM : Mk m g) (h : Rel t V S ps) (hk : ∀ S' ps', Rel (t + 1) (sCrash x V).2.1 S' ps' → S'.1 0 = th2 (fun j => if j = 1 then 1 else 2) (sCrash x V).1 → okM m g (k (vl (sCrash x V).1)) S' Q) : okM m g (bd (X9_crash m x) k) S Q := by
  have h0 := h
  have e23 := h.2.1.1.1.2.2.2.2.2
  obtain ⟨u1, u2⟩ := prel_uns h.1.1.1 h.2.2.1.1
  obtain ⟨⟨⟨f1, f2, f3, f4, f5, f6⟩, hW, hC⟩, ⟨hRS, hArr, r1, r2, r3, r4, r5⟩, ⟨hP, hP0⟩, hMm⟩ := h
  have hT := r1.1.2.2.1
  have pt := pcs_tot f1 hP.2.1
  have pw := pcs_pwr hP.2.1 hT
  unfold sCrash at hk
  rw [u1] at hk
  refine m_crash (U := ptot ps) hM r1 f1 r2 (fun f hf => ?_) u2 (by omega) (fun left _ => loss_ok _ _ _ pw) (fun c => ?_) (fun c c2 => ?_) (fun S' c c2 hc => ?_)
  · have := (f2 f hf).2.2
    exact decide_eq_true (by omega)
  · rw [e23] at c
    rw [if_pos c] at hk
    exact hk _ ps (rel_t (rel_0 h0) (by omega)) rfl
  · rw [e23] at c
    rw [if_neg c, if_pos c2] at hk
    exact hk _ ps (rel_t (rel_0 h0) (by omega)) rfl
  · rw [e23] at c
    rw [if_neg c, if_neg c2] at hk
    obtain ⟨g1, ⟨g2, g3, g4, g5, g6, g7⟩, g8⟩ := hc
    have ecol : losR (nI (ptot ps) - x).toNatClampNeg V.1.2.2.1.reverse V.1.1 = losR (nI (ptot ps) - x).toNatClampNeg ps.reverse V.1.1 := by
      have := col_rev ps.reverse
      rw [List.reverse_reverse] at this
      rw [hP.1, this]
      exact los_colr _ _ _ pw
    obtain ⟨l1, l2, l3, l4⟩ := los_all ps.reverse V.1.1 (nI (ptot ps) - x).toNatClampNeg f1
    generalize hG : losR (nI (ptot ps) - x).toNatClampNeg ps.reverse V.1.1 = G at *
    have eV : sForget (si1108 0 (sSettle (losV (nI (ptot ps) - x).toNatClampNeg V))) = (((G.filter neF).map ph0, V.1.2.1 ++ (G.reverse.filter (fun f => !neF f)).map (fun f => f.2.2.2.1), [], V.1.2.2.2), [], (0, 0, -1, -1, V.2.2.1.2.2.2.2.1, 0, V.2.2.1.2.2.2.2.2.2), V.2.2.2.1, (0, -1, V.2.2.2.2.1.2.2.1, V.2.2.2.2.1.2.2.2.1, V.2.2.2.2.1.2.2.2.2), V.2.2.2.2.2) := by
      unfold losV
      rw [ecol]
      rfl
    rw [eV] at hk
    have f0 : mfr [0] [] S (upI S 0 0) := mfr_I (by decide)
    have hfr : mfr [0, 4, 8, 12, 23, 26, 33, 34, 35] [1, 2, 3, 4] S S' := mfr_tr (mfr_mono f0 (by decide) (by decide)) (mfr_mono g8 (by decide) (by decide))
    have eJ : ∀ j, j ∉ [0, 4, 8, 12, 23, 26, 33, 34, 35] → S'.1 j = S.1 j := hfr.1
    have hsub := List.filter_sublist (p := neF) (l := G)
    have mem : ∀ y, y ∈ (G.filter neF).map ph0 → ∃ z, z ∈ V.1.1 ∧ y.1 = z.1 ∧ y.2.1 = z.2.1 ∧ 1 ≤ y.2.2.1.length ∧ y.2.2.2.2 = 0 := by
      intro y hy
      obtain ⟨u, u1, u2, u3, u4, u5⟩ := ph_mem hy
      obtain ⟨w1, w2⟩ := List.mem_filter.mp u1
      obtain ⟨z, z1, z2, z3⟩ := l4 u w1
      have w2 : u.2.2.1.length ≠ 0 := of_decide_eq_true w2
      exact ⟨z, z1, u2.trans z2, u3.trans z3, by rw [u4]; omega, u5⟩
    obtain ⟨⟨s1, s2, s3, s4, s5, s6⟩, s7, s8, s9, s10⟩ := hRS
    refine hk S' [] ⟨⟨⟨ph_srt (List.Pairwise.sublist hsub l1), fun y hy => ?_, ?_, f4, ?_, fun y y' h1 h2 k1 k2 => ?_⟩, ⟨List.Pairwise.nil, fun r hr => (by cases hr), Nat.zero_le _, fun _ => rfl⟩, ⟨Or.inl rfl, ⟨hC.2.1.1, ?_⟩, hC.2.2.1, Or.inl rfl, fun _ => ⟨rfl, rfl, rfl⟩, ?_, hC.2.2.2.2.2.2⟩⟩, ⟨⟨⟨?_, ?_, ?_, ?_, g7, g3⟩, ?_, ?_, ?_, ?_⟩, arr_fr hArr hfr (fun q hq => by simp only [List.mem_cons, List.not_mem_nil, or_false]; omega), repF_congr g1 (ph_pro _), repP_nil r2 hfr g2 (by decide) (by decide) (by decide), ?_, repT_fr r4 hfr (by decide) (by decide), repA_fr r5 hfr (by decide) (by decide)⟩, ⟨prel_nil (fun y hy => ?_), fun _ => rfl⟩, Or.inl ⟨rfl, g5, g6, rfl, rfl, rfl, fun z => absurd rfl z⟩⟩ ?_
    · obtain ⟨z, z1, z2, z3, z4, _⟩ := mem y hy
      obtain ⟨q1, q2, _⟩ := f2 z z1
      rw [z2, z3]
      exact ⟨q1, q2, z4⟩
    · show ((G.filter neF).map ph0).length ≤ 2048
      rw [List.length_map]
      have := hsub.length_le
      omega
    · show ((totF ((G.filter neF).map ph0) : Nat) : Int) ≤ V.1.2.2.2.1.toInt
      rw [ph_tot]
      have := totF_sub hsub
      omega
    · obtain ⟨z, z1, z2, z3, _⟩ := mem y h1
      obtain ⟨u, u1, u2, u3, _⟩ := mem y' h2
      rw [z2, u2]
      exact f6 z u z1 u1 (by rw [← z3]; exact k1) (by rw [← u3]; exact k2)
    · have := hC.2.1.2
      show V.1.2.2.2.2.2.toInt ≤ 1 + 1300 * ((t + 1 : Nat) : Int)
      omega
    · show scnt ((G.filter neF).map ph0) ≤ t + 1
      rw [ph_scnt, scn1_fil, ← hG]
      have hgood : ∀ f, f ∈ V.1.1 → pnat f.1 f.2.1 ps.reverse = 0 ∨ f.2.2.1.length = pnat f.1 f.2.1 ps.reverse ∨ 12 + pnat f.1 f.2.1 ps.reverse ≤ f.2.2.1.length := by
        intro f hf
        rw [pnat_rev]
        exact (hP.2.1.2 f hf).2
      have l5 := los_small ps.reverse V.1.1 (nI (ptot ps) - x).toNatClampNeg f1 pw (fun p hp => (hP.2.1.1 p (List.mem_reverse.mp hp)).1.2) hgood
      have l6 := scn1_le V.1.1
      have l7 := hC.2.2.2.2.2.1
      omega
    · rw [eJ 1 (by decide)]
      exact s1
    · rw [eJ 2 (by decide)]
      exact s2
    · rw [eJ 24 (by decide)]
      exact s3
    · rw [eJ 25 (by decide)]
      exact s4
    · rw [eJ 19 (by decide)]
      exact s7
    · rw [eJ 20 (by decide)]
      exact s8
    · rw [eJ 21 (by decide)]
      exact s9
    · rw [eJ 22 (by decide)]
      exact s10
    · refine ⟨⟨g4, (show 0 < 1200 by decide)⟩, ?_, fun i r hr => (by cases hr)⟩
      have e : ∀ q, 11 ≤ q → q ≤ 16 → S'.2 q = S.2 q := fun q h1 h2 => hfr.2 q (by simp only [List.mem_cons, List.not_mem_nil, or_false]; omega)
      unfold dLen
      rw [e 11 (by decide) (by decide)]
      exact ⟨r3.2.1.1, fun q h1 h2 => by rw [e q (by omega) h2]; exact r3.2.1.2.1 q h1 h2, r3.2.1.2.2⟩
    · obtain ⟨_, _, _, _, _, z⟩ := mem y hy
      exact z
    · rw [g8.1 0 (by decide)]
      rfl
end
