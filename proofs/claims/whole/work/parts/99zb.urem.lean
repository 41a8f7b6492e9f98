/-! class and reference: finishing and removing, both sides -/
theorem dis_split {a b : Int32} {fs : List AF} : (fndF a b fs = none ∧ disF a b fs = fs) ∨ ∃ X x Y, fndF a b fs = some x ∧ fs = X ++ x :: Y ∧ disF a b fs = X ++ Y ∧ x.1 = a ∧ x.2.1 = b := by
  cases h : fndF a b fs with
  | none =>
    refine Or.inl ⟨rfl, ?_⟩
    unfold disF
    rw [h]
  | some x =>
    obtain ⟨q1, q2, q3⟩ := fndF_some h
    refine Or.inr ⟨fs.take (plF a b fs), x, fs.drop (plF a b fs + 1), rfl, ?_, ?_, q2, q3⟩
    · rw [← drop_cons q1, List.take_append_drop]
    · unfold disF
      rw [h]
      exact era_split q1
theorem dby_dis {a b l : Int32} {fs : List AF} (h : ¬ (b = 0 ∧ ¬ a < l)) : dby l (disF a b fs) = dby l fs := by
  rcases dis_split (a := a) (b := b) (fs := fs) with ⟨_, e⟩ | ⟨X, x, Y, _, e1, e2, e3, e4⟩
  · rw [e]
  · rw [e2]
    conv => rhs; rw [e1]
    rw [dby_app2, dby_app2]
    show _ = _ + ((if x.2.1 = 0 ∧ ¬ x.1 < l then x.2.2.1.length else 0) + dby l Y)
    rw [e3, e4, if_neg h, Nat.zero_add]
theorem inp_dis {a b l : Int32} {fs : List AF} (h : ¬ (b = 0 ∧ a < l)) : inpL l (disF a b fs) = inpL l fs := by
  rcases dis_split (a := a) (b := b) (fs := fs) with ⟨_, e⟩ | ⟨X, x, Y, _, e1, e2, e3, e4⟩
  · rw [e]
  · rw [e2]
    conv => rhs; rw [e1]
    rw [inpL_app2, inpL_app2, inpL_cons, e3, e4, if_neg h]
    rfl
theorem dby_le (l : Int32) : ∀ fs : List AF, dby l fs ≤ totF fs
  | [] => Nat.le_refl _
  | f :: fs => by
    have := dby_le l fs
    show (if f.2.1 = 0 ∧ ¬ f.1 < l then f.2.2.1.length else 0) + dby l fs ≤ f.2.2.1.length + totF fs
    split <;> omega
theorem inp_first {l v : Int32} {rest : List Int32} : ∀ {fs : List AF}, SrtF fs → inpL l fs = v :: rest → ∃ f, fs.find? (fun f => decide (f.2.1 = 0)) = some f ∧ f.1 = v ∧ v < l ∧ fndF v 0 fs = some f ∧ inpL l (disF v 0 fs) = rest
  | [], _, h => by cases h
  | f :: fs, hS, h => by
    have hp := List.pairwise_cons.mp hS
    rw [inpL_cons] at h
    by_cases k0 : f.2.1 = 0
    · by_cases k1 : f.1 < l
      · rw [if_pos ⟨k0, k1⟩] at h
        have h1 : f.1 = v := by
          have := congrArg List.head? h
          exact Option.some.inj this
        have h2 : inpL l fs = rest := by
          have := congrArg List.tail h
          exact this
        have hu := fnd_uniq hS (x := f) List.mem_cons_self
        rw [h1, k0] at hu
        refine ⟨f, by rw [List.find?_cons, decide_eq_true k0], h1, by rw [← h1]; exact k1, hu, ?_⟩
        have hd := dis_at hS (i := 0) (f := f) rfl
        rw [h1, k0] at hd
        rw [hd]
        exact h2
      · exfalso
        rw [if_neg (fun q => k1 q.2), List.nil_append] at h
        have : inpL l fs = [] := by
          unfold inpL dNum
          have : fs.filter (fun f => decide (f.1 < l)) = [] := by
            rw [List.filter_eq_nil_iff]
            intro x hx q
            have q := of_decide_eq_true q
            rw [Int32.lt_iff_toInt_lt] at q k1
            rcases hp.1 x hx with z | z
            · rw [Int32.lt_iff_toInt_lt] at z
              omega
            · rw [z.1] at k1
              omega
          rw [this]
          rfl
        rw [this] at h
        cases h
    · rw [if_neg (fun q => k0 q.1), List.nil_append] at h
      obtain ⟨x, x1, x2, x3, x4, x5⟩ := inp_first hp.2 h
      obtain ⟨m1, m2, m3⟩ := fnd_mem x4
      have hu := fnd_uniq hS (List.mem_cons_of_mem f m1)
      rw [m2, m3] at hu
      refine ⟨x, by rw [List.find?_cons, decide_eq_false k0]; exact x1, x2, x3, hu, ?_⟩
      rcases dis_split (a := v) (b := 0) (fs := f :: fs) with ⟨e, _⟩ | ⟨X, y, Y, e0, e1, e2, e3, e4⟩
      · rw [e] at hu
        cases hu
      · rw [e2]
        cases X with
        | nil =>
          rw [List.nil_append] at e1
          cases e1
          exact absurd e4 k0
        | cons z X =>
          rw [List.cons_append] at e1
          have ez : z = f := by
            have := congrArg List.head? e1
            exact (Option.some.inj this).symm
          have et : fs = X ++ y :: Y := by
            have := congrArg List.tail e1
            exact this
          rw [ez]
          have : inpL l (f :: (X ++ Y)) = inpL l (X ++ Y) := by
            rw [inpL_cons, if_neg (fun q => k0 q.1)]
            rfl
          show inpL l (f :: (X ++ Y)) = rest
          rw [this, ← x5]
          have hu2 := x4
          obtain ⟨i, hi⟩ := List.mem_iff_getElem?.mp (show y ∈ fs by rw [et]; exact List.mem_append_right _ List.mem_cons_self)
          have hy := (fndF_at hp.2 hi).1
          rcases dis_split (a := v) (b := 0) (fs := fs) with ⟨w, _⟩ | ⟨X2, y2, Y2, w0, w1, w2, w3, w4⟩
          · rw [w] at x4
            cases x4
          · rw [w2]
            have nx : ∀ (A B : List AF) (q : AF), SrtF (A ++ q :: B) → q.1 = v → q.2.1 = 0 → inpL l (A ++ B) = (inpL l (A ++ q :: B)).erase v := by
              intro A B q hSq hq1 hq2
              rw [inpL_app2, inpL_app2, inpL_cons, if_pos ⟨hq2, by rw [hq1]; exact x3⟩, hq1]
              have hnot : v ∉ inpL l A := by
                intro hv
                unfold inpL dNum at hv
                obtain ⟨c, c1, c2⟩ := List.mem_map.mp hv
                obtain ⟨c3, c4⟩ := List.mem_filter.mp c1
                have c5 := (List.mem_filter.mp c3).1
                have := (List.pairwise_append.mp hSq).2.2 c c5 q List.mem_cons_self
                have c4 := of_decide_eq_true c4
                rw [c2, c4, hq1, hq2] at this
                rcases this with z | z
                · exact absurd z Int32.lt_irrefl
                · exact absurd z.2 (by decide)
              rw [List.erase_append_right _ hnot]
              show _ = inpL l A ++ (v :: inpL l B).erase v
              rw [List.erase_cons_head]
            rw [nx X Y y (by rw [← et]; exact hp.2) e3 e4, nx X2 Y2 y2 (by rw [← w1]; exact hp.2) w3 w4, ← et, ← w1]
theorem inp_none {l : Int32} {fs : List AF} (h : inpL l fs = []) {f : AF} (hf : fs.find? (fun f => decide (f.2.1 = 0)) = some f) : ¬ f.1 < l := by
  intro q
  obtain ⟨i, hi, h0, _⟩ := find_idx _ _ hf
  have : f.1 ∈ inpL l fs := by
    unfold inpL dNum
    refine List.mem_map.mpr ⟨f, List.mem_filter.mpr ⟨List.mem_filter.mpr ⟨List.mem_of_getElem? hi, decide_eq_true q⟩, h0⟩, rfl⟩
  rw [h] at this
  cases this
theorem vDis_files (a b : Int32) (D : VD) : (vDis a b D).1 = disF a b D.1 ∧ (vDis a b D).2.2 = D.2.2 := by
  unfold vDis disF
  cases fndF a b D.1 <;> exact ⟨rfl, rfl⟩
section
variable {m : Nat} {g : Gh} {S : MS} {α : Type} {t : Nat} {V : VC} {ps : List AV} {C : Int}
theorem dis_ps {a b : Int32} {fs : List AF} (h : ∀ p, p ∈ ps → ¬ (p.1 = a ∧ p.2.1 = b)) : disP a b fs ps = ps := by
  unfold disP
  cases fndF a b fs with
  | none => rfl
  | some x =>
    show ps.filter (notP a b) = ps
    rw [List.filter_eq_self]
    intro p hp
    unfold notP
    rw [decide_eq_false (h p hp)]
    rfl
/-- files go: what is kept -/
theorem rel_rm {V' : VC} {S' : MS} {fs' : List AF} (h : RelB t C V S ps) (hM2 : M2 V S ps) (hsub : fs'.Sublist V.1.1) (hkeep : ∀ f, f ∈ V.1.1 → f.2.1 = 0 → ¬ f.1 < V.2.2.1.2.1 → f ∈ fs') (hdby : dby V.2.2.1.2.1 fs' = dby V.2.2.1.2.1 V.1.1)
    (e1 : V'.1.1 = fs') (e2 : V'.1.2.2 = V.1.2.2) (e3 : V'.2.1 = V.2.1) (e4 : V'.2.2.1.2.2.2.2.2.2 = V.2.2.1.2.2.2.2.2.2) (e5 : V'.2.2.2.1 = V.2.2.2.1) (e6 : V'.2.2.2.2.1 = V.2.2.2.2.1)
    (w1 : RepF S' fs') (w2 : RepP S' ps) (hf : mfr [4, 8, 12, 22, 34, 46] [1, 2, 3, 4, 5, 6, 7] S S') (w3 : S'.1 22 = S.1 22) (hM : M0 V' S' ∨ M1 V' S' ∨ M2 V' S' ps) : RelB t C V' S' ps := by
  obtain ⟨⟨⟨f1, f2, f3, f4, f5, f6⟩, hW, hC⟩, ⟨hRS, hArr, r1, r2, r3, r4, r5⟩, ⟨hP, hP0⟩, hMm⟩ := h
  obtain ⟨c1, c2, c3, c4, c5, c6, c7⟩ := hC
  obtain ⟨a1, a2, a3, a4, a5, a6, ⟨l1, l2, l3⟩, a8, a9, a10, a11, a12, _⟩ := hM2
  have hop : V.2.2.2.2.1.1 = 1 := c1.resolve_left (fun q => by
    have := (c5 q).1
    rw [a1] at this
    exact absurd this (by decide))
  have s' : SrtF fs' := List.Pairwise.sublist hsub f1
  have hcn : cnw V.2.2.1.2.1 V.2.1 = V.2.1.length := by
    unfold cnw
    rw [List.filter_eq_self.mpr (fun r hr => by rw [decide_eq_false (a11 r hr)]; rfl)]
  have hdl := dby_le V.2.2.1.2.1 fs'
  have eK : ∀ q, q = 8 ∨ 17 ≤ q → S'.2 q = S.2 q := fun q hq => hf.2 q (by simp only [List.mem_cons, List.not_mem_nil, or_false]; omega)
  refine ⟨⟨⟨?_, ?_, ?_, ?_, ?_, ?_⟩, ⟨?_, ?_, ?_, ?_⟩, ?_, ?_, ?_, ?_, ?_, ?_, ?_⟩, ⟨?_, arr_fr hArr hf (fun q hq => by simp only [List.mem_cons, List.not_mem_nil, or_false]; omega), ?_, w2, ?_, ?_, ?_⟩, ⟨⟨?_, ⟨?_, ?_⟩, ?_⟩, ?_⟩, hM⟩
  · rw [e1]
    exact s'
  · intro f hf2
    rw [e1] at hf2
    rw [e2]
    exact f2 f (hsub.subset hf2)
  · rw [e1]
    have := hsub.length_le
    omega
  · rw [e2]
    exact f4
  · rw [e1, e2]
    have := totF_sub hsub
    omega
  · intro f f' h1 h2
    rw [e1] at h1 h2
    exact f6 f f' (hsub.subset h1) (hsub.subset h2)
  · rw [e3]
    exact hW.1
  · intro r hr
    rw [e3] at hr
    rw [e1]
    obtain ⟨g1, x, P, W, q1, q2⟩ := hW.2.1 r hr
    obtain ⟨m1, m2, m3⟩ := fnd_mem q1
    have := fnd_uniq s' (hkeep x m1 m3 (by rw [m2]; exact a11 r hr))
    rw [m2, m3] at this
    exact ⟨g1, x, P, W, this, q2⟩
  · rw [e3, e1, ← hcn]
    omega
  · rw [e3, e6]
    exact hW.2.2.2
  · rw [e6]
    exact c1
  · rw [e2]
    exact c2
  · rw [e6]
    exact c3
  · rw [e6, e2, e1]
    rcases c4 with z | z
    · exact Or.inl z
    · refine Or.inr ⟨z.1, fun f hf2 => ?_⟩
      obtain ⟨m1, m2, m3⟩ := fnd_mem hf2
      have := fnd_uniq f1 (hsub.subset m1)
      rw [m2, m3] at this
      exact z.2 f this
  · intro q
    rw [e6, hop] at q
    exact absurd q (by decide)
  · rw [e1]
    exact Nat.le_trans (scnt_sub hsub) c6
  · rw [e4]
    exact c7
  · obtain ⟨⟨s1, s2, s3, s4, s5, s6⟩, s7, s8, s9, s10⟩ := hRS
    unfold RelS
    rw [e2, e5, e6]
    refine ⟨⟨?_, ?_, ?_, ?_, ?_, ?_⟩, ?_, ?_, ?_, ?_⟩
    · rw [hf.1 1 (by decide)]
      exact s1
    · rw [hf.1 2 (by decide)]
      exact s2
    · rw [hf.1 24 (by decide)]
      exact s3
    · rw [hf.1 25 (by decide)]
      exact s4
    · rw [hf.1 26 (by decide)]
      exact s5
    · rw [hf.1 23 (by decide)]
      exact s6
    · rw [hf.1 19 (by decide)]
      exact s7
    · rw [hf.1 20 (by decide)]
      exact s8
    · rw [hf.1 21 (by decide)]
      exact s9
    · rw [w3]
      exact s10
  · rw [e1]
    exact w1
  · rw [e3]
    exact repR_fr r3 hf (by decide) (fun q u1 u2 => by simp only [List.mem_cons, List.not_mem_nil, or_false]; omega)
  · rw [e6]
    exact repT_fr r4 hf (by decide) (by decide)
  · rw [e6]
    exact repA_fr r5 hf (by decide) (by decide)
  · rw [e2]
    exact hP.1
  · intro p hp
    obtain ⟨g1, f, g2, g3, g4⟩ := hP.2.1.1 p hp
    obtain ⟨g5, g6⟩ := a12 p hp
    rw [e1]
    exact ⟨g1, f, hkeep f g2 (g4.trans g6) (by rw [g3]; exact g5), g3, g4⟩
  · intro f hf2
    rw [e1] at hf2
    exact hP.2.1.2 f (hsub.subset hf2)
  · intro f hf2
    rw [e1] at hf2
    exact hP.2.2 f (hsub.subset hf2)
  · rw [e6]
    exact hP0
theorem u_rem (hM : Mk m g) (h : RelB t C V S ps) (ht : t ≤ 512) (hM2 : M2 V S ps) : UG V ∧ (duV V).1.1.2.2.2.2.2 = V.1.2.2.2.2.2 ∧ ((inpL V.2.2.1.2.1 V.1.1 = [] ∧ (duV V).1.2.2.1.1 = 0) ∨ ((duV V).1.2.2.1 = V.2.2.1 ∧ ∃ v rest, inpL V.2.2.1.2.1 V.1.1 = v :: rest ∧ inpL V.2.2.1.2.1 (duV V).1.1.1 = rest)) ∧ ∀ (k : Unit → M α) (Q : α → MS → Prop), (∀ S' ps', RelB t C (duV V).1 S' ps' → S'.1 0 = S.1 0 → okM m g (k ()) S' Q) → okM m g (bd (X9_unit m) k) S Q := by
  have h0 := h
  have hM2' := hM2
  have hgi : GI V := by
    obtain ⟨⟨⟨f1, f2, f3, f4, f5, f6⟩, hW, hC⟩, ⟨hRS, hArr, r1, r2, r3, r4, r5⟩, ⟨hP, hP0⟩, hMm⟩ := h
    have hT := r1.1.2.2.1
    have pt := pcs_tot f1 hP.2.1
    refine ⟨⟨f1, fun v hv => ?_, by omega, ?_⟩, ⟨hW.1, by have := r3.1.2; omega, fun r hr => ?_⟩, r4.2.1⟩
    · have := mem_tot hv
      omega
    · have h1 := col_len ps
      rw [hP.1]
      omega
    · obtain ⟨k1, x, P, W, q1, q2, q3, q4, q5, q6⟩ := hW.2.1 r hr
      have lx := mem_tot (fnd_mem q1).1
      have cl : ∀ n, n < 2 ^ 31 → (nI n).toNatClampNeg = n := by
        intro n hn
        show (nI n).toInt.toNat = n
        rw [nI_toInt hn]
        rfl
      rw [q2, q3, cl P (by omega), cl W (by omega)]
      exact ⟨q5, nI_pos (by omega), by omega, q4⟩
  obtain ⟨a1, a2, a3, a4, a5, a6, ⟨l1, l2, l3⟩, a8, a9, a10, a11, a12, is, ni, b1, b2, b3, b4⟩ := hM2
  obtain ⟨⟨⟨f1, f2, f3, f4, f5, f6⟩, hW, hC⟩, ⟨hRS, hArr, r1, r2, r3, r4, r5⟩, ⟨hP, hP0⟩, hMm⟩ := h
  have hUG : UG V := by
    refine ⟨hgi, ?_⟩
    rw [if_neg a2]
    intro w hw
    rw [hP.1] at hw
    obtain ⟨p, p1, p2, p3⟩ := col_mem ps w hw
    obtain ⟨z1, z2⟩ := a12 p p1
    rw [p2, p3]
    exact ⟨fun z => by rw [z2] at z; exact absurd z.2 (by decide), z1⟩
  have edu : duV V = (rnV V, 0) := by
    unfold duV
    rw [if_neg a2]
  have hunit := fun (k : Unit → M α) (Q : α → MS → Prop) => m_unit (ms := []) (nl := 0) (is := is) (ni := ni) (k := k) (Q := Q) hM r1 f1 r2 r3 (fun z => absurd (a3.symm.trans z) (by decide))
  cases hq : inpL V.2.2.1.2.1 V.1.1 with
  | nil =>
    have ern : rnV V = endV V := by
      unfold rnV
      cases hfd : V.1.1.find? (fun f => decide (f.2.1 = 0)) with
      | none => rfl
      | some f =>
        dsimp only
        rw [if_neg (inp_none hq hfd)]
    have eV : (duV V).1 = sStop (sDd (vDis V.2.2.1.2.2.2.1 2 V.1) V) := by
      rw [edu, ern]
      rfl
    obtain ⟨v1, v2⟩ := vDis_files V.2.2.1.2.2.2.1 2 V.1
    have hnil : ni = is.length := by
      have := congrArg List.length (b4.trans hq)
      rw [List.length_drop, List.length_nil] at this
      omega
    refine ⟨hUG, by rw [eV]; exact congrArg (fun z => z.2.2.2) v2, Or.inl ⟨rfl, by rw [eV]; rfl⟩, fun k Q hk => hunit k Q (fun _ => ⟨⟨b1, b2, b3⟩, fun v hv => ?_, fun _ S' s1 s2 s3 s4 s5 => hk S' ps ?_ (s5.1 0 (by decide))⟩)⟩
    · have := lt_of_some hv
      omega
    · rw [a6] at s1 s2
      rw [dis_ps (fun p hp z => by rw [(a12 p hp).2] at z; exact absurd z.2 (by decide))] at s2
      rw [eV]
      refine rel_rm (fs' := disF V.2.2.1.2.2.2.1 2 V.1.1) h0 hM2' disF_sub (fun f hf k0 _ => (mem_disF f1).mpr ⟨hf, fun z => by rw [k0] at z; exact absurd z.2 (by decide)⟩) (dby_dis (fun z => absurd z.1 (by decide))) v1 v2 rfl rfl rfl rfl s1 s2 (mfr_mono s5 (by decide) (by decide)) s4 (Or.inl ⟨rfl, s3, ?_, rfl, rfl, rfl, fun _ f hf k2 => ?_⟩)
      · rw [s5.1 35 (by decide)]
        exact a4
      · have hf : f ∈ (vDis V.2.2.1.2.2.2.1 2 V.1).1 := hf
        rw [v1] at hf
        obtain ⟨z1, z2⟩ := (mem_disF f1).mp hf
        exact z2 ⟨a9 f z1 k2, k2⟩
  | cons v rest =>
    obtain ⟨f, g1, g2, g3, g4, g5⟩ := inp_first f1 hq
    have ern : rnV V = sDd (vDis v 1 (vDis v 0 V.1)) V := by
      unfold rnV
      rw [g1]
      dsimp only
      rw [g2, if_pos g3]
    have eV : (duV V).1 = sDd (vDis v 1 (vDis v 0 V.1)) V := by
      rw [edu, ern]
    obtain ⟨v1, v2⟩ := vDis_files v 0 V.1
    obtain ⟨v3, v4⟩ := vDis_files v 1 (vDis v 0 V.1)
    rw [v1] at v3
    rw [v2] at v4
    have hs2 := srt_dis (a := v) (b := 0) f1
    have ei : inpL V.2.2.1.2.1 (disF v 1 (disF v 0 V.1.1)) = rest := by
      rw [inp_dis (fun z => absurd z.1 (by decide))]
      exact g5
    have hv : is[ni]? = some v := by
      have := congrArg (fun z => z[0]?) (b4.trans hq)
      rw [List.getElem?_drop, Nat.add_zero] at this
      exact this
    have hd : is.drop (ni + 1) = rest := by
      have := congrArg List.tail (b4.trans hq)
      rw [List.tail_drop] at this
      exact this
    have hlv := lt_of_some hv
    refine ⟨hUG, by rw [eV]; exact congrArg (fun z => z.2.2.2) v4, Or.inr ⟨by rw [eV]; rfl, v, rest, rfl, ?_⟩, fun k Q hk => hunit k Q (fun _ => ⟨⟨b1, b2, b3⟩, fun v' hv' S' s1 s2 s3 s4 s5 => hk S' ps ?_ (s5.1 0 (by decide)), fun z => ?_⟩)⟩
    · rw [eV]
      show inpL _ (vDis v 1 (vDis v 0 V.1)).1 = rest
      rw [v3]
      exact ei
    · rw [hv] at hv'
      cases hv'
      have nop : ∀ b p, p ∈ ps → ¬ (p.1 = v ∧ p.2.1 = b) := fun b p hp z => (a12 p hp).1 (by rw [z.1]; exact g3)
      rw [dis_ps (nop 0), dis_ps (nop 1)] at s2
      rw [eV]
      refine rel_rm (fs' := disF v 1 (disF v 0 V.1.1)) h0 hM2' (disF_sub.trans disF_sub) (fun f hf k0 hl => ?_) ?_ v3 v4 rfl rfl rfl rfl s1 s2 (mfr_mono s5 (by decide) (by decide)) s4 (Or.inr (Or.inr ?_))
      · refine (mem_disF hs2).mpr ⟨(mem_disF f1).mpr ⟨hf, fun z => hl (by rw [z.1]; exact g3)⟩, fun z => hl (by rw [z.1]; exact g3)⟩
      · rw [dby_dis (fun z => absurd z.1 (by decide)), dby_dis (fun z => z.2 g3)]
      · refine ⟨a1, a2, by rw [s5.1 34 (by decide)]; exact a3, by rw [s5.1 35 (by decide)]; exact a4, a5, by rw [s5.1 47 (by decide)]; exact a6, ⟨⟨l1.1, ?_⟩, l2, ?_⟩, ⟨a8.1, ?_⟩, fun f hf k2 => ?_, a10, a11, a12, is, ni + 1, repI_fr b1 s5 (by decide) (by decide), s3, by omega, ?_⟩
        · show _ ≤ (vDis v 1 (vDis v 0 V.1)).2.2.2.2.2.toInt
          rw [v4]
          exact l1.2
        · show 15 * cnw V.2.2.1.2.1 V.2.1 ≤ dby V.2.2.1.2.1 (vDis v 1 (vDis v 0 V.1)).1
          rw [v3, dby_dis (fun z => absurd z.1 (by decide)), dby_dis (fun z => z.2 g3)]
          exact l3
        · show _ < (vDis v 1 (vDis v 0 V.1)).2.2.2.2.2.toInt
          rw [v4]
          exact a8.2
        · have hf : f ∈ (vDis v 1 (vDis v 0 V.1)).1 := hf
          rw [v3] at hf
          exact a9 f ((mem_disF f1).mp ((mem_disF hs2).mp hf).1).1 k2
        · show is.drop (ni + 1) = inpL V.2.2.1.2.1 (vDis v 1 (vDis v 0 V.1)).1
          rw [v3, hd]
          exact ei.symm
    · omega
end
