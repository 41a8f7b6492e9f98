/-! class and reference: the opening -/
section
variable {m : Nat} {g : Gh} {S : MS} {α : Type} {t : Nat} {V : VC} {ps : List AV}
theorem dlH_srt (V : VC) (hS : SrtF V.1.1) : (dlH V.1.1.length V).1.1 = V.1.1.filter (kpH V.1.1) := by
  have := (dlH_eq V.1.1.length V (Nat.le_refl _) hS).1
  rw [this, List.take_length, List.drop_length, List.append_nil]
theorem obM_no : ∀ (t : Nat) (V : VC), SrtF V.1.1 → (∀ f f', f ∈ V.1.1 → f' ∈ V.1.1 → f.2.1 = 2 → f'.2.1 = 2 → f.1 = f'.1) → V.1.1.length ≤ t → ∀ f, f ∈ (obM t V).1.1 → ¬ f.2.1 = 2
  | 0, V, _, _, hl, f, hf => by
    have : V.1.1 = [] := List.length_eq_zero_iff.mp (by omega)
    have hf : f ∈ V.1.1 := hf
    rw [this] at hf
    cases hf
  | t + 1, V, hS, hone, hl, f, hf => by
    unfold obM at hf
    cases hfd : V.1.1.find? (fun f => decide (f.2.1 = 2)) with
    | none =>
      rw [hfd] at hf
      exact of_decide_eq_false (find_no V.1.1 hfd f hf)
    | some x =>
      rw [hfd] at hf
      obtain ⟨p, hp, hx, _⟩ := find_idx _ _ hfd
      have hx2 : x.2.1 = 2 := of_decide_eq_true hx
      have srtN : ∀ (q z : Nat) (W : VC), SrtF W.1.1 → SrtF (opN x.2.2.1 q z W).1.1 := by
        intro q
        induction q with
        | zero => intro z W hW; exact hW
        | succ q iq =>
          intro z W hW
          exact iq (z + 4) _ (by rw [opDis_files, opDis_files]; exact srt_dis (srt_dis hW))
      have key : ∀ W : VC, SrtF W.1.1 → (∀ y, y ∈ W.1.1 → y ∈ V.1.1) → f ∈ (obM t (opDis x.1 2 W)).1.1 → ¬ f.2.1 = 2 := by
        intro W hW hsub h2 c
        have hd : SrtF (opDis x.1 2 W).1.1 := by
          rw [opDis_files]
          exact srt_dis hW
        have h3 := (obM_mem (x := f) t _ hd).1 h2
        rw [opDis_files] at h3
        obtain ⟨q1, q2⟩ := (mem_disF hW).mp h3
        exact q2 ⟨hone f x (hsub f q1) (List.mem_of_getElem? hp) c hx2, c⟩
      dsimp only at hf
      cases hg : gmk x.2.2.1 with
      | true =>
        rw [hg] at hf
        exact key _ (srtN _ _ _ hS) (fun y hy => opN_mem _ _ _ hS hy) hf
      | false =>
        rw [hg] at hf
        exact key V hS (fun y hy => hy) hf
theorem opN_sub (l : List Int32) : ∀ (m i : Nat) (V : VC), (opN l m i V).1.1.Sublist V.1.1
  | 0, _, _ => List.Sublist.refl _
  | m + 1, i, V => by
    have h := opN_sub l m (i + 4) (opDis (bnm l (nI i)) 1 (opDis (bnm l (nI i)) 0 V))
    rw [opDis_files, opDis_files] at h
    exact h.trans (disF_sub.trans disF_sub)
theorem obM_sub : ∀ (t : Nat) (V : VC), (obM t V).1.1.Sublist V.1.1
  | 0, _ => List.Sublist.refl _
  | t + 1, V => by
    unfold obM
    split
    · exact List.Sublist.refl _
    · rename_i f _
      have h := obM_sub t (opDis f.1 2 (match gmk f.2.2.1 with
        | true => opN f.2.2.1 ((f.2.2.1.length - 8) / 4) 4 V
        | false => V))
      rw [opDis_files] at h
      cases hg : gmk f.2.2.1 with
      | true =>
        rw [hg] at h
        exact h.trans (disF_sub.trans (opN_sub _ _ _ _))
      | false =>
        rw [hg] at h
        exact h.trans disF_sub
/-- before the files are read -/
theorem oC_inv (h : Rel t V S ps) (hop : V.2.2.2.2.1.1 = 0) : OIv V.1.1 (scnt V.1.1) (oA V) 0 (oC V) ∧ (∀ f, f ∈ (oC V).1.1 → f.2.1 = 0 ∨ f.2.1 = 1) := by
  obtain ⟨⟨⟨f1, f2, f3, f4, f5, f6⟩, hW, hC⟩, ⟨hRS, hArr, r1, r2, r3, r4, r5⟩, ⟨hP, hP0⟩, hMm⟩ := h
  have hT := r1.1.2.2.1
  have sB : SrtF (oB V).1.1 := (obM_mem (x := (0, 0, [], 0, 0)) (oA V).1.1.length (oA V) f1).2
  have subB : (oB V).1.1.Sublist V.1.1 := obM_sub (oA V).1.1.length (oA V)
  have noB : ∀ f, f ∈ (oB V).1.1 → ¬ f.2.1 = 2 := obM_no (oA V).1.1.length (oA V) f1 f6 (Nat.le_refl _)
  have eC : (oC V).1.1 = (oB V).1.1.filter (kpH (oB V).1.1) := dlH_srt (oB V) sB
  have subC : (oC V).1.1.Sublist (oB V).1.1 := by
    rw [eC]
    exact List.filter_sublist
  have sub := subC.trans subB
  have rB := obM_rest (oA V).1.1.length (oA V)
  obtain ⟨_, c2, _⟩ := dlH_eq (oB V).1.1.length (oB V) (Nat.le_refl _) sB
  have c2 : (oC V).2 = _ := c2
  have rows : (oC V).2.1 = [] := by
    rw [c2]
    exact rB.1
  have st : (oC V).2.2.2.1.2.2.2.2 = 0 := by
    rw [c2]
    exact rB.2
  have kinds : ∀ f, f ∈ (oC V).1.1 → f.2.1 = 0 ∨ f.2.1 = 1 := by
    intro f hf
    rcases (f2 f (sub.subset hf)).1 with q | q | q
    · exact Or.inl q
    · exact Or.inr q
    · exact absurd q (noB f (subC.subset hf))
  refine ⟨⟨⟨List.Pairwise.sublist sub f1, by rw [rows]; exact List.Pairwise.nil, ?_, fun y hy => ⟨y, sub.subset hy, rfl, rfl, Nat.le_refl _, rfl⟩, fun y hy => (f2 y (sub.subset hy)).2.2⟩, fun r hr => ?_, ⟨?_, ?_⟩, scnt_sub sub, ?_, ks_tr (ks_obM _ _) (ks_dlH _ _)⟩, kinds⟩
  · rw [List.drop_zero]
    refine hd_of (List.Pairwise.sublist sub f1) kinds (fun f hf hf1 => ?_)
    rw [eC] at hf
    obtain ⟨g1, g2⟩ := List.mem_filter.mp hf
    unfold kpH at g2
    rw [decide_eq_true hf1, Bool.true_and] at g2
    cases hfn : fndF f.1 0 (oB V).1.1 with
    | none =>
      rw [hfn] at g2
      cases g2
    | some d =>
      obtain ⟨d1, d2, d3⟩ := fnd_mem hfn
      refine ⟨d, ?_, d2, d3⟩
      rw [eC]
      refine List.mem_filter.mpr ⟨d1, ?_⟩
      unfold kpH
      rw [decide_eq_false (by rw [d3]; decide), Bool.false_and]
      rfl
  · rw [rows] at hr
    cases hr
  · rw [rows, List.drop_zero, List.length_nil]
    omega
  · have := totF_sub sub
    exact ⟨this, hT⟩
  · unfold st6
    rw [st]
    decide
theorem open_ok (h : Rel t V S ps) (hop : V.2.2.2.2.1.1 = 0) : rdOK (oC V).1.1.length 0 (oC V) := by
  obtain ⟨⟨⟨o1, o2, o3, o4, o5⟩, o6, ⟨o7, o8, o8'⟩, _⟩, _⟩ := oC_inv h hop
  have rows : 15 * (oC V).2.1.length ≤ 0 := by
    rw [List.drop_zero] at o7
    omega
  refine rdOK_of _ _ 0 (oC V) (Nat.le_refl _) o1 o2 o3 (fun v hv => ?_) (by rw [List.drop_zero]; omega)
  have := mem_tot hv
  omega
theorem oD_inv (h : Rel t V S ps) (hop : V.2.2.2.2.1.1 = 0) : OIv V.1.1 (scnt V.1.1) (oA V) (oD V).1.1.length (oD V) := oiv_rd _ _ 0 (oC V) (Nat.le_refl _) (Nat.zero_le _) (by omega) (oC_inv h hop).1
/-- the kinds stay -/
theorem rd_kind {B : List AF} {n0 : Nat} {V0 W : VC} {k : Nat} (h : OIv B n0 V0 k W) (hB : ∀ x, x ∈ B → ¬ x.2.1 = 2) : ∀ y, y ∈ W.1.1 → ¬ y.2.1 = 2 := by
  intro y hy
  obtain ⟨x, x1, x2, x3, _⟩ := h.1.2.2.2.1 y hy
  rw [x3]
  exact hB x x1
theorem oD_kind (h : Rel t V S ps) (hop : V.2.2.2.2.1.1 = 0) : ∀ y, y ∈ (oD V).1.1 → ¬ y.2.1 = 2 := by
  obtain ⟨h1, h2⟩ := oC_inv h hop
  have h3 : OIv (oC V).1.1 (scnt V.1.1) (oA V) 0 (oC V) := ⟨⟨h1.1.1, h1.1.2.1, h1.1.2.2.1, fun y hy => ⟨y, hy, rfl, rfl, Nat.le_refl _, rfl⟩, h1.1.2.2.2.2⟩, h1.2.1, ⟨h1.2.2.1.1, Nat.le_refl _, Nat.le_trans h1.2.2.1.2.1 h1.2.2.1.2.2⟩, h1.2.2.2⟩
  have h4 := oiv_rd (B := (oC V).1.1) _ (oC V).1.1.length 0 (oC V) (Nat.le_refl _) (Nat.zero_le _) (by omega) h3
  refine rd_kind h4 (fun x hx c => ?_)
  rcases h2 x hx with q | q
  · rw [q] at c
    exact absurd c (by decide)
  · rw [q] at c
    exact absurd c (by decide)
theorem r_open {k : Int32 → M α} {Q : α → MS → Prop} (hM : Mk m g) (h : Rel t V S ps) (ht : t ≤ 512) (hk : ∀ S' ps', Rel (t + 1) (sOpen V).2.1 S' ps' → S'.1 0 = th2 (fun _ => 1) (sOpen V).1 → okM m g (k (vl (sOpen V).1)) S' Q) : okM m g (bd (X9_open m) k) S Q := by
  have h0 := h
  have e23 := h.2.1.1.1.2.2.2.2.2
  unfold sOpen at hk
  by_cases hop : V.2.2.2.2.1.1 = 0
  · rw [if_pos hop] at hk
    obtain ⟨⟨o1, o2, o3, o4, o5⟩, o6, ⟨o7, o8, o8'⟩, o9, o10, o11, o12, o13⟩ := oD_inv h hop
    have okd := oD_kind h hop
    obtain ⟨⟨⟨f1, f2, f3, f4, f5, f6⟩, hW, hC⟩, ⟨hRS, hArr, r1, r2, r3, r4, r5⟩, ⟨hP, hP0⟩, hMm⟩ := h
    have hps := hP0 hop
    subst hps
    have hT := r1.1.2.2.1
    refine m_open (V := V) hM r1 (fun _ => r2) f1 r3.2.1 hArr.2.2.2 (fun f hf => ?_) (fun f hf => (f2 f hf).1) f6 (fun r hr => (o6 r hr).1.2.2.1) (fun c => absurd (e23.trans hop) c) (fun _ S' hO hf => ?_)
    · have := (f2 f hf).2.1
      have := hC.2.1
      omega
    · obtain ⟨p1, p2, p3, ⟨p4, p5, p6, p7⟩, ⟨p8, p9, p10, p11, p12, p13, p14⟩, p15⟩ := hO
      have eFn : (oF V).1.1 = (oD V).1.1 := rfl
      have e122 : (oF V).1.2.2 = ([], V.1.2.2.2.1, V.1.2.2.2.2.1, nxN V.1.1) := by
        have : (oF V).1.2.2 = (oA V).1.2.2 := o11
        rw [this]
        have har : V.1.2.2.1 = [] := hP.1
        show (V.1.2.2.1, _, _, _) = _
        rw [har]
      have eM : (oF V).2.2.1 = (0, 0, -1, -1, V.2.2.1.2.2.2.2.1, 0, V.2.2.1.2.2.2.2.2.2) := by
        have : (oF V).2.2.1 = (oA V).2.2.1 := o12
        rw [this]
        rfl
      have eK4 : (oF V).2.2.2.2.1 = (1, -1, (oD V).2.2.2.1.2.2.2.2 + 1, V.2.2.2.2.1.2.2.2.1, V.2.2.2.2.1.2.2.2.2) := by
        have e : (oF V).2.2.2.2.1 = (1, (oD V).2.2.2.2.1.2.1, (oD V).2.2.2.1.2.2.2.2 + 1, (oD V).2.2.2.2.1.2.2.2.1, (oD V).2.2.2.2.1.2.2.2.2) := rfl
        rw [e, o13]
        rfl
      have erows : (oF V).2.1 = (oD V).2.1.filter (fun r => decide (r.2.2.2.1 ≠ -1)) := rfl
      have nxb : 1 ≤ (nxN V.1.1).toInt ∧ (nxN V.1.1).toInt ≤ V.1.2.2.2.2.2.toInt ∧ ∀ y, y ∈ V.1.1 → y.1.toInt < (nxN V.1.1).toInt := by
        have hnx := hC.2.1
        rcases List.eq_nil_or_concat V.1.1 with q | ⟨l, x, q⟩
        · rw [q]
          refine ⟨by decide, ?_, fun y hy => (by cases hy)⟩
          show (1 : Int32).toInt ≤ _
          rw [li1]
          exact hnx.1
        · rw [List.concat_eq_append] at q
          have hx : x ∈ V.1.1 := by
            rw [q]
            exact List.mem_append_right _ List.mem_cons_self
          have hx2 := (f2 x hx).2.1
          rw [q, nxN_snoc, i_p1 (by omega)]
          refine ⟨by omega, by omega, fun y hy => ?_⟩
          rcases List.mem_append.mp hy with z | z
          · have hs := f1
            rw [q] at hs
            have := (List.pairwise_append.mp hs).2.2 y z x List.mem_cons_self
            simp only [Int32.lt_iff_toInt_lt] at this
            rcases this with w | w
            · omega
            · rw [w.1]
              omega
          · rw [List.mem_singleton] at z
            rw [z]
            omega
      have len2 : (oD V).1.1.length ≤ 2048 := by
        have h1 := scnt_len (oD V).1.1
        have h2 := hC.2.2.2.2.2.1
        omega
      have hl15 : 15 * (oF V).2.1.length ≤ totF (oD V).1.1 := by
        rw [erows]
        have := List.length_filter_le (fun r : AR => decide (r.2.2.2.1 ≠ -1)) (oD V).2.1
        omega
      refine hk S' [] ⟨⟨⟨o1, fun y hy => ?_, len2, ?_, ?_, fun y y' h1 _ k1 _ => absurd k1 (okd y h1)⟩, ⟨?_, fun r hr => ?_, hl15, ?_⟩, ⟨?_, ?_, ?_, ?_, ?_, ?_, ?_⟩⟩, ⟨⟨⟨?_, ?_, ?_, p9, ?_, ?_⟩, p4, p5, p6, p7⟩, ⟨?_, ?_, ?_, p15⟩, p1, p2, p3, ?_, ?_⟩, ⟨?_, fun _ => rfl⟩, Or.inl ?_⟩ p14
      · obtain ⟨x, x1, x2, x3, x4, _⟩ := o4 y hy
        obtain ⟨q1, q2, q3⟩ := f2 x x1
        show _ ∧ (1 ≤ y.1.toInt ∧ y.1.toInt < (oF V).1.2.2.2.2.2.toInt) ∧ _
        rw [e122, x2, x3]
        exact ⟨q1, ⟨q2.1, nxb.2.2 x x1⟩, o5 y hy⟩
      · show 128 ≤ (oF V).1.2.2.2.1.toInt ∧ (oF V).1.2.2.2.1.toInt ≤ 16384 ∧ 128 ≤ (oF V).1.2.2.2.2.1.toInt ∧ (oF V).1.2.2.2.2.1.toInt ≤ 4096
        rw [e122]
        exact f4
      · show ((totF (oD V).1.1 : Nat) : Int) ≤ (oF V).1.2.2.2.1.toInt
        rw [e122]
        show _ ≤ V.1.2.2.2.1.toInt
        omega
      · show SrtR (oF V).2.1
        rw [erows]
        exact List.Pairwise.sublist List.filter_sublist o2
      · have hr : r ∈ (oF V).2.1 := hr
        rw [erows] at hr
        obtain ⟨z1, z2⟩ := List.mem_filter.mp hr
        have z2 := of_decide_eq_true z2
        obtain ⟨⟨w1, w2, w3, w4⟩, j, x, P, w5, w6, w7, w8, w9, w10⟩ := o6 r z1
        have hv : r.2.2.2.1 = nI r.2.2.2.1.toNatClampNeg := by
          refine nI_cl (fun q => z2 ?_)
          rw [Int32.lt_iff_toInt_lt, Int32.toInt_zero] at q
          rw [Int32.lt_iff_toInt_lt, lim1] at w3
          apply Int32.toInt_inj.mp
          rw [lim1]
          omega
        have hx := fnd_uniq o1 (List.mem_of_getElem? w6)
        rw [w7, w8] at hx
        exact ⟨w1, x, P, r.2.2.2.1.toNatClampNeg, hx, w9, hv, w4, w2, w10⟩
      · intro q
        have q : (oF V).2.2.2.2.1.1 = 0 := q
        rw [eK4] at q
        have q : (1 : Int32) = 0 := q
        exact absurd q (by decide)
      · show (oF V).2.2.2.2.1.1 = 0 ∨ (oF V).2.2.2.2.1.1 = 1
        rw [eK4]
        exact Or.inr rfl
      · show 1 ≤ (oF V).1.2.2.2.2.2.toInt ∧ (oF V).1.2.2.2.2.2.toInt ≤ 1 + 1300 * ((t + 1 : Nat) : Int)
        rw [e122]
        have := hC.2.1
        show 1 ≤ (nxN V.1.1).toInt ∧ (nxN V.1.1).toInt ≤ _
        omega
      · show 1 ≤ (oF V).2.2.2.2.1.2.2.1.toInt ∧ (oF V).2.2.2.2.1.2.2.1.toInt ≤ 1000000001
        rw [eK4]
        show 1 ≤ ((oD V).2.2.2.1.2.2.2.2 + 1).toInt ∧ ((oD V).2.2.2.1.2.2.2.2 + 1).toInt ≤ 1000000001
        unfold st6 at o10
        rw [i_p1 (by omega)]
        omega
      · show (oF V).2.2.2.2.1.2.1 = -1 ∨ _
        rw [eK4]
        exact Or.inl rfl
      · intro q
        have q : (oF V).2.2.2.2.1.1 = 0 := q
        rw [eK4] at q
        have q : (1 : Int32) = 0 := q
        exact absurd q (by decide)
      · show scnt (oD V).1.1 ≤ t + 1
        have := hC.2.2.2.2.2.1
        omega
      · show (oF V).2.2.1.2.2.2.2.2.2.length ≤ 8900
        rw [eM]
        exact hC.2.2.2.2.2.2
      · show S'.1 1 = (oF V).1.2.2.2.1
        rw [e122, hf.1 1 (by decide)]
        exact hRS.1.1
      · show S'.1 2 = (oF V).1.2.2.2.2.1
        rw [e122, hf.1 2 (by decide)]
        exact hRS.1.2.1
      · show S'.1 24 = (oF V).1.2.2.2.2.2
        rw [e122]
        exact p8
      · show S'.1 26 = (oF V).2.2.2.2.1.2.1
        rw [eK4]
        exact p10
      · show S'.1 23 = (oF V).2.2.2.2.1.1
        rw [eK4]
        exact p13
      · exact drOk_fr hArr.1 hf (by decide)
      · unfold lLen
        rw [hf.2 17 (by decide), hf.2 18 (by decide), hf.2 19 (by decide), hf.2 20 (by decide)]
        exact hArr.2.1
      · unfold oLen
        rw [hf.2 22 (by decide), hf.2 23 (by decide), hf.2 24 (by decide), hf.2 25 (by decide), hf.2 26 (by decide)]
        exact hArr.2.2.1
      · show RepT S' (oF V).2.2.2.2.1.2.2.2.1
        rw [eK4]
        exact repT_fr r4 hf (by decide) (by decide)
      · show RepA S' (oF V).2.2.2.2.1.2.2.2.2
        rw [eK4]
        exact repA_fr r5 hf (by decide) (by decide)
      · show PRel (oD V).1.1 (oF V).1.2.2.1 []
        rw [e122]
        refine prel_nil (fun y hy => ?_)
        obtain ⟨x, x1, _, _, _, x5⟩ := o4 y hy
        rw [x5, hP.2.2 x x1]
        rfl
      · unfold M0
        show (oF V).2.2.1.1 = 0 ∧ _
        rw [eM]
        exact ⟨rfl, p11, p12, rfl, rfl, rfl, fun _ f hf => okd f hf⟩
  · rw [if_neg hop] at hk
    refine oM_bd ?_
    unfold X9_open
    refine oM_gI hM (oM_itF (by rw [e23]; exact hop) ?_)
    unfold X9_open_b13
    exact oM_pI hM (oM_gI hM (oM_itF (show ¬ (1 : Int32) ≤ 0 by decide) (oM_pu (hk _ ps (rel_t (rel_0 h) (by omega)) rfl))))
end
