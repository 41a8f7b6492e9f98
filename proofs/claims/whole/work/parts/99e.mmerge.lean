/-! the reference: a merge begins, its units, its steps -/
def dNum (fs : List AF) : List Int32 := (fs.filter (fun f => decide (f.2.1 = 0))).map (fun f => f.1)
theorem insA_mem {r x : AR} {ms : List AR} : x ∈ insA r ms ↔ x = r ∨ x ∈ ms := by
  unfold insA
  have e := List.take_append_drop (posT ms r ms.length) ms
  constructor
  · intro h
    rcases List.mem_append.mp h with q | q
    · exact Or.inr (List.mem_of_mem_take q)
    · rcases List.mem_cons.mp q with q | q
      · exact Or.inl q
      · exact Or.inr (List.mem_of_mem_drop q)
  · intro h
    rcases h with q | q
    · rw [q]
      exact List.mem_append_right _ List.mem_cons_self
    · rw [← e] at q
      rcases List.mem_append.mp q with q | q
      · exact List.mem_append_left _ q
      · exact List.mem_append_right _ (List.mem_cons_of_mem _ q)
theorem srtA_mem0 {x : AR} : ∀ (rs ms : List AR), x ∈ rs.foldl (fun ms r => insA r ms) ms ↔ x ∈ rs ∨ x ∈ ms
  | [], ms => ⟨Or.inr, fun h => h.elim (fun q => by cases q) id⟩
  | r :: rs, ms => by
    rw [List.foldl_cons, srtA_mem0 rs (insA r ms), insA_mem, List.mem_cons]
    constructor
    · rintro (q | q | q)
      · exact Or.inl (Or.inr q)
      · exact Or.inl (Or.inl q)
      · exact Or.inr q
    · rintro ((q | q) | q)
      · exact Or.inr (Or.inl q)
      · exact Or.inl q
      · exact Or.inr (Or.inr q)
theorem srtA_mem {x : AR} {rs : List AR} : x ∈ srtA rs ↔ x ∈ rs := by
  unfold srtA
  rw [srtA_mem0]
  exact ⟨fun h => h.elim id (fun q => by cases q), Or.inl⟩
theorem plR_self {rs : List AR} {i : Nat} {r : AR} (hS : SrtR rs) (h : rs[i]? = some r) : plR r.1 rs = i := by
  refine plR_eq (Nat.le_of_lt (lt_of_some h)) (fun j x hj hx => srtR_get hS hx h hj) (fun x hx => ?_)
  rw [h] at hx
  cases hx
  rw [csg_refl]
  omega
theorem srtR_mem {rs : List AR} {r : AR} (hS : SrtR rs) (h : r ∈ rs) : rs[plR r.1 rs]? = some r := by
  obtain ⟨i, hi⟩ := List.mem_iff_getElem?.mp h
  rw [plR_self hS hi]
  exact hi
section
variable {m : Nat} {g : Gh} {S : MS} {α : Type} {rs ms os : List AR} {fs : List AF} {ps : List AV}
theorem dNum_cons {i : Nat} {f : AF} (h : fs[i]? = some f) : dNum (fs.drop i) = (if f.2.1 = 0 then [f.1] else []) ++ dNum (fs.drop (i + 1)) := by
  rw [drop_cons h]
  unfold dNum
  rw [List.filter_cons]
  by_cases c : f.2.1 = 0
  · rw [if_pos (decide_eq_true c), if_pos c]
    rfl
  · rw [if_neg (fun q => c (of_decide_eq_true q)), if_neg c]
    rfl
theorem dNum_take {i : Nat} {f : AF} (h : fs[i]? = some f) : dNum (fs.take (i + 1)) = dNum (fs.take i) ++ (if f.2.1 = 0 then [f.1] else []) := by
  rw [take_snoc h]
  unfold dNum
  rw [List.filter_append, List.map_append]
  congr 1
  by_cases c : f.2.1 = 0
  · rw [List.filter_cons, if_pos (decide_eq_true c), if_pos c]
    rfl
  · rw [List.filter_cons, if_neg (fun q => c (of_decide_eq_true q)), if_neg c]
    rfl
theorem dNum_len : (dNum fs).length ≤ fs.length := by
  unfold dNum
  rw [List.length_map]
  exact List.length_filter_le _ _
/-- the need, when it begins -/
def needM (S : MS) (fs : List AF) (rs : List AR) : Int32 := nedS (S.1 2) (srtA rs) (8 + 4 * nI (dNum fs).length) 0 0
def Begun (S S' : MS) (fs : List AF) (rs : List AR) : Prop := RepL S' (srtA rs) ∧ RepI S' (dNum fs) ∧ (S'.1 0 = 0 ∧ S'.1 43 = nI 0 ∧ S'.1 36 = needM S fs rs ∧ S'.1 26 = -1 ∧ S'.1 34 = 1 ∧ S'.1 35 = -1 ∧ S'.1 53 = 0 ∧ S'.1 37 = 0 ∧ S'.1 46 = 0) ∧ mfr [0, 26, 34, 35, 36, 37, 42, 43, 45, 46, 53] [17, 18, 19, 20, 21] S S'
theorem m_mergeBegin {k : Int32 → M α} {Q : α → MS → Prop} (hM : Mk m g) (hF : RepF S fs) (hR : RepR S rs) (hSR : SrtR rs) (hL : lLen S) (h21 : (S.2 21).length = 4200)
    (h1 : (S.1 23 = 0 ∨ 0 < S.1 34) → okM m g (k 0) (upI S 0 1) Q) (h2 : ¬ (S.1 23 = 0 ∨ 0 < S.1 34) → dNum fs = [] → okM m g (k 0) (upI S 0 0) Q)
    (h3 : ¬ (S.1 23 = 0 ∨ 0 < S.1 34) → dNum fs ≠ [] → S.1 1 - S.1 4 < needM S fs rs → ∀ S', S'.1 0 = 2 → lLen S' → (S'.2 21).length = 4200 → mfr [0, 36, 42, 43, 45] [17, 18, 19, 20, 21] S S' → okM m g (k 0) S' Q)
    (h4 : ¬ (S.1 23 = 0 ∨ 0 < S.1 34) → dNum fs ≠ [] → ¬ S.1 1 - S.1 4 < needM S fs rs → ∀ S', Begun S S' fs rs → okM m g (k (ulM S' rs (srtA rs) 0)) S' Q) : okM m g (bd (X9_mergeBegin m) k) S Q := by
  refine oM_bd ?_
  unfold X9_mergeBegin X9_mergeBegin_b15
  have hl := hF.1.2.2.2
  have bad : (S.1 23 = 0 ∨ 0 < S.1 34) → okM m g (X9_mergeBegin_b20 m 1 m) S (fun v S1 => okM m g (k v) S1 Q) := by
    intro c
    unfold X9_mergeBegin_b20
    refine oM_pI hM (oM_gI hM ?_)
    exact oM_itF (show ¬ (1 : Int32) ≤ 0 by decide) (oM_pu (h1 c))
  refine oM_gI hM ?_
  by_cases c0 : S.1 23 = 0
  · exact oM_itT c0 (bad (Or.inl c0))
  refine oM_itF c0 (oM_gI hM ?_)
  by_cases c1' : ¬ S.1 34 ≤ 0
  · exact oM_itF c1' (bad (Or.inr (Int32.not_le.mp c1')))
  have c1 : S.1 34 ≤ 0 := Classical.not_not.mp c1'
  refine oM_itT c1 ?_
  have cc : ¬ (S.1 23 = 0 ∨ 0 < S.1 34) := fun q => q.elim c0 (fun q => absurd c1 (Int32.not_le.mpr q))
  unfold X9_mergeBegin_b20
  refine oM_pI hM (oM_gI hM (oM_itT (show (0 : Int32) ≤ 0 by decide) ?_))
  have f0 : mfr [0] [] S (upI S 0 0) := mfr_I (by decide)
  generalize hT : upI S 0 0 = T at *
  have T0 : T.1 0 = 0 := by rw [← hT]; rfl
  have TF : RepF T fs := repF_fr hF f0 (by decide) (by decide) (by decide) (by decide) (by decide) (by decide)
  have loop2 : ∀ (w i : Nat) (T2 : MS), fs.length - i < w → i ≤ fs.length → RepI T2 (dNum (fs.take i)) → mfr [45] [21] T T2 → okM m g (X9_mergeBegin_b80 w m (nI i)) T2 (fun v S1 => dNum fs ≠ [] → okM m g (k v) S1 Q) := by
    intro w
    induction w with
    | zero => intro i T2 h; omega
    | succ w ih =>
      intro i T2 hw hi I2 f2
      show okM m g (X9_mergeBegin_b80b (X9_mergeBegin_b80 w) m (nI i)) T2 _
      unfold X9_mergeBegin_b80b X9_mergeBegin_b125
      have F2 : RepF T2 fs := repF_fr TF f2 (by decide) (by decide) (by decide) (by decide) (by decide) (by decide)
      refine oM_gI hM ?_
      rw [F2.1.1]
      by_cases c : i < fs.length
      · obtain ⟨f, hf⟩ := some_of_lt c
        obtain ⟨n1, n2, n3⟩ := rf_n F2 hf
        have dt := dNum_take hf
        have dl := dNum_len (fs := fs.take i)
        rw [List.length_take] at dl
        refine oM_itF (nI_ge c (by omega)) (oM_gR hM (oM_al (q := 3) hM rfl n2 ?_))
        by_cases d : f.2.1 = 0
        · rw [if_pos d] at dt
          refine oM_itT d (oM_gR hM (oM_gI hM (oM_gR hM (oM_al (q := 2) hM rfl n1 (oM_as (q := 21) (i := (dNum (fs.take i)).length) hM I2.1.1 ?_ (oM_gI hM (oM_pI hM ?_)))))))
          · rw [I2.2.1]
            omega
          · rw [nI_1]
            refine ih (i + 1) _ (by omega) (by omega) ?_ (mfr_tr f2 (mfr_tr (mfr_A (by decide)) (mfr_I (by decide))))
            rw [dt]
            refine ⟨⟨?_, ?_⟩, ?_, ?_⟩
            · show T2.1 45 + 1 = _
              rw [I2.1.1, nI_1, List.length_append]
              rfl
            · rw [List.length_append, List.length_singleton]
              omega
            · show ((T2.2 21).set _ _).length = _
              rw [List.length_set]
              exact I2.2.1
            · rw [List.length_append, List.length_singleton]
              exact take_snoc_set I2.2.2 (by rw [I2.2.1]; omega)
        · rw [if_neg d, List.append_nil] at dt
          refine oM_itF d ?_
          rw [nI_1]
          refine ih (i + 1) T2 (by omega) (by omega) ?_ f2
          rw [dt]
          exact I2
      · have ei : i = fs.length := by omega
        subst ei
        rw [List.take_length] at I2
        have R2 : RepR T2 rs := repR_fr (repR_fr hR f0 (by decide) (fun q _ _ => List.not_mem_nil)) f2 (by decide) (fun q u1 u2 => by simp only [List.mem_cons, List.not_mem_nil, or_false]; omega)
        have L2 : lLen T2 := by
          unfold lLen
          rw [f2.2 17 (by decide), f2.2 18 (by decide), f2.2 19 (by decide), f2.2 20 (by decide), f0.2 17 (by decide), f0.2 18 (by decide), f0.2 19 (by decide), f0.2 20 (by decide)]
          exact hL
        refine oM_itT (nI_le (Nat.le_refl _) (by omega)) (oM_ck hM (m_takesLive hM L2 R2 (fun T3 L3 e43 f3 => oM_ck hM ?_)))
        have R3 : RepR T3 rs := repR_fr R2 f3 (by decide) (fun q u1 u2 => by simp only [List.mem_cons, List.not_mem_nil, or_false]; omega)
        have e45 : T3.1 45 = nI (dNum fs).length := (f3.1 45 (by decide)).trans I2.1.1
        have e2 : T3.1 2 = S.1 2 := by rw [f3.1 2 (by decide), f2.1 2 (by decide), f0.1 2 (by decide)]
        refine m_needed hM L3 R3 (fun r hr => srtR_mem hSR (srtA_mem.mp hr)) (oM_pI hM (oM_ck hM (m_room hM (oM_gI hM ?_))))
        have en : nedS (T3.1 2) (srtA rs) (8 + 4 * T3.1 45) 0 0 = needM S fs rs := by
          unfold needM
          rw [e45, e2]
        rw [en]
        have rm : (upI T3 36 (needM S fs rs)).1 1 - (upI T3 36 (needM S fs rs)).1 4 = S.1 1 - S.1 4 := by
          show T3.1 1 - T3.1 4 = _
          rw [f3.1 1 (by decide), f2.1 1 (by decide), f0.1 1 (by decide), f3.1 4 (by decide), f2.1 4 (by decide), f0.1 4 (by decide)]
        rw [rm]
        have f9 : mfr [0, 36, 42, 43, 45] [17, 18, 19, 20, 21] S (upI T3 36 (needM S fs rs)) := mfr_tr (mfr_mono f0 (by decide) (by decide)) (mfr_tr (mfr_mono f2 (by decide) (by decide)) (mfr_tr (mfr_mono f3 (by decide) (by decide)) (mfr_I (by decide))))
        by_cases c3 : needM S fs rs ≤ S.1 1 - S.1 4
        · refine oM_itT c3 (oM_pI hM (oM_pI hM (oM_pI hM (oM_pI hM (oM_pI hM (oM_pI hM (oM_ck hM ?_)))))))
          generalize hU : upI (upI (upI (upI (upI (upI (upI T3 36 (needM S fs rs)) 26 (-1)) 34 1) 35 (-1)) 53 0) 37 0) 46 0 = U
          have fU : mfr [26, 34, 35, 36, 37, 46, 53] [] T3 U := by
            rw [← hU]
            exact mfr_tr (mfr_tr (mfr_tr (mfr_tr (mfr_tr (mfr_tr (mfr_I (by decide)) (mfr_I (by decide))) (mfr_I (by decide))) (mfr_I (by decide))) (mfr_I (by decide))) (mfr_I (by decide))) (mfr_I (by decide))
          have UL : RepL U (srtA rs) := repL_fr L3 fU (by decide) (by decide) (by decide) (by decide) (by decide)
          have UR : RepR U rs := repR_fr R3 fU (by decide) (fun q _ _ => List.not_mem_nil)
          have U43 : U.1 43 = nI 0 := (fU.1 43 (by decide)).trans e43
          refine m_unitsLeft (nl := 0) hM UR (fun _ _ => ⟨UL, U43, Nat.zero_le _⟩) (oM_pu (fun hne => h4 cc hne (Int32.not_lt.mpr c3) U ⟨UL, repI_fr (repI_fr I2 f3 (by decide) (by decide)) fU (by decide) (by decide), ⟨?_, U43, ?_, ?_, ?_, ?_, ?_, ?_, ?_⟩, ?_⟩))
          · rw [fU.1 0 (by decide), f3.1 0 (by decide), f2.1 0 (by decide)]
            exact T0
          · rw [← hU]
            rfl
          · rw [← hU]
            rfl
          · rw [← hU]
            rfl
          · rw [← hU]
            rfl
          · rw [← hU]
            rfl
          · rw [← hU]
            rfl
          · rw [← hU]
            rfl
          · exact mfr_tr (mfr_mono f0 (by decide) (by decide)) (mfr_tr (mfr_mono f2 (by decide) (by decide)) (mfr_tr (mfr_mono f3 (by decide) (by decide)) (mfr_mono fU (by decide) (by decide))))
        · refine oM_itF c3 (oM_pI hM (oM_pu (fun hne => h3 cc hne (Int32.not_le.mp c3) _ rfl ?_ ?_ (mfr_tr f9 (mfr_I (by decide))))))
          · exact L3.2.1
          · show (T3.2 21).length = _
            rw [f3.2 21 (by decide)]
            exact I2.2.1
  have loop1 : ∀ (w i : Nat) (c : Int32) (b : Nat), fs.length - i < w → i ≤ fs.length → c = nI b → b + (dNum (fs.drop i)).length = (dNum fs).length → okM m g (X9_mergeBegin_b36 w m c (nI i)) T (fun v S1 => okM m g (k v) S1 Q) := by
    intro w
    induction w with
    | zero => intro i c b h; omega
    | succ w ih =>
      intro i c b hw hi hc hb
      show okM m g (X9_mergeBegin_b36b (X9_mergeBegin_b36 w) m c (nI i)) T _
      unfold X9_mergeBegin_b36b X9_mergeBegin_b59
      have dl := dNum_len (fs := fs)
      refine oM_gI hM ?_
      rw [TF.1.1]
      by_cases ci : i < fs.length
      · obtain ⟨f, hf⟩ := some_of_lt ci
        obtain ⟨n1, n2, n3⟩ := rf_n TF hf
        have dc := dNum_cons hf
        refine oM_itF (nI_ge ci (by omega)) (oM_gR hM (oM_al (q := 3) hM rfl n2 ?_))
        by_cases d : f.2.1 = 0
        · rw [if_pos d] at dc
          rw [dc, List.length_append, List.length_singleton] at hb
          refine oM_itF (fun q => q d) (oM_bpu ?_)
          rw [nI_1, hc, nI_1]
          exact ih (i + 1) _ (b + 1) (by omega) (by omega) rfl (by omega)
        · rw [if_neg d, List.nil_append] at dc
          rw [dc] at hb
          refine oM_itT d (oM_bpu ?_)
          rw [nI_1, Int32.add_zero]
          exact ih (i + 1) _ b (by omega) (by omega) hc hb
      · rw [List.drop_eq_nil_of_le (by omega)] at hb
        have hb : b + 0 = (dNum fs).length := hb
        refine oM_itT (nI_le (by omega) (by omega)) ?_
        by_cases z : b = 0
        · subst z
          refine oM_itF (fun q => q hc) (oM_pu (h2 cc (List.length_eq_zero_iff.mp (by omega))))
        · have hc0 : ¬ c = 0 := by
            rw [hc]
            intro q
            have := congrArg Int32.toInt q
            rw [nI_toInt (by omega), Int32.toInt_zero] at this
            omega
          refine oM_itT hc0 (oM_pI hM ?_)
          have f1 : mfr [45] [21] T (upI T 45 0) := mfr_I (by decide)
          have : FU = 1000000 := rfl
          refine oM_mono (loop2 FU 0 _ (by omega) (Nat.zero_le _) ?_ f1) (fun v S1 q => q (fun e => z (by rw [e] at hb; exact hb)))
          rw [List.take_zero]
          refine ⟨⟨rfl, by decide⟩, ?_, rfl⟩
          show (T.2 21).length = _
          rw [f0.2 21 (by decide)]
          exact h21
  have : FU = 1000000 := rfl
  exact loop1 FU 0 0 0 (by omega) (Nat.zero_le _) rfl (by rw [List.drop_zero, Nat.zero_add])
def disF (a b : Int32) (fs : List AF) : List AF := match fndF a b fs with
  | none => fs
  | some _ => fs.eraseIdx (plF a b fs)
def disP (a b : Int32) (fs : List AF) (ps : List AV) : List AV := match fndF a b fs with
  | none => ps
  | some _ => ps.filter (notP a b)
theorem srt_dis {a b : Int32} (h : SrtF fs) : SrtF (disF a b fs) := by
  unfold disF
  cases fndF a b fs with
  | none => exact h
  | some x => exact List.Pairwise.sublist (List.eraseIdx_sublist _ _) h
theorem m_removes2 {a b : Int32} {k : Unit → M α} {Q : α → MS → Prop} (hM : Mk m g) (hR : RepF S fs) (hP : RepP S ps) (hS : SrtF fs) (h : ∀ S', RepF S' (disF a b fs) → RepP S' (disP a b fs ps) → mfr [4, 8, 12, 22] [1, 2, 3, 4, 5, 6, 7] S S' → S'.1 22 = S.1 22 + (if (fndF a b fs).isSome then 1 else 0) → okM m g (k ()) S' Q) : okM m g (bd (X9_removes m a b) k) S Q := by
  unfold disF disP at h
  refine m_removes hM hR hP hS (fun e => ?_) (fun x S' e r1 r2 r3 r4 => ?_)
  · rw [e] at h
    exact h S hR hP mfr_refl (Int32.add_zero _).symm
  · rw [e] at h
    exact h S' r1 r2 r4 r3
theorem m_unit {is : List Int32} {nl ni : Nat} {k : Unit → M α} {Q : α → MS → Prop} (hM : Mk m g) (hF : RepF S fs) (hS : SrtF fs) (hP : RepP S ps) (hR : RepR S rs)
    (h1 : S.1 34 = 1 → (RepL S ms ∧ S.1 43 = nI nl ∧ nl ≤ ms.length) ∧ (¬ nxS rs ms nl < ms.length → okM m g (bd (X9_finishes m) (fun _ => pu ())) S (fun v S1 => okM m g (k v) S1 Q)) ∧ (nxS rs ms nl < ms.length → okM m g (bd (X9_copies m (nI (nxS rs ms nl))) (fun _ => pu ())) S (fun v S1 => okM m g (k v) S1 Q)))
    (h2 : ¬ S.1 34 = 1 → (RepI S is ∧ S.1 46 = nI ni ∧ ni ≤ is.length) ∧ (∀ v, is[ni]? = some v → ∀ S', RepF S' (disF v 1 (disF v 0 fs)) → RepP S' (disP v 1 (disF v 0 fs) (disP v 0 fs ps)) → S'.1 46 = nI (ni + 1) → S'.1 22 = S.1 22 → mfr [4, 8, 12, 22, 46] [1, 2, 3, 4, 5, 6, 7] S S' → okM m g (k ()) S' Q) ∧ (ni = is.length → ∀ S', RepF S' (disF (S.1 47) 2 fs) → RepP S' (disP (S.1 47) 2 fs ps) → S'.1 34 = 0 → S'.1 22 = S.1 22 → mfr [4, 8, 12, 22, 34] [1, 2, 3, 4, 5, 6, 7] S S' → okM m g (k ()) S' Q)) : okM m g (bd (X9_unit m) k) S Q := by
  refine oM_bd ?_
  unfold X9_unit
  refine oM_gI hM ?_
  by_cases c : S.1 34 = 1
  · obtain ⟨⟨L, e43, hnl⟩, hf, hc⟩ := h1 c
    have hn := L.1.2
    obtain ⟨l1, l2⟩ := nxS_le (rs := rs) hnl
    refine oM_itF (fun q => q c) (oM_gI hM (oM_ck hM (m_nextStill hM hR L hnl e43 (oM_gI hM ?_))))
    rw [L.1.1]
    by_cases d : nxS rs ms nl < ms.length
    · exact oM_itF (nI_ge d (by omega)) (oM_ck hM (hc d))
    · exact oM_itT (nI_le (by omega) (by omega)) (oM_ck hM (hf d))
  · obtain ⟨⟨I, e46, hni⟩, ha, hb⟩ := h2 c
    have hn := I.1.2
    refine oM_itT c (oM_gI hM (oM_gI hM (oM_gI hM ?_)))
    rw [e46, I.1.1]
    by_cases d : ni < is.length
    · obtain ⟨v, hv⟩ := some_of_lt d
      refine oM_itF (nI_ge d (by omega)) (oM_gR hM (oM_gI hM (oM_al (q := 21) hM e46 (i_get I hv) (oM_ck hM ?_))))
      refine m_removes2 hM hF hP hS (fun S1 r1 r2 r3 r4 => oM_gR hM (oM_gI hM (oM_al (q := 21) (i := ni) hM ?_ (i_get (repI_fr I r3 (by decide) (by decide)) hv) (oM_ck hM ?_))))
      · rw [r3.1 46 (by decide)]
        exact e46
      · refine m_removes2 hM r1 r2 (srt_dis hS) (fun S2 s1 s2 s3 s4 => oM_gI hM (oM_pI hM ?_))
        unfold X9_unit_b109
        refine oM_pI hM (oM_pu ?_)
        have f9 : mfr [22, 46] [] S2 (upI (upI S2 46 (S2.1 46 + 1)) 22 (S.1 22)) := mfr_tr (mfr_I (by decide)) (mfr_I (by decide))
        refine ha v hv _ (repF_fr s1 f9 (by decide) (by decide) (by decide) (by decide) (by decide) (by decide)) (repP_fr s2 f9 (by decide) (by decide) (by decide) (by decide)) ?_ rfl (mfr_tr (mfr_mono r3 (by decide) (by decide)) (mfr_tr (mfr_mono s3 (by decide) (by decide)) (mfr_mono f9 (by decide) (by decide))))
        show S2.1 46 + 1 = _
        rw [s3.1 46 (by decide), r3.1 46 (by decide), e46, nI_1]
    · refine oM_itT (nI_le (by omega) (by omega)) (oM_gI hM (oM_ck hM (m_removes2 hM hF hP hS (fun S1 r1 r2 r3 r4 => oM_pI hM ?_))))
      unfold X9_unit_b109
      refine oM_pI hM (oM_pu ?_)
      have f9 : mfr [22, 34] [] S1 (upI (upI S1 34 0) 22 (S.1 22)) := mfr_tr (mfr_I (by decide)) (mfr_I (by decide))
      exact hb (by omega) _ (repF_fr r1 f9 (by decide) (by decide) (by decide) (by decide) (by decide) (by decide)) (repP_fr r2 f9 (by decide) (by decide) (by decide) (by decide)) rfl rfl (mfr_tr (mfr_mono r3 (by decide) (by decide)) (mfr_mono f9 (by decide) (by decide)))
theorem m_stepLoop {N U : Nat} {P : Nat → MS → Prop} {Q : Int32 → MS → Prop} (hM : Mk m g) (hN : N < 2 ^ 31) (hU : U < 2 ^ 31) (hstep : ∀ j S, j < U → P j S → 0 < S.1 34 ∧ ∀ (k : Unit → M Int32) (Q : Int32 → MS → Prop), (∀ S', P (j + 1) S' → okM m g (k ()) S' Q) → okM m g (bd (X9_unit m) k) S Q) (hend : ∀ S, P U S → S.1 34 ≤ 0) (hfin : ∀ S, P (min N U) S → okM m g (X9_mergeStep_b65 m) S Q) : ∀ (w j : Nat) (S : MS), min N U - j < w → j ≤ min N U → P j S → okM m g (X9_mergeStep_b43 w m (nI N) (nI j)) S Q := by
  intro w
  induction w with
  | zero => intro j S h; omega
  | succ w ih =>
    intro j S hw hj hp
    show okM m g (X9_mergeStep_b43b (X9_mergeStep_b43 w) m (nI N) (nI j)) S Q
    unfold X9_mergeStep_b43b
    by_cases c : j < N
    · refine oM_itF (nI_ge c (by omega)) (oM_gI hM ?_)
      by_cases d : j < U
      · obtain ⟨s1, s2⟩ := hstep j S d hp
        refine oM_itF (Int32.not_le.mpr s1) (oM_ck hM (s2 _ _ (fun S' hp' => ?_)))
        rw [nI_1]
        exact ih (j + 1) S' (by omega) (by omega) hp'
      · have ej : j = U := by omega
        subst ej
        refine oM_itT (hend S hp) (hfin S ?_)
        rw [show min N j = j by omega]
        exact hp
    · refine oM_itT (nI_le (by omega) (by omega)) (hfin S ?_)
      rw [show min N U = j by omega]
      exact hp
theorem m_mergeStep {n : Int32} {k : Int32 → M α} {Q : α → MS → Prop} (hM : Mk m g) (h1 : (S.1 23 = 0 ∨ S.1 34 = 0) → okM m g (k 0) (upI S 0 1) Q) (h2 : ¬ (S.1 23 = 0 ∨ S.1 34 = 0) → n < 1 → okM m g (k 0) (upI S 0 2) Q) (h3 : ¬ (S.1 23 = 0 ∨ S.1 34 = 0) → ¬ n < 1 → okM m g (X9_mergeStep_b43 FU m n 0) (upI S 0 0) (fun v S1 => okM m g (k v) S1 Q)) : okM m g (bd (X9_mergeStep m n) k) S Q := by
  refine oM_bd ?_
  unfold X9_mergeStep X9_mergeStep_b15
  have bad : (S.1 23 = 0 ∨ S.1 34 = 0) → okM m g (X9_mergeStep_b29 m n 1 m) S (fun v S1 => okM m g (k v) S1 Q) := by
    intro c
    unfold X9_mergeStep_b29
    exact oM_pI hM (oM_gI hM (oM_itF (show ¬ (1 : Int32) ≤ 0 by decide) (oM_pu (h1 c))))
  refine oM_gI hM ?_
  by_cases c0 : S.1 23 = 0
  · exact oM_itT c0 (bad (Or.inl c0))
  refine oM_itF c0 (oM_gI hM ?_)
  by_cases c1 : S.1 34 = 0
  · exact oM_itF (fun q => q c1) (bad (Or.inr c1))
  refine oM_itT c1 ?_
  have cc : ¬ (S.1 23 = 0 ∨ S.1 34 = 0) := fun q => q.elim c0 c1
  by_cases c2 : n < 1
  · refine oM_itF (Int32.not_le.mpr c2) ?_
    unfold X9_mergeStep_b29
    exact oM_pI hM (oM_gI hM (oM_itF (show ¬ (2 : Int32) ≤ 0 by decide) (oM_pu (h2 cc c2))))
  · refine oM_itT (Int32.not_lt.mp c2) ?_
    unfold X9_mergeStep_b29
    exact oM_pI hM (oM_gI hM (oM_itT (show (0 : Int32) ≤ 0 by decide) (h3 cc c2)))
end
