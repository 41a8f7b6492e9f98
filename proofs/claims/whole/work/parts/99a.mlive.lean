/-! the reference: what was live when the merge began -/
def livIs (S : MS) (i : Nat) (r : AR) : Prop := r.1.length ≤ 16 ∧ (∀ t x, r.1[t]? = some x → (S.2 17)[16 * i + t]? = some x) ∧ (S.2 18)[i]? = some (nI r.1.length) ∧ (S.2 19)[i]? = some r.2.1 ∧ (S.2 20)[i]? = some r.2.2.1
def lLen (S : MS) : Prop := (S.2 17).length = 19200 ∧ ((S.2 18).length = 1200 ∧ (S.2 19).length = 1200 ∧ (S.2 20).length = 1200) ∧ nrm (S.2 17)
def RepL (S : MS) (ms : List AR) : Prop := (S.1 42 = nI ms.length ∧ ms.length < 1200) ∧ lLen S ∧ ∀ i r, ms[i]? = some r → livIs S i r
theorem repL_fr {S S' : MS} {ms : List AR} {J K : List Nat} (h : RepL S ms) (hf : mfr J K S S') (h42 : 42 ∉ J) (k17 : 17 ∉ K) (k18 : 18 ∉ K) (k19 : 19 ∉ K) (k20 : 20 ∉ K) : RepL S' ms := by
  unfold RepL lLen livIs
  rw [hf.1 42 h42, hf.2 17 k17, hf.2 18 k18, hf.2 19 k19, hf.2 20 k20]
  exact h
theorem liv_keyAt {S : MS} {ms : List AR} {i : Nat} {r : AR} (hL : RepL S ms) (hr : ms[i]? = some r) : keyAt S 17 (16 * i) r.1 := by
  obtain ⟨a1, a2, a3, a4, a5⟩ := hL.2.2 i r hr
  have hi := lt_of_some hr
  have hn := hL.1.2
  have l17 := hL.2.1.1
  refine ⟨by omega, by omega, ?_⟩
  apply List.ext_getElem?
  intro t
  by_cases c : t < r.1.length
  · rw [dt_get c]
    obtain ⟨x, hx⟩ := some_of_lt c
    rw [hx]
    exact a2 t x hx
  · rw [List.getElem?_eq_none (by rw [List.length_take]; omega), List.getElem?_eq_none (by omega)]
/-- still live: the directory has it as it was -/
def stl (rs : List AR) (r : AR) : Bool := match lokR r.1 rs with
  | none => false
  | some d => decide (d.2.1 = r.2.1 ∧ d.2.2.1 = r.2.2.1)
def nxS (rs ms : List AR) (i : Nat) : Nat := i + (ms.drop i).findIdx (stl rs)
theorem flt_idx {α : Type} (p : α → Bool) : ∀ l : List α, (l.findIdx p < l.length → ∃ x, l[l.findIdx p]? = some x ∧ p x = true ∧ l.filter p = x :: (l.drop (l.findIdx p + 1)).filter p) ∧ (¬ l.findIdx p < l.length → l.filter p = [])
  | [] => ⟨fun h => absurd h (Nat.not_lt_zero _), fun _ => rfl⟩
  | x :: l => by
    obtain ⟨h1, h2⟩ := flt_idx p l
    rw [List.findIdx_cons]
    cases c : p x with
    | true => exact ⟨fun _ => ⟨x, rfl, c, by rw [List.filter_cons, if_pos c]; rfl⟩, fun h => absurd (Nat.succ_pos _) h⟩
    | false =>
      refine ⟨fun h => ?_, fun h => ?_⟩
      · obtain ⟨y, e1, e2, e3⟩ := h1 (Nat.lt_of_succ_lt_succ h)
        refine ⟨y, e1, e2, ?_⟩
        rw [List.filter_cons, if_neg (by rw [c]; decide), e3]
        rfl
      · rw [List.filter_cons, if_neg (by rw [c]; decide)]
        exact h2 (fun q => h (Nat.succ_lt_succ q))
section
variable {m : Nat} {g : Gh} {S : MS} {α : Type} {rs ms : List AR} {fs : List AF} {ps : List AV}
theorem nxS_le {i : Nat} (hi : i ≤ ms.length) : nxS rs ms i ≤ ms.length ∧ i ≤ nxS rs ms i := by
  unfold nxS
  have := List.findIdx_le_length (p := stl rs) (xs := ms.drop i)
  rw [List.length_drop] at this
  omega
theorem nxS_some {i : Nat} (hi : i ≤ ms.length) (h : nxS rs ms i < ms.length) : ∃ r, ms[nxS rs ms i]? = some r ∧ stl rs r = true ∧ (ms.drop i).filter (stl rs) = r :: (ms.drop (nxS rs ms i + 1)).filter (stl rs) := by
  unfold nxS at h ⊢
  obtain ⟨x, e1, e2, e3⟩ := (flt_idx (stl rs) (ms.drop i)).1 (by rw [List.length_drop]; omega)
  refine ⟨x, by rw [← e1, List.getElem?_drop], e2, ?_⟩
  rw [e3, List.drop_drop]
  congr 2
theorem nxS_none {i : Nat} (hi : i ≤ ms.length) (h : ¬ nxS rs ms i < ms.length) : (ms.drop i).filter (stl rs) = [] := by
  unfold nxS at h
  exact (flt_idx (stl rs) (ms.drop i)).2 (by rw [List.length_drop]; omega)
theorem m_entryOf {i : Nat} {r : AR} {x : Int32} {k : Int32 → M α} {Q : α → MS → Prop} (hM : Mk m g) (hR : RepR S rs) (hL : RepL S ms) (hr : ms[i]? = some r) (hx : x = nI i) (h : okM m g (k (nI (plR r.1 rs))) S Q) : okM m g (bd (X9_entryOf m x) k) S Q := by
  subst hx
  refine oM_bd ?_
  unfold X9_entryOf
  have ho := hL.2.2 i r hr
  exact oM_gR hM (oM_gR hM (oM_al (q := 18) hM rfl ho.2.2.1 (oM_ck hM (m_placeOf (q := 17) hM hR (liv_keyAt hL hr) (nI_16 i) rfl (oM_pu h)))))
theorem m_isLiveStill {i : Nat} {r : AR} {x : Int32} {k : Int32 → M α} {Q : α → MS → Prop} (hM : Mk m g) (hR : RepR S rs) (hL : RepL S ms) (hr : ms[i]? = some r) (hx : x = nI i) (h : okM m g (k (if stl rs r = true then 1 else 0)) S Q) : okM m g (bd (X9_isLiveStill m x) k) S Q := by
  subst hx
  refine oM_bd ?_
  unfold X9_isLiveStill
  have ho := hL.2.2 i r hr
  have hk := liv_keyAt hL hr
  unfold stl at h
  refine oM_gR hM (oM_gR hM (oM_al (q := 18) hM rfl ho.2.2.1 (oM_ck hM (m_placeOf (q := 17) hM hR hk (nI_16 i) rfl (oM_gR hM (oM_gR hM (oM_al (q := 18) hM rfl ho.2.2.1 (oM_ck hM (m_isAt (q := 17) hM hR hk (nI_16 i) rfl (fun e => ?_) (fun d e => ?_))))))))))
  · rw [e] at h
    exact oM_itT rfl (oM_pu h)
  · rw [e] at h
    dsimp only at h
    obtain ⟨hd, _⟩ := Option.filter_eq_some_iff.mp e
    obtain ⟨b1, b2, b3, b4, b5, b6, b7⟩ := hR.2.2 _ d hd
    refine oM_itF (by decide) (oM_gR hM (oM_al (q := 13) hM rfl b4 (oM_gR hM (oM_al (q := 19) hM rfl ho.2.2.2.1 ?_))))
    by_cases c1 : d.2.1 = r.2.1
    · refine oM_itF (fun q => q c1) (oM_gR hM (oM_al (q := 14) hM rfl b5 (oM_gR hM (oM_al (q := 20) hM rfl ho.2.2.2.2 ?_))))
      by_cases c2 : d.2.2.1 = r.2.2.1
      · rw [if_pos (decide_eq_true ⟨c1, c2⟩)] at h
        exact oM_itF (fun q => q c2) (oM_pu h)
      · rw [if_neg (fun q => c2 (of_decide_eq_true q).2)] at h
        exact oM_itT c2 (oM_pu h)
    · rw [if_neg (fun q => c1 (of_decide_eq_true q).1)] at h
      exact oM_itT c1 (oM_pu h)
theorem m_nextStill {i : Nat} {x : Int32} {k : Int32 → M α} {Q : α → MS → Prop} (hM : Mk m g) (hR : RepR S rs) (hL : RepL S ms) (hi : i ≤ ms.length) (hx : x = nI i) (h : okM m g (k (nI (nxS rs ms i))) S Q) : okM m g (bd (X9_nextStill m x) k) S Q := by
  subst hx
  refine oM_bd ?_
  have hn := hL.1.2
  have loop : ∀ (w i : Nat), ms.length - i < w → i ≤ ms.length → okM m g (k (nI (nxS rs ms i))) S Q → okM m g (X9_nextStill_b2 w m (nI i)) S (fun v S1 => okM m g (k v) S1 Q) := by
    intro w
    induction w with
    | zero => intro i h; omega
    | succ w ih =>
      intro i hw hi hq
      show okM m g (X9_nextStill_b2b (X9_nextStill_b2 w) m (nI i)) S _
      unfold X9_nextStill_b2b
      refine oM_gI hM ?_
      rw [hL.1.1]
      unfold nxS at hq
      by_cases c : i < ms.length
      · obtain ⟨r, hr⟩ := some_of_lt c
        rw [drop_cons hr, List.findIdx_cons] at hq
        refine oM_itF (nI_ge c (by omega)) (oM_ck hM (m_isLiveStill hM hR hL hr rfl ?_))
        cases d : stl rs r with
        | true =>
          rw [d] at hq
          exact oM_itT (by decide) (oM_pu hq)
        | false =>
          rw [d] at hq
          refine oM_itF (by decide) ?_
          rw [nI_1]
          refine ih (i + 1) (by omega) (by omega) ?_
          unfold nxS
          have e : i + 1 + (ms.drop (i + 1)).findIdx (stl rs) = i + ((ms.drop (i + 1)).findIdx (stl rs) + 1) := by omega
          rw [e]
          exact hq
      · rw [List.drop_eq_nil_of_le (by omega)] at hq
        exact oM_itT (nI_le (by omega) (by omega)) (oM_pu hq)
  have : FU = 1000000 := rfl
  exact loop FU i (by omega) hi h
/-- units that are left -/
def ulM (S : MS) (rs ms : List AR) (nl : Nat) : Int32 := if S.1 34 = 0 then 0 else if S.1 34 = 2 then (S.1 45 - S.1 46) + 1 else (2 + S.1 45) + nI ((ms.drop nl).filter (stl rs)).length
theorem m_unitsLeft {nl : Nat} {k : Int32 → M α} {Q : α → MS → Prop} (hM : Mk m g) (hR : RepR S rs) (hL : S.1 34 ≠ 0 → S.1 34 ≠ 2 → RepL S ms ∧ S.1 43 = nI nl ∧ nl ≤ ms.length) (h : okM m g (k (ulM S rs ms nl)) S Q) : okM m g (bd (X9_unitsLeft m) k) S Q := by
  refine oM_bd ?_
  unfold X9_unitsLeft
  unfold ulM at h
  refine oM_gI hM ?_
  by_cases c0 : S.1 34 = 0
  · rw [if_pos c0] at h
    exact oM_itF (fun q => q c0) (oM_pu h)
  rw [if_neg c0] at h
  refine oM_itT c0 (oM_gI hM ?_)
  by_cases c2 : S.1 34 = 2
  · rw [if_pos c2] at h
    exact oM_itF (fun q => q c2) (oM_gI hM (oM_gI hM (oM_pu h)))
  rw [if_neg c2] at h
  obtain ⟨L, e43, hnl⟩ := hL c0 c2
  have hn := L.1.2
  refine oM_itT c2 (oM_gI hM (oM_bpu (oM_gI hM (oM_ck hM ?_))))
  refine m_nextStill hM hR L hnl e43 ?_
  have loop : ∀ (w i : Nat) (c : Int32), ms.length - nxS rs ms i < w → i ≤ ms.length → okM m g (k (c + nI ((ms.drop i).filter (stl rs)).length)) S Q → okM m g (X9_unitsLeft_b45 w m c (nI (nxS rs ms i))) S (fun v S1 => okM m g (k v) S1 Q) := by
    intro w
    induction w with
    | zero => intro i c h; omega
    | succ w ih =>
      intro i c hw hi hq
      obtain ⟨l1, l2⟩ := nxS_le (rs := rs) hi
      show okM m g (X9_unitsLeft_b45b (X9_unitsLeft_b45 w) m c (nI (nxS rs ms i))) S _
      unfold X9_unitsLeft_b45b
      refine oM_gI hM ?_
      rw [L.1.1]
      by_cases cc : nxS rs ms i < ms.length
      · obtain ⟨r, e1, e2, e3⟩ := nxS_some hi cc
        obtain ⟨l3, l4⟩ := nxS_le (rs := rs) (ms := ms) (i := nxS rs ms i + 1) (by omega)
        refine oM_itF (nI_ge cc (by omega)) (oM_ck hM (m_nextStill (i := nxS rs ms i + 1) hM hR L (by omega) (nI_1 _) ?_))
        refine ih (nxS rs ms i + 1) _ (by omega) (by omega) ?_
        rw [e3, List.length_cons] at hq
        have e : c + 1 + nI ((ms.drop (nxS rs ms i + 1)).filter (stl rs)).length = c + nI (((ms.drop (nxS rs ms i + 1)).filter (stl rs)).length + 1) := by
          rw [← nI_1, Int32.add_assoc, Int32.add_comm 1]
        rw [e]
        exact hq
      · rw [nxS_none hi cc] at hq
        refine oM_itT (nI_le (by omega) (by omega)) (oM_pu ?_)
        have e : c + nI ([] : List AR).length = c := Int32.add_zero c
        rw [e] at hq
        exact hq
  have : FU = 1000000 := rfl
  exact loop FU nl _ (by omega) hnl h
/-- what it answers to a look -/
def lkM (w : Int32) (S : MS) (fs : List AF) (ps : List AV) (rs ms : List AR) (nl : Nat) : Int32 := if w = 0 then (if S.1 23 = 0 then 0 else 1) else if w = 1 then S.1 1 else if w = 2 then S.1 2 else if w = 3 then nI fs.length else if w = 4 then S.1 1 - nI (totF fs) else if w = 5 then psum 0 ps else if w = 6 then S.1 16 else if w = 7 then S.1 19 else if w = 8 then S.1 20 else if w = 9 then S.1 21 else if w = 10 then S.1 22 else if w = 11 then nI rs.length else if w = 12 then S.1 25 else if w = 13 then S.1 24 else if w = 14 then S.1 26 else if w = 15 then (if S.1 34 = 1 then S.1 35 else -1) else if w = 16 then ulM S rs ms nl else if w = 17 then resM S else if w = 18 then rlive 0 rs else if w = 19 then fdat 0 fs - rlive 0 rs else -1
theorem m_look {w : Int32} {nl : Nat} {k : Int32 → M α} {Q : α → MS → Prop} (hM : Mk m g) (hF : RepF S fs) (hP : RepP S ps) (hR : RepR S rs) (hL : S.1 34 ≠ 0 → S.1 34 ≠ 2 → RepL S ms ∧ S.1 43 = nI nl ∧ nl ≤ ms.length) (h : okM m g (k (if 10 < w ∧ S.1 23 = 0 then -1 else lkM w S fs ps rs ms nl)) (upI S 0 0) Q) : okM m g (bd (X9_look m w) k) S Q := by
  refine oM_bd ?_
  unfold X9_look
  have f0 : mfr [0] [] S (upI S 0 0) := mfr_I (by decide)
  have F1 : RepF (upI S 0 0) fs := repF_fr hF f0 (by decide) (by decide) (by decide) (by decide) (by decide) (by decide)
  have P1 : RepP (upI S 0 0) ps := repP_fr hP f0 (by decide) (by decide) (by decide) (by decide)
  have R1 : RepR (upI S 0 0) rs := repR_fr hR f0 (by decide) (fun q _ _ => List.not_mem_nil)
  have L1 : (upI S 0 0).1 34 ≠ 0 → (upI S 0 0).1 34 ≠ 2 → RepL (upI S 0 0) ms ∧ (upI S 0 0).1 43 = nI nl ∧ nl ≤ ms.length := fun a b => ⟨repL_fr (hL a b).1 f0 (by decide) (by decide) (by decide) (by decide) (by decide), (hL a b).2⟩
  refine oM_pI hM ?_
  have main : ∀ Q' : Int32 → MS → Prop, Q' (lkM w S fs ps rs ms nl) (upI S 0 0) → okM m g (X9_look_b20 m w) (upI S 0 0) Q' := by
    intro Q' hq
    unfold X9_look_b20
    unfold lkM at hq
    by_cases c0 : w = 0
    · rw [if_pos c0] at hq
      refine oM_itT c0 (oM_gI hM ?_)
      have hq : Q' (if (upI S 0 0).1 23 = 0 then 0 else 1) (upI S 0 0) := hq
      by_cases d : (upI S 0 0).1 23 = 0
      · rw [if_pos d] at hq
        exact oM_itT d (oM_pu hq)
      · rw [if_neg d] at hq
        exact oM_itF d (oM_pu hq)
    refine oM_itF c0 ?_
    rw [if_neg c0] at hq
    by_cases c1 : w = 1
    · rw [if_pos c1] at hq
      exact oM_itT c1 (oM_gI hM (oM_pu hq))
    refine oM_itF c1 ?_
    rw [if_neg c1] at hq
    by_cases c2 : w = 2
    · rw [if_pos c2] at hq
      exact oM_itT c2 (oM_gI hM (oM_pu hq))
    refine oM_itF c2 ?_
    rw [if_neg c2] at hq
    by_cases c3 : w = 3
    · rw [if_pos c3, ← F1.1.1] at hq
      exact oM_itT c3 (oM_gI hM (oM_pu hq))
    refine oM_itF c3 ?_
    rw [if_neg c3] at hq
    by_cases c4 : w = 4
    · rw [if_pos c4, ← F1.1.2.1] at hq
      exact oM_itT c4 (oM_ck hM (m_room hM (oM_pu hq)))
    refine oM_itF c4 ?_
    rw [if_neg c4] at hq
    by_cases c5 : w = 5
    · rw [if_pos c5] at hq
      exact oM_itT c5 (oM_ck hM (m_unsynced hM P1 (oM_pu hq)))
    refine oM_itF c5 ?_
    rw [if_neg c5] at hq
    by_cases c6 : w = 6
    · rw [if_pos c6] at hq
      exact oM_itT c6 (oM_gI hM (oM_pu hq))
    refine oM_itF c6 ?_
    rw [if_neg c6] at hq
    by_cases c7 : w = 7
    · rw [if_pos c7] at hq
      exact oM_itT c7 (oM_gI hM (oM_pu hq))
    refine oM_itF c7 ?_
    rw [if_neg c7] at hq
    by_cases c8 : w = 8
    · rw [if_pos c8] at hq
      exact oM_itT c8 (oM_gI hM (oM_pu hq))
    refine oM_itF c8 ?_
    rw [if_neg c8] at hq
    by_cases c9 : w = 9
    · rw [if_pos c9] at hq
      exact oM_itT c9 (oM_gI hM (oM_pu hq))
    refine oM_itF c9 ?_
    rw [if_neg c9] at hq
    by_cases c10 : w = 10
    · rw [if_pos c10] at hq
      exact oM_itT c10 (oM_gI hM (oM_pu hq))
    refine oM_itF c10 ?_
    rw [if_neg c10] at hq
    by_cases c11 : w = 11
    · rw [if_pos c11, ← R1.1.1] at hq
      exact oM_itT c11 (oM_gI hM (oM_pu hq))
    refine oM_itF c11 ?_
    rw [if_neg c11] at hq
    by_cases c12 : w = 12
    · rw [if_pos c12] at hq
      exact oM_itT c12 (oM_gI hM (oM_pu hq))
    refine oM_itF c12 ?_
    rw [if_neg c12] at hq
    by_cases c13 : w = 13
    · rw [if_pos c13] at hq
      exact oM_itT c13 (oM_gI hM (oM_pu hq))
    refine oM_itF c13 ?_
    rw [if_neg c13] at hq
    by_cases c14 : w = 14
    · rw [if_pos c14] at hq
      exact oM_itT c14 (oM_gI hM (oM_pu hq))
    refine oM_itF c14 ?_
    rw [if_neg c14] at hq
    by_cases c15 : w = 15
    · rw [if_pos c15] at hq
      refine oM_itT c15 (oM_gI hM ?_)
      have hq : Q' (if (upI S 0 0).1 34 = 1 then (upI S 0 0).1 35 else -1) (upI S 0 0) := hq
      by_cases d : (upI S 0 0).1 34 = 1
      · rw [if_pos d] at hq
        exact oM_itF (fun q => q d) (oM_gI hM (oM_pu hq))
      · rw [if_neg d] at hq
        exact oM_itT d (oM_pu hq)
    refine oM_itF c15 ?_
    rw [if_neg c15] at hq
    by_cases c16 : w = 16
    · rw [if_pos c16] at hq
      exact oM_itT c16 (oM_ck hM (m_unitsLeft hM R1 L1 (oM_pu hq)))
    refine oM_itF c16 ?_
    rw [if_neg c16] at hq
    by_cases c17 : w = 17
    · rw [if_pos c17] at hq
      exact oM_itT c17 (oM_ck hM (m_reserved hM (oM_pu hq)))
    refine oM_itF c17 ?_
    rw [if_neg c17] at hq
    by_cases c18 : w = 18
    · rw [if_pos c18] at hq
      exact oM_itT c18 (oM_ck hM (m_liveBytes hM R1 (oM_pu hq)))
    refine oM_itF c18 ?_
    rw [if_neg c18] at hq
    by_cases c19 : w = 19
    · rw [if_pos c19] at hq
      exact oM_itT c19 (oM_ck hM (m_dataBytes hM F1 (oM_ck hM (m_liveBytes hM R1 (oM_pu hq)))))
    rw [if_neg c19] at hq
    exact oM_itF c19 (oM_pu hq)
  by_cases c : w ≤ 10
  · rw [if_neg (fun q => absurd c (Int32.not_le.mpr q.1))] at h
    exact oM_itT c (main _ h)
  · have c' : 10 < w := Int32.not_le.mp c
    refine oM_itF c (oM_gI hM ?_)
    by_cases d : S.1 23 = 0
    · rw [if_pos ⟨c', d⟩] at h
      exact oM_itF (fun q => q d) (oM_pu h)
    · rw [if_neg (fun q => d q.2)] at h
      exact oM_itT d (main _ h)
end
