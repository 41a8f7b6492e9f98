/-! the reference: an opening, its marks -/
def OR (S : MS) (V : VC) : Prop := RepF S V.1.1 ∧ RepP S [] ∧ SrtF V.1.1 ∧ (S.1 19 = V.2.2.2.1.1 ∧ S.1 20 = V.2.2.2.1.2.1 ∧ S.1 21 = V.2.2.2.1.2.2.1 ∧ S.1 22 = V.2.2.2.1.2.2.2.1)
theorem opDis_files (a b : Int32) (V : VC) : (opDis a b V).1.1 = disF a b V.1.1 := by
  unfold opDis disF
  cases h : fndF a b V.1.1 with
  | none => rfl
  | some x =>
    show (vDis a b V.1).1 = _
    unfold vDis
    rw [h]
theorem opDis_rest (a b : Int32) (V : VC) : (opDis a b V).2 = (V.2.1, V.2.2.1, (V.2.2.2.1.1, V.2.2.2.1.2.1, V.2.2.2.1.2.2.1, V.2.2.2.1.2.2.2.1 + (if (fndF a b V.1.1).isSome then 1 else 0), V.2.2.2.1.2.2.2.2), V.2.2.2.2) := by
  unfold opDis
  cases h : fndF a b V.1.1 with
  | none =>
    show V.2 = _
    have : V.2.2.2.1.2.2.2.1 + (if (none : Option AF).isSome then 1 else 0) = V.2.2.2.1.2.2.2.1 := Int32.add_zero _
    rw [this]
  | some x => rfl
theorem find_idx {α : Type} {q : α → Bool} : ∀ (l : List α) (x : α), l.find? q = some x → ∃ i, l[i]? = some x ∧ q x = true ∧ ∀ (j : Nat) (y : α), j < i → l[j]? = some y → q y = false
  | [], x, h => by cases h
  | a :: l, x, h => by
    rw [List.find?_cons] at h
    cases c : q a with
    | true =>
      rw [c] at h
      cases h
      exact ⟨0, rfl, c, fun j y hj => absurd hj (Nat.not_lt_zero j)⟩
    | false =>
      rw [c] at h
      obtain ⟨i, h1, h2, h3⟩ := find_idx l x h
      refine ⟨i + 1, h1, h2, fun j y hj hy => ?_⟩
      cases j with
      | zero =>
        cases hy
        exact c
      | succ j => exact h3 j y (by omega) hy
theorem find_no {α : Type} {q : α → Bool} : ∀ (l : List α), l.find? q = none → ∀ y, y ∈ l → q y = false
  | [], _, y, hy => by cases hy
  | a :: l, h, y, hy => by
    rw [List.find?_cons] at h
    cases c : q a with
    | true =>
      rw [c] at h
      cases h
    | false =>
      rw [c] at h
      rcases List.mem_cons.mp hy with e | e
      · rw [e]
        exact c
      · exact find_no l h y e
theorem no_find {α : Type} {q : α → Bool} : ∀ (l : List α), (∀ y, y ∈ l → q y = false) → l.find? q = none
  | [], _ => rfl
  | a :: l, h => by
    rw [List.find?_cons, h a List.mem_cons_self]
    exact no_find l (fun y hy => h y (List.mem_cons_of_mem _ hy))
theorem mem_disF {a b : Int32} {fs : List AF} {x : AF} (hS : SrtF fs) : x ∈ disF a b fs ↔ x ∈ fs ∧ ¬ (x.1 = a ∧ x.2.1 = b) := by
  unfold disF
  cases h : fndF a b fs with
  | none =>
    refine ⟨fun hx => ⟨hx, fun q => ?_⟩, fun q => q.1⟩
    obtain ⟨i, hi⟩ := List.mem_iff_getElem?.mp hx
    have := (fndF_at hS hi).1
    rw [q.1, q.2, h] at this
    cases this
  | some y =>
    show x ∈ fs.eraseIdx (plF a b fs) ↔ _
    rw [era_fil hS h, List.mem_filter]
    refine ⟨fun q => ⟨q.1, fun c => ?_⟩, fun q => ⟨q.1, ?_⟩⟩
    · have := q.2
      unfold kyF at this
      rw [decide_eq_true c] at this
      cases this
    · unfold kyF
      rw [decide_eq_false q.2]
      rfl
theorem opN_mem {l : List Int32} {x : AF} : ∀ (m i : Nat) (V : VC), SrtF V.1.1 → x ∈ (opN l m i V).1.1 → x ∈ V.1.1
  | 0, _, _, _, h => h
  | m + 1, i, V, hS, h => by
    have h2 : x ∈ (opN l m (i + 4) (opDis (bnm l (nI i)) 1 (opDis (bnm l (nI i)) 0 V))).1.1 := h
    have h3 := opN_mem m (i + 4) _ (by rw [opDis_files, opDis_files]; exact srt_dis (srt_dis hS)) h2
    rw [opDis_files, opDis_files] at h3
    exact ((mem_disF hS).mp ((mem_disF (srt_dis hS)).mp h3).1).1
section
variable {m : Nat} {g : Gh} {S : MS} {α : Type} {rs : List AR} {fs : List AF} {ps : List AV} {V : VC}
theorem OR_fr {S' : MS} {J K : List Nat} (h : OR S V) (hf : mfr J K S S') (j4 : 4 ∉ J) (j8 : 8 ∉ J) (j12 : 12 ∉ J) (j19 : 19 ∉ J) (j20 : 20 ∉ J) (j21 : 21 ∉ J) (j22 : 22 ∉ J) (hK : ∀ q, q ≤ 7 → q ∉ K) : OR S' V := by
  refine ⟨repF_fr h.1 hf j4 j8 (hK 1 (by decide)) (hK 2 (by decide)) (hK 3 (by decide)) (hK 4 (by decide)), repP_fr h.2.1 hf j12 (hK 5 (by decide)) (hK 6 (by decide)) (hK 7 (by decide)), h.2.2.1, ?_⟩
  rw [hf.1 19 j19, hf.1 20 j20, hf.1 21 j21, hf.1 22 j22]
  exact h.2.2.2
theorem m_odis {a b : Int32} {k : Unit → M α} {Q : α → MS → Prop} (hM : Mk m g) (hO : OR S V) (h : ∀ S', OR S' (opDis a b V) → mfr [4, 8, 12, 22] [1, 2, 3, 4, 5, 6, 7] S S' → okM m g (k ()) S' Q) : okM m g (bd (X9_removes m a b) k) S Q := by
  refine m_removes2 hM hO.1 hO.2.1 hO.2.2.1 (fun S' r1 r2 r3 r4 => h S' ⟨?_, ?_, ?_, ?_⟩ r3)
  · rw [opDis_files]
    exact r1
  · have e : disP a b V.1.1 [] = [] := by
      unfold disP
      cases fndF a b V.1.1 <;> rfl
    rw [e] at r2
    exact r2
  · rw [opDis_files]
    exact srt_dis hO.2.2.1
  · rw [opDis_rest]
    obtain ⟨c1, c2, c3, c4⟩ := hO.2.2.2
    refine ⟨?_, ?_, ?_, ?_⟩
    · rw [r3.1 19 (by decide)]
      exact c1
    · rw [r3.1 20 (by decide)]
      exact c2
    · rw [r3.1 21 (by decide)]
      exact c3
    · rw [r4, c4]
theorem nI_4 (i : Nat) : 4 * nI i = nI (4 * i) := (Int32.ofNat_mul 4 i).symm
theorem m_sumf {f a b : Nat} {x : AF} {y z : Int32} {k : Int32 → M α} {Q : α → MS → Prop} (hM : Mk m g) (hF : RepF S fs) (hf : fs[f]? = some x) (hab : a ≤ b) (hb : b ≤ x.2.2.1.length) (hy : y = nI (totF (fs.take f) + a)) (hz : z = nI (totF (fs.take f) + b)) (h : okM m g (k (crcL ((x.2.2.1.drop a).take (b - a)))) S Q) : okM m g (bd (X9_sum (m + 1) y z) k) S Q := by
  have eT := totF_take hf
  have hT := hF.1.2.2.1
  have l1 := hF.2.1.1
  refine m_sum (q := 1) hM hy hz (by omega) (by omega) (by omega) ?_
  rw [show totF (fs.take f) + b - (totF (fs.take f) + a) = b - a by omega, dsk_sl hF hf (by omega)]
  exact h
theorem m_isGoodMark {i : Nat} {x : AF} {y : Int32} {k : Int32 → M α} {Q : α → MS → Prop} (hM : Mk m g) (hF : RepF S fs) (hf : fs[i]? = some x) (hy : y = nI i) (h : okM m g (k (if gmk x.2.2.1 = true then 1 else 0)) S Q) : okM m g (bd (X9_isGoodMark m y) k) S Q := by
  subst hy
  refine oM_bd ?_
  unfold X9_isGoodMark
  have hi := lt_of_some hf
  obtain ⟨n1, n2, n3⟩ := rf_n hF hf
  have eT := totF_take hf
  have hT := hF.1.2.2.1
  unfold gmk at h
  refine oM_ck hM (m_startOf hM hF rfl (by omega) (oM_gR hM (oM_al (q := 4) hM rfl n3 ?_)))
  by_cases c1 : 8 ≤ x.2.2.1.length
  · rw [decide_eq_true c1, Bool.true_and] at h
    refine oM_itF (nI_nlt (b := 8) c1 (by omega)) (oM_gR hM (m_num4f hM hF hf (j := 0) (by omega) rfl ?_))
    by_cases c2 : lg_cmp ((nI x.2.2.1.length).toInt64) ((4 * (bnm x.2.2.1 0).toInt64) + 8) = 0
    · rw [decide_eq_true c2, Bool.true_and] at h
      refine oM_itF (fun q => q ((lg_cmp_eq _ _).mpr ((lg_cmp_eq _ _).mp c2).symm)) ?_
      have e4 : nI (totF (fs.take i)) + nI x.2.2.1.length - 4 = nI (totF (fs.take i) + (x.2.2.1.length - 4)) := by
        rw [nI_add]
        have := nI_subN (a := totF (fs.take i) + x.2.2.1.length) (b := 4) (by omega)
        rw [show totF (fs.take i) + x.2.2.1.length - 4 = totF (fs.take i) + (x.2.2.1.length - 4) by omega] at this
        exact this
      rw [e4]
      refine oM_gR hM (m_num4f hM hF hf (by omega) rfl (oM_gR hM (m_sumf (a := 0) hM hF hf (Nat.zero_le _) (by omega) rfl rfl ?_)))
      rw [Nat.sub_zero, List.drop_zero]
      by_cases c3 : bnm x.2.2.1 (nI (x.2.2.1.length - 4)) = crcL (x.2.2.1.take (x.2.2.1.length - 4))
      · rw [if_pos (decide_eq_true c3)] at h
        exact oM_itF (fun q => q c3) (oM_pu h)
      · rw [if_neg (fun q => c3 (of_decide_eq_true q))] at h
        exact oM_itT c3 (oM_pu h)
    · rw [decide_eq_false c2, Bool.false_and, if_neg (by decide)] at h
      exact oM_itT (fun q => c2 ((lg_cmp_eq _ _).mpr ((lg_cmp_eq _ _).mp q).symm)) (oM_pu h)
  · rw [decide_eq_false c1, Bool.false_and, Bool.false_and, if_neg (by decide)] at h
    exact oM_itT (nI_lt (b := 8) (by omega) (by omega)) (oM_pu h)
/-- the numbers of a good mark -/
theorem gmk_many {l : List Int32} (h : gmk l = true) (hl : l.length ≤ 60000) : bnm l 0 = nI ((l.length - 8) / 4) ∧ l.length = 8 + 4 * ((l.length - 8) / 4) := by
  obtain ⟨k, hk⟩ := gmk_len h hl
  refine ⟨?_, by omega⟩
  unfold gmk at h
  simp only [Bool.and_eq_true] at h
  have h2 := of_decide_eq_true h.1.2
  rw [lg_cmp_eq] at h2
  have h3 := congrArg Int64.toInt h2
  have hx1 : (bnm l 0).toInt < 2 ^ 31 := Int32.toInt_lt _
  have hx2 : -2 ^ 31 ≤ (bnm l 0).toInt := Int32.le_toInt _
  rw [Int32.toInt_toInt64, nI_toInt (by omega), Int64.toInt_add, Int64.toInt_mul, Int32.toInt_toInt64, show (4 : Int64).toInt = 4 from rfl, show (8 : Int64).toInt = 8 from rfl] at h3
  rw [Int.bmod_eq_of_le (n := 4 * (bnm l 0).toInt) (by omega) (by omega), Int.bmod_eq_of_le (by omega) (by omega)] at h3
  apply Int32.toInt_inj.mp
  rw [nI_toInt (by omega)]
  omega
theorem mk_b101 {k2 : Nat → Int32 → M Unit} {l : List Int32} {n : Nat} {own : Int32} {Q : Unit → MS → Prop} (hM : Mk m g) (hn : n ≤ 4100) (hk : ∀ (S' : MS) (V' : VC), OR S' (opDis own 2 V') → mfr [4, 8, 12, 22] [1, 2, 3, 4, 5, 6, 7] S S' → V' = opN l n 4 V → okM m g (k2 m 0) S' Q) : ∀ (w c : Nat) (S1 : MS) (V1 : VC), n - c < w → c ≤ n → OR S1 V1 → opN l (n - c) (4 + 4 * c) V1 = opN l n 4 V → mfr [4, 8, 12, 22] [1, 2, 3, 4, 5, 6, 7] S S1 → (S1.2 21).length = 4200 → (∀ j, c ≤ j → j < n → (S1.2 21)[j]? = some (bnm l (nI (4 + 4 * j)))) → okM m g (X9_marks_b101 k2 w m own (nI n) (nI c)) S1 Q := by
  intro w
  induction w with
  | zero => intro c S1 V1 h; omega
  | succ w ih =>
    intro c S1 V1 hw hc hO he hf hl hi
    show okM m g (X9_marks_b101b k2 (X9_marks_b101 k2 w) m own (nI n) (nI c)) S1 Q
    unfold X9_marks_b101b
    by_cases cc : c < n
    · have hv := hi c (Nat.le_refl _) cc
      refine oM_itF (nI_ge cc (by omega)) (oM_gR hM (oM_al (q := 21) hM rfl hv (oM_ck hM (m_odis hM hO (fun S2 O2 f2 => oM_gR hM (oM_al (q := 21) (i := c) (v := bnm l (nI (4 + 4 * c))) hM rfl ?_ (oM_ck hM (m_odis hM O2 (fun S3 O3 f3 => ?_)))))))))
      · rw [f2.2 21 (by decide)]
        exact hv
      · rw [nI_1]
        have f5 : mfr [4, 8, 12, 22] [1, 2, 3, 4, 5, 6, 7] S1 S3 := mfr_tr f2 f3
        refine ih (c + 1) S3 _ (by omega) (by omega) O3 ?_ (mfr_tr hf f5) (by rw [f5.2 21 (by decide)]; exact hl) (fun j h1 h2 => by rw [f5.2 21 (by decide)]; exact hi j (by omega) h2)
        rw [← he, show n - c = (n - (c + 1)) + 1 by omega]
        show opN l (n - (c + 1)) (4 + 4 * (c + 1)) _ = opN l (n - (c + 1)) (4 + 4 * c + 4) _
        rw [show 4 + 4 * (c + 1) = 4 + 4 * c + 4 by omega]
    · have ec : c = n := by omega
      subst ec
      rw [Nat.sub_self] at he
      have he : V1 = opN l c 4 V := he
      refine oM_itT (nI_le (Nat.le_refl _) (by omega)) (oM_ck hM (m_odis hM hO (fun S2 O2 f2 => hk S2 V1 O2 (mfr_tr hf f2) he)))
theorem m_marks {k : Unit → M α} {Q : α → MS → Prop} (hM : Mk m g) (hO : OR S V) (h21 : (S.2 21).length = 4200) (hone : ∀ f f', f ∈ V.1.1 → f' ∈ V.1.1 → f.2.1 = 2 → f'.2.1 = 2 → f.1 = f'.1) (h : ∀ S', OR S' (obM V.1.1.length V) → (∀ f, f ∈ (obM V.1.1.length V).1.1 → ¬ f.2.1 = 2) → (S'.2 21).length = 4200 → mfr [4, 8, 12, 22] [1, 2, 3, 4, 5, 6, 7, 21] S S' → okM m g (k ()) S' Q) : okM m g (bd (X9_marks m) k) S Q := by
  refine oM_bd ?_
  unfold X9_marks
  have hl := hO.1.1.2.2.2
  have : FU = 1000000 := rfl
  have scan : ∀ (w i : Nat) (S1 : MS) (V1 : VC), V1.1.1.length - i < w → i ≤ V1.1.1.length → OR S1 V1 → (∀ f, f ∈ V1.1.1 → ¬ f.2.1 = 2) → okM m g (k ()) S1 Q → okM m g (X9_marks_b2 w m (nI i)) S1 (fun v S2 => okM m g (k v) S2 Q) := by
    intro w
    induction w with
    | zero => intro i S1 V1 h; omega
    | succ w ih =>
      intro i S1 V1 hw hi O1 hno hq
      show okM m g (X9_marks_b2b (X9_marks_b2 w) m (nI i)) S1 _
      unfold X9_marks_b2b
      have hl1 := O1.1.1.2.2.2
      refine oM_gI hM ?_
      rw [O1.1.1.1]
      by_cases c : i < V1.1.1.length
      · obtain ⟨f, hf⟩ := some_of_lt c
        obtain ⟨n1, n2, n3⟩ := rf_n O1.1 hf
        refine oM_itF (nI_ge c (by omega)) (oM_gR hM (oM_al (q := 3) hM rfl n2 (oM_itF (hno f (List.mem_of_getElem? hf)) ?_)))
        rw [nI_1]
        exact ih (i + 1) S1 V1 (by omega) (by omega) O1 hno hq
      · exact oM_itT (nI_le (by omega) (by omega)) (oM_pu hq)
  have ob0 : ∀ (t : Nat) (V1 : VC), (∀ f, f ∈ V1.1.1 → ¬ f.2.1 = 2) → obM t V1 = V1 := by
    intro t V1 hno
    cases t with
    | zero => rfl
    | succ t =>
      unfold obM
      rw [no_find V1.1.1 (fun y hy => decide_eq_false (hno y hy))]
  cases hfd : V.1.1.find? (fun f => decide (f.2.1 = 2)) with
  | none =>
    have hno : ∀ f, f ∈ V.1.1 → ¬ f.2.1 = 2 := fun f hf => of_decide_eq_false (find_no V.1.1 hfd f hf)
    rw [ob0 _ V hno] at h
    exact scan FU 0 S V (by omega) (Nat.zero_le _) hO hno (h S hO hno h21 mfr_refl)
  | some x =>
    obtain ⟨p, hp, hx, hbef⟩ := find_idx _ _ hfd
    have hx2 : x.2.1 = 2 := of_decide_eq_true hx
    have lp := lt_of_some hp
    have eT := totF_take hp
    have hT := hO.1.1.2.2.1
    obtain ⟨n1, n2, n3⟩ := rf_n hO.1 hp
    obtain ⟨t, ht⟩ : ∃ t, V.1.1.length = t + 1 := ⟨V.1.1.length - 1, by omega⟩
    have key : ∀ V', SrtF V'.1.1 → (∀ f, f ∈ V'.1.1 → f ∈ V.1.1) → ∀ f, f ∈ (opDis x.1 2 V').1.1 → ¬ f.2.1 = 2 := by
      intro V' hS' hsub f hf c
      rw [opDis_files] at hf
      obtain ⟨q1, q2⟩ := (mem_disF hS').mp hf
      exact q2 ⟨hone f x (hsub f q1) (List.mem_of_getElem? hp) c hx2, c⟩
    have fini : ∀ (w : Nat) (S1 : MS) (V' : VC), 5000 < w → OR S1 (opDis x.1 2 V') → SrtF V'.1.1 → (∀ f, f ∈ V'.1.1 → f ∈ V.1.1) → obM V.1.1.length V = obM t (opDis x.1 2 V') → mfr [4, 8, 12, 22] [1, 2, 3, 4, 5, 6, 7, 21] S S1 → (S1.2 21).length = 4200 → okM m g (X9_marks_b2 w m 0) S1 (fun v S2 => okM m g (k v) S2 Q) := by
      intro w S1 V' hw O1 hS' hsub hob hf1 hl1
      have hno := key V' hS' hsub
      rw [ob0 _ _ hno] at hob
      rw [hob] at h
      have hl2 := O1.1.1.2.2.2
      exact scan w 0 S1 _ (by omega) (Nat.zero_le _) O1 hno (h S1 O1 hno hl1 hf1)
    have first : ∀ (w i : Nat), p - i + 5001 < w → i ≤ p → okM m g (X9_marks_b2 w m (nI i)) S (fun v S2 => okM m g (k v) S2 Q) := by
      intro w
      induction w with
      | zero => intro i h; omega
      | succ w ih =>
        intro i hw hi
        show okM m g (X9_marks_b2b (X9_marks_b2 w) m (nI i)) S _
        unfold X9_marks_b2b
        refine oM_gI hM ?_
        rw [hO.1.1.1]
        by_cases c : i < p
        · obtain ⟨f, hf⟩ := some_of_lt (show i < V.1.1.length by omega)
          obtain ⟨m1, m2, m3⟩ := rf_n hO.1 hf
          refine oM_itF (nI_ge (show i < V.1.1.length by omega) (by omega)) (oM_gR hM (oM_al (q := 3) hM rfl m2 (oM_itF (of_decide_eq_false (hbef i f c hf)) ?_)))
          rw [nI_1]
          exact ih (i + 1) (by omega) (by omega)
        · have ei : i = p := by omega
          subst ei
          refine oM_itF (nI_ge lp (by omega)) (oM_gR hM (oM_al (q := 3) hM rfl n2 (oM_itT hx2 (oM_gR hM (oM_al (q := 2) hM rfl n1 (oM_ck hM (m_isGoodMark hM hO.1 hp rfl ?_)))))))
          have obx : obM V.1.1.length V = obM t (opDis x.1 2 (match gmk x.2.2.1 with
            | true => opN x.2.2.1 ((x.2.2.1.length - 8) / 4) 4 V
            | false => V)) := by
            rw [ht]
            conv => lhs; unfold obM
            rw [hfd]
            rfl
          cases hg : gmk x.2.2.1 with
          | false =>
            rw [hg] at obx
            refine oM_itT (by decide) ?_
            unfold X9_marks_b98
            refine mk_b101 (S := S) (V := V) (l := []) (n := 0) hM (by omega) (fun S' V' O' f' e' => ?_) FU 0 S V (by omega) (Nat.le_refl _) hO rfl mfr_refl h21 (fun j _ hj => absurd hj (Nat.not_lt_zero j))
            have e' : V' = V := e'
            rw [e'] at O'
            exact fini w S' V (by omega) O' hO.2.2.1 (fun f hf => hf) obx (mfr_mono f' (by decide) (by decide)) (by rw [f'.2 21 (by decide)]; exact h21)
          | true =>
            rw [hg] at obx
            obtain ⟨g1, g2⟩ := gmk_many hg (by omega)
            generalize hn : (x.2.2.1.length - 8) / 4 = n at *
            refine oM_itF (by decide) (oM_ck hM (m_startOf hM hO.1 rfl (by omega) (oM_gR hM (m_num4f hM hO.1 hp (j := 0) (by omega) rfl ?_))))
            have g1 : bnm x.2.2.1 (nI 0) = nI n := g1
            rw [g1]
            have lins : ∀ (u c : Nat) (S1 : MS), n - c < u → c ≤ n → mfr [] [21] S S1 → (S1.2 21).length = 4200 → (∀ j, j < c → (S1.2 21)[j]? = some (bnm x.2.2.1 (nI (4 + 4 * j)))) → okM m g (X9_marks_b63 (X9_marks_b2 w) u m x.1 (nI n) (nI (totF (V.1.1.take i))) (nI c)) S1 (fun v S2 => okM m g (k v) S2 Q) := by
              intro u
              induction u with
              | zero => intro c S1 h; omega
              | succ u iu =>
                intro c S1 hu hc f1 l1 hj
                show okM m g (X9_marks_b63b (X9_marks_b2 w) (X9_marks_b63 (X9_marks_b2 w) u) m x.1 (nI n) (nI (totF (V.1.1.take i))) (nI c)) S1 _
                unfold X9_marks_b63b
                have O1 : OR S1 V := OR_fr hO f1 (by decide) (by decide) (by decide) (by decide) (by decide) (by decide) (by decide) (fun q hq => by simp only [List.mem_cons, List.not_mem_nil, or_false]; omega)
                by_cases cc : c < n
                · have ex : nI (totF (V.1.1.take i)) + 4 + 4 * nI c = nI (totF (V.1.1.take i) + (4 + 4 * c)) := by
                    rw [nI_4, show nI (totF (V.1.1.take i)) + 4 = nI (totF (V.1.1.take i) + 4) from nI_add _ 4, nI_add, Nat.add_assoc]
                  refine oM_itF (nI_ge cc (by omega)) (oM_gR hM (oM_gR hM (m_num4f hM O1.1 hp (by omega) ex (oM_as (q := 21) (i := c) hM rfl (by omega) ?_))))
                  rw [nI_1]
                  refine iu (c + 1) _ (by omega) (by omega) (mfr_tr f1 (mfr_A (by decide))) ?_ (fun j hjc => ?_)
                  · show ((S1.2 21).set c _).length = _
                    rw [List.length_set]
                    exact l1
                  · show ((S1.2 21).set c _)[j]? = _
                    rw [List.getElem?_set]
                    by_cases e : c = j
                    · subst e
                      rw [if_pos rfl, if_pos (by omega)]
                      rfl
                    · rw [if_neg e]
                      exact hj j (by omega)
                · have ec : c = n := by omega
                  subst ec
                  refine oM_itT (nI_le (Nat.le_refl _) (by omega)) ?_
                  unfold X9_marks_b98
                  refine mk_b101 (S := S1) (V := V) (l := x.2.2.1) (n := c) hM (by omega) (fun S' V' O' f' e' => ?_) FU 0 S1 V (by omega) (Nat.zero_le _) O1 rfl mfr_refl l1 (fun j _ hj2 => hj j hj2)
                  rw [e'] at O'
                  refine fini w S' (opN x.2.2.1 c 4 V) (by omega) O' ?_ (fun f hf => opN_mem _ _ _ hO.2.2.1 hf) obx (mfr_tr (mfr_mono f1 (by decide) (by decide)) (mfr_mono f' (by decide) (by decide))) (by rw [f'.2 21 (by decide)]; exact l1)
                  have srtN : ∀ (q z : Nat) (W : VC), SrtF W.1.1 → SrtF (opN x.2.2.1 q z W).1.1 := by
                    intro q
                    induction q with
                    | zero => intro z W hW; exact hW
                    | succ q iq =>
                      intro z W hW
                      exact iq (z + 4) _ (by rw [opDis_files, opDis_files]; exact srt_dis (srt_dis hW))
                  exact srtN c 4 V hO.2.2.1
            exact lins FU 0 S (by omega) (Nat.zero_le _) mfr_refl h21 (fun j hj => absurd hj (Nat.not_lt_zero j))
    exact first FU 0 (by omega) (Nat.zero_le _)
end
