/-! the reference's files -/
def totF : List AF → Nat
  | [] => 0
  | f :: fs => f.2.2.1.length + totF fs
def RepF (S : MS) (fs : List AF) : Prop := (S.1 8 = nI fs.length ∧ S.1 4 = nI (totF fs) ∧ totF fs ≤ 16384 ∧ fs.length ≤ 4000) ∧ ((S.2 1).length = 16384 ∧ (S.2 2).length = 4200 ∧ (S.2 3).length = 4200 ∧ (S.2 4).length = 4200) ∧ (S.2 2).take fs.length = fs.map (fun f => f.1) ∧ (S.2 3).take fs.length = fs.map (fun f => f.2.1) ∧ (S.2 4).take fs.length = fs.map (fun f => nI f.2.2.1.length) ∧ (S.2 1).take (totF fs) = fs.flatMap (fun f => f.2.2.1) ∧ (∀ v, v ∈ S.2 1 → b8 v = v)
theorem pre_get {α : Type} {A l : List α} {i n : Nat} {v : α} (h : A.take n = l) (hi : l[i]? = some v) : A[i]? = some v := by
  rw [← h, List.getElem?_take] at hi
  split at hi
  · exact hi
  · cases hi
theorem totF_app (a b : List AF) : totF (a ++ b) = totF a + totF b := by
  induction a with
  | nil => simp [totF]
  | cons f a ih =>
    show f.2.2.1.length + totF (a ++ b) = f.2.2.1.length + totF a + totF b
    omega
theorem totF_len (fs : List AF) : (fs.flatMap (fun f => f.2.2.1)).length = totF fs := by
  induction fs with
  | nil => rfl
  | cons f fs ih =>
    rw [List.flatMap_cons, List.length_append, ih]
    rfl
theorem totF_take {fs : List AF} {i : Nat} {f : AF} (h : fs[i]? = some f) : totF fs = totF (fs.take i) + f.2.2.1.length + totF (fs.drop (i + 1)) := by
  have e : fs = fs.take i ++ f :: fs.drop (i + 1) := by rw [← drop_cons h, List.take_append_drop]
  conv => lhs; rw [e]
  rw [totF_app]
  show totF (fs.take i) + (f.2.2.1.length + totF (fs.drop (i + 1))) = _
  omega
theorem totF_le {fs : List AF} {i : Nat} : totF (fs.take i) ≤ totF fs := by
  conv => rhs; rw [← List.take_append_drop i fs]
  rw [totF_app]
  omega
/-- byte j of file i, on the reference's disk -/
theorem dsk_get {S : MS} {fs : List AF} {i j : Nat} {f : AF} {v : Int32} (hR : RepF S fs) (h : fs[i]? = some f) (hj : f.2.2.1[j]? = some v) : (S.2 1)[totF (fs.take i) + j]? = some v := by
  have e : fs = fs.take i ++ f :: fs.drop (i + 1) := by rw [← drop_cons h, List.take_append_drop]
  have hjl := lt_of_some hj
  refine pre_get hR.2.2.2.2.2.1 ?_
  have e2 : fs.flatMap (fun f => f.2.2.1) = (fs.take i).flatMap (fun f => f.2.2.1) ++ (f.2.2.1 ++ (fs.drop (i + 1)).flatMap (fun f => f.2.2.1)) := by
    conv => lhs; rw [e]
    rw [List.flatMap_append, List.flatMap_cons]
  rw [e2, List.getElem?_append_right (by rw [totF_len]; omega), totF_len, Nat.add_sub_cancel_left, List.getElem?_append_left hjl]
  exact hj
section
variable {m : Nat} {g : Gh} {S : MS} {α : Type} {Q : α → MS → Prop} {fs : List AF}
theorem rf_n {i : Nat} {f : AF} (hR : RepF S fs) (h : fs[i]? = some f) : (S.2 2)[i]? = some f.1 ∧ (S.2 3)[i]? = some f.2.1 ∧ (S.2 4)[i]? = some (nI f.2.2.1.length) := by
  refine ⟨pre_get hR.2.2.1 ?_, pre_get hR.2.2.2.1 ?_, pre_get hR.2.2.2.2.1 ?_⟩ <;> rw [List.getElem?_map, h] <;> rfl
theorem m_fileAt_loop {a b : Int32} {Q : Int32 → MS → Prop} (hM : Mk m g) (hR : RepF S fs) : ∀ (w i : Nat), fs.length - i < w → i ≤ fs.length → (∀ j f, i ≤ j → fs[j]? = some f → f.1 = a → f.2.1 = b → (∀ j' f', i ≤ j' → j' < j → fs[j']? = some f' → ¬ (f'.1 = a ∧ f'.2.1 = b)) → Q (nI j) S) → ((∀ j f, i ≤ j → fs[j]? = some f → ¬ (f.1 = a ∧ f.2.1 = b)) → Q (-1) S) → okM m g (X9_fileAt_b2 w m a b (nI i)) S Q := by
  intro w
  induction w with
  | zero => intro i h; omega
  | succ w ih =>
    intro i hw hi h1 h2
    show okM m g (X9_fileAt_b2b (X9_fileAt_b2 w) m a b (nI i)) S Q
    unfold X9_fileAt_b2b X9_fileAt_b32
    have hl := hR.1.2.2.2
    refine oM_gI hM ?_
    rw [hR.1.1]
    by_cases c : i < fs.length
    · obtain ⟨f, hf⟩ := some_of_lt c
      obtain ⟨n1, n2, n3⟩ := rf_n hR hf
      have next : ¬ (f.1 = a ∧ f.2.1 = b) → okM m g (X9_fileAt_b2 w m a b (nI i + 1)) S Q := by
        intro hn
        rw [nI_1]
        refine ih (i + 1) (by omega) (by omega) (fun j x hj hx ha hb hbef => h1 j x (by omega) hx ha hb (fun j' f' q1 q2 q3 => ?_)) (fun hno => h2 (fun j x hj hx => ?_))
        · rcases Nat.lt_or_ge i j' with q | q
          · exact hbef j' f' (by omega) q2 q3
          · have : j' = i := by omega
            subst this
            rw [hf] at q3
            cases q3
            exact hn
        · rcases Nat.lt_or_ge i j with q | q
          · exact hno j x (by omega) hx
          · have : j = i := by omega
            subst this
            rw [hf] at hx
            cases hx
            exact hn
      refine oM_itF (nI_ge c (by omega)) (oM_gR hM (oM_al (q := 2) hM rfl n1 ?_))
      by_cases c1 : f.1 = a
      · refine oM_itF (fun q => q c1) (oM_gR hM (oM_al (q := 3) hM rfl n2 ?_))
        by_cases c2 : f.2.1 = b
        · exact oM_itF (fun q => q c2) (oM_pu (h1 i f (Nat.le_refl _) hf c1 c2 (fun j' f' q1 q2 => by omega)))
        · exact oM_itT c2 (next (fun q => c2 q.2))
      · exact oM_itT c1 (next (fun q => c1 q.1))
    · refine oM_itT (nI_le (by omega) (by omega)) (oM_pu (h2 (fun j f hj hf => ?_)))
      have := lt_of_some hf
      omega
theorem fndF_some {fs : List AF} {a b : Int32} {f : AF} (h : fndF a b fs = some f) : fs[plF a b fs]? = some f ∧ f.1 = a ∧ f.2.1 = b := by
  obtain ⟨h1, h2⟩ := Option.filter_eq_some_iff.mp h
  exact ⟨h1, of_decide_eq_true h2⟩
theorem fndF_at {fs : List AF} {i : Nat} {f : AF} (hS : SrtF fs) (h : fs[i]? = some f) : fndF f.1 f.2.1 fs = some f ∧ plF f.1 f.2.1 fs = i := by
  have hp := plF_self hS h
  refine ⟨?_, hp⟩
  unfold fndF
  rw [hp, h]
  simp only [Option.filter_some]
  rw [if_pos]
  exact decide_eq_true ⟨rfl, rfl⟩
theorem m_fileAt {a b : Int32} {k : Int32 → M α} (hM : Mk m g) (hR : RepF S fs) (hS : SrtF fs) (h1 : ∀ f, fndF a b fs = some f → okM m g (k (nI (plF a b fs))) S Q) (h2 : fndF a b fs = none → okM m g (k (-1)) S Q) : okM m g (bd (X9_fileAt m a b) k) S Q := by
  refine oM_bd ?_
  have hl := hR.1.2.2.2
  have : FU = 1000000 := rfl
  refine m_fileAt_loop hM hR FU 0 (by omega) (Nat.zero_le _) (fun j f _ hf ha hb _ => ?_) (fun hno => h2 ?_)
  · obtain ⟨e1, e2⟩ := fndF_at hS hf
    rw [ha, hb] at e1 e2
    have := h1 f e1
    rw [e2] at this
    exact this
  · cases hw : fndF a b fs with
    | none => rfl
    | some f =>
      obtain ⟨q1, q2, q3⟩ := fndF_some hw
      exact absurd ⟨q2, q3⟩ (hno _ f (Nat.zero_le _) q1)
theorem m_startOf_loop {e : Nat} {Q : Int32 → MS → Prop} (hM : Mk m g) (hR : RepF S fs) (he : e ≤ fs.length) (hq : Q (nI (totF (fs.take e))) S) : ∀ (w i : Nat), e - i < w → i ≤ e → okM m g (X9_startOf_b4 w m (nI e) (nI (totF (fs.take i))) (nI i)) S Q := by
  intro w
  induction w with
  | zero => intro i h; omega
  | succ w ih =>
    intro i hw hi
    show okM m g (X9_startOf_b4b (X9_startOf_b4 w) m (nI e) (nI (totF (fs.take i))) (nI i)) S Q
    unfold X9_startOf_b4b
    have hl := hR.1.2.2.2
    by_cases c : i < e
    · obtain ⟨f, hf⟩ := some_of_lt (show i < fs.length by omega)
      obtain ⟨n1, n2, n3⟩ := rf_n hR hf
      refine oM_itF (nI_ge c (by omega)) (oM_gR hM (oM_al (q := 4) hM rfl n3 (oM_bpu ?_)))
      have e9 : nI (totF (fs.take i)) + nI f.2.2.1.length = nI (totF (fs.take (i + 1))) := by
        rw [nI_add, take_snoc hf, totF_app]
        rfl
      rw [e9, nI_1]
      exact ih (i + 1) (by omega) (by omega)
    · have : i = e := by omega
      subst this
      exact oM_itT (nI_le (Nat.le_refl _) (by omega)) (oM_pu hq)
theorem m_startOf {e : Nat} {x : Int32} {k : Int32 → M α} (hM : Mk m g) (hR : RepF S fs) (hx : x = nI e) (he : e ≤ fs.length) (h : okM m g (k (nI (totF (fs.take e)))) S Q) : okM m g (bd (X9_startOf m x) k) S Q := by
  subst hx
  refine oM_bd ?_
  have hl := hR.1.2.2.2
  have : FU = 1000000 := rfl
  exact m_startOf_loop hM hR he h FU 0 (by omega) (Nat.zero_le _)
theorem m_sizeOf {a b : Int32} {k : Int32 → M α} (hM : Mk m g) (hR : RepF S fs) (hS : SrtF fs) (h : okM m g (k (nI (szF a b fs))) S Q) : okM m g (bd (X9_sizeOf m a b) k) S Q := by
  refine oM_bd ?_
  unfold X9_sizeOf
  have hl := hR.1.2.2.2
  refine oM_ck hM (m_fileAt hM hR hS (fun f hf => ?_) (fun hn => ?_))
  · obtain ⟨q1, q2, q3⟩ := fndF_some hf
    obtain ⟨n1, n2, n3⟩ := rf_n hR q1
    have hp := lt_of_some q1
    unfold szF at h
    rw [hf] at h
    exact oM_itT (nI_pos' (by omega)) (oM_gR hM (oM_al (q := 4) hM rfl n3 (oM_pu h)))
  · unfold szF at h
    rw [hn] at h
    exact oM_itF (by decide) (oM_pu h)
theorem m_room {k : Int32 → M α} (hM : Mk m g) (h : okM m g (k (S.1 1 - S.1 4)) S Q) : okM m g (bd (X9_room m) k) S Q := by
  refine oM_bd ?_
  unfold X9_room
  exact oM_gI hM (oM_gI hM (oM_pu h))
end
