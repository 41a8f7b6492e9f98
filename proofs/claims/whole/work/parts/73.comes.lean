/-! the reference: bytes come to a file -/
def mfr (J K : List Nat) (S S' : MS) : Prop := (∀ j, j ∉ J → S'.1 j = S.1 j) ∧ (∀ q, q ∉ K → S'.2 q = S.2 q)
theorem mfr_refl {J K : List Nat} {S : MS} : mfr J K S S := ⟨fun _ _ => rfl, fun _ _ => rfl⟩
theorem mfr_tr {J K : List Nat} {S S1 S2 : MS} (h : mfr J K S S1) (h2 : mfr J K S1 S2) : mfr J K S S2 := ⟨fun j hj => (h2.1 j hj).trans (h.1 j hj), fun q hq => (h2.2 q hq).trans (h.2 q hq)⟩
theorem mfr_mono {J K J' K' : List Nat} {S S' : MS} (h : mfr J K S S') (hJ : ∀ j, j ∈ J → j ∈ J') (hK : ∀ j, j ∈ K → j ∈ K') : mfr J' K' S S' := ⟨fun j hj => h.1 j (fun q => hj (hJ j q)), fun j hj => h.2 j (fun q => hj (hK j q))⟩
theorem mfr_I {J K : List Nat} {S : MS} {j : Nat} {v : Int32} (h : j ∈ J) : mfr J K S (upI S j v) := ⟨fun i hi => vu_ne (fun q => hi (q ▸ h)), fun _ _ => rfl⟩
theorem mfr_A {J K : List Nat} {S : MS} {q : Nat} {l : List Int32} (h : q ∈ K) : mfr J K S (upA S q l) := ⟨fun _ _ => rfl, fun i hi => vu_ne (fun e => hi (e ▸ h))⟩
def RepP (S : MS) (ps : List AV) : Prop := (S.1 12 = nI ps.length ∧ ps.length ≤ 4100) ∧ ((S.2 5).length = 4200 ∧ (S.2 6).length = 4200 ∧ (S.2 7).length = 4200) ∧ (S.2 5).take ps.length = ps.map (fun p => p.1) ∧ (S.2 6).take ps.length = ps.map (fun p => p.2.1) ∧ (S.2 7).take ps.length = ps.map (fun p => p.2.2)
theorem repP_fr {S S' : MS} {ps : List AV} {J K : List Nat} (h : RepP S ps) (hf : mfr J K S S') (h12 : 12 ∉ J) (h5 : 5 ∉ K) (h6 : 6 ∉ K) (h7 : 7 ∉ K) : RepP S' ps := by
  unfold RepP at *
  rw [hf.1 12 h12, hf.2 5 h5, hf.2 6 h6, hf.2 7 h7]
  exact h
theorem repF_fr {S S' : MS} {fs : List AF} {J K : List Nat} (h : RepF S fs) (hf : mfr J K S S') (j4 : 4 ∉ J) (j8 : 8 ∉ J) (h1 : 1 ∉ K) (h2 : 2 ∉ K) (h3 : 3 ∉ K) (h4 : 4 ∉ K) : RepF S' fs := by
  unfold RepF at *
  rw [hf.1 4 j4, hf.1 8 j8, hf.2 1 h1, hf.2 2 h2, hf.2 3 h3, hf.2 4 h4]
  exact h
/-- files that differ in nothing that the reference has -/
theorem totF_congr : ∀ {fs fs' : List AF}, fs.map (fun f => (f.1, f.2.1, f.2.2.1)) = fs'.map (fun f => (f.1, f.2.1, f.2.2.1)) → totF fs = totF fs' ∧ fs.length = fs'.length ∧ fs.map (fun f => f.1) = fs'.map (fun f => f.1) ∧ fs.map (fun f => f.2.1) = fs'.map (fun f => f.2.1) ∧ fs.map (fun f => nI f.2.2.1.length) = fs'.map (fun f => nI f.2.2.1.length) ∧ fs.flatMap (fun f => f.2.2.1) = fs'.flatMap (fun f => f.2.2.1)
  | [], [], _ => ⟨rfl, rfl, rfl, rfl, rfl, rfl⟩
  | [], _ :: _, h => by cases h
  | _ :: _, [], h => by cases h
  | f :: fs, f' :: fs', h => by
    simp only [List.map_cons, List.cons.injEq, Prod.mk.injEq] at h
    obtain ⟨⟨e1, e2, e3⟩, e4⟩ := h
    obtain ⟨i1, i2, i3, i4, i5, i6⟩ := totF_congr e4
    refine ⟨?_, ?_, ?_, ?_, ?_, ?_⟩
    · show f.2.2.1.length + totF fs = f'.2.2.1.length + totF fs'
      rw [e3, i1]
    · simp only [List.length_cons, i2]
    · simp only [List.map_cons, e1, i3]
    · simp only [List.map_cons, e2, i4]
    · simp only [List.map_cons, e3, i5]
    · simp only [List.flatMap_cons, e3, i6]
theorem repF_congr {S : MS} {fs fs' : List AF} (h : RepF S fs) (e : fs.map (fun f => (f.1, f.2.1, f.2.2.1)) = fs'.map (fun f => (f.1, f.2.1, f.2.2.1))) : RepF S fs' := by
  obtain ⟨i1, i2, i3, i4, i5, i6⟩ := totF_congr e
  unfold RepF at *
  rw [← i1, ← i2, ← i3, ← i4, ← i5, ← i6]
  exact h
theorem take_set_ins {α : Type} {A l : List α} {f : Nat} {x : α} (h : A.take l.length = l) (hf : f ≤ l.length) (hl : l.length + 1 ≤ A.length) : ((shr A f l.length 1).set f x).take (l.length + 1) = l.take f ++ x :: l.drop f := by
  have lf : (l.take f).length = f := by rw [List.length_take]; omega
  have hA : ∀ j, j < l.length → A[j]? = l[j]? := by
    intro j hj
    have e : l[j]? = (A.take l.length)[j]? := by rw [h]
    rw [e, List.getElem?_take, if_pos hj]
  apply List.ext_getElem?
  intro j
  rw [List.getElem?_take]
  by_cases c0 : j < l.length + 1
  · rw [if_pos c0, List.getElem?_set, shr_len hf hl, shr_get hf hl]
    by_cases c1 : f = j
    · subst c1
      rw [if_pos rfl, if_pos (by omega), List.getElem?_append_right (by omega), lf, Nat.sub_self]
      rfl
    · rw [if_neg c1]
      by_cases c2 : j < f + 1
      · rw [if_pos c2, List.getElem?_append_left (by omega), List.getElem?_take, if_pos (by omega)]
        exact hA j (by omega)
      · rw [if_neg c2, if_pos (by omega), List.getElem?_append_right (by omega), lf, show j - f = (j - f - 1) + 1 by omega, List.getElem?_cons_succ, List.getElem?_drop, hA _ (by omega)]
        congr 1
        omega
  · rw [if_neg c0, List.getElem?_eq_none]
    simp only [List.length_append, List.length_cons, List.length_take, List.length_drop]
    omega
def up3 (S : MS) (a b c : List Int32) : MS := (S.1, fun q => if q = 2 then a else if q = 3 then b else if q = 4 then c else S.2 q)
theorem up3_up {S : MS} {a b c a' b' c' : List Int32} : upA (upA (upA (up3 S a b c) 2 a') 3 b') 4 c' = up3 S a' b' c' := by
  unfold upA up3
  congr 1
  funext q
  dsimp only
  unfold va_up
  by_cases c2 : q = 2
  · subst c2
    rfl
  · by_cases c3 : q = 3
    · subst c3
      rfl
    · by_cases c4 : q = 4
      · subst c4
        rfl
      · simp only [if_neg c4, if_neg c3, if_neg c2]
theorem up3_id {S : MS} : up3 S (S.2 2) (S.2 3) (S.2 4) = S := by
  unfold up3
  have : (fun q => if q = 2 then S.2 2 else if q = 3 then S.2 3 else if q = 4 then S.2 4 else S.2 q) = S.2 := by
    funext q
    by_cases c2 : q = 2
    · subst c2
      rfl
    · rw [if_neg c2]
      by_cases c3 : q = 3
      · subst c3
        rfl
      · rw [if_neg c3]
        by_cases c4 : q = 4
        · subst c4
          rfl
        · rw [if_neg c4]
  rw [this]
section
variable {m : Nat} {g : Gh} {S : MS} {α : Type} {fs : List AF} {ps : List AV}
/-- the draft's bytes -/
def RepD (S : MS) (part : List Int32) : Prop := S.1 14 = nI part.length ∧ (S.2 8).length = 16484 ∧ (S.2 8).take part.length = part ∧ part.length ≤ 16384 ∧ nrm (S.2 8)
theorem nrm_part {part : List Int32} (h : RepD S part) : nrm part := fun v hv => h.2.2.2.2 v (List.mem_of_mem_take (by rw [h.2.2.1]; exact hv))
/-- what holds behind: bytes came to file f -/
def Come (S S' : MS) (fs : List AF) (ps : List AV) (f : Nat) (x : AF) (a b : Int32) (part : List Int32) : Prop := RepF S' (fs.set f (x.1, x.2.1, x.2.2.1 ++ part, 0, 0)) ∧ RepP S' (ps ++ [(a, b, nI part.length)]) ∧ S'.1 14 = 0 ∧ mfr [4, 8, 12, 14] [1, 2, 3, 4, 5, 6, 7] S S'
theorem m_b228 {a b : Int32} {f en : Nat} {x : AF} {part D : List Int32} {Q : Unit → MS → Prop} (hM : Mk m g) (hR : RepF S fs) (hP : RepP S ps) (hD : RepD S part) (hf : fs[f]? = some x) (hps : ps.length < 4100) (hen : en + part.length ≤ 16384) (hDl : D.length = 16384) (hq : ∀ S', S' = upI (upI (upA (upA (upA (upA (upI (upA S 1 (wrt D en part)) 4 (nI (totF fs + part.length))) 4 ((S.2 4).set f (nI (x.2.2.1.length + part.length)))) 5 ((S.2 5).set ps.length a)) 6 ((S.2 6).set ps.length b)) 7 ((S.2 7).set ps.length (nI part.length))) 12 (nI (ps.length + 1))) 14 0 → Q () S') : ∀ (w k : Nat), part.length - k < w → k ≤ part.length → okM m g (X9_comes_b228 w m a b (nI f) (nI en) (nI k)) (upA S 1 (wrt D en (part.take k))) Q := by
  intro w
  induction w with
  | zero => intro k h; omega
  | succ w ih =>
    intro k hw hk
    show okM m g (X9_comes_b228b (X9_comes_b228 w) m a b (nI f) (nI en) (nI k)) _ Q
    unfold X9_comes_b228b
    have i14 : (upA S 1 (wrt D en (part.take k))).1 14 = nI part.length := hD.1
    refine oM_gI hM ?_
    rw [i14]
    have hpl := hD.2.2.2.1
    by_cases c : k < part.length
    · obtain ⟨v, hv⟩ := some_of_lt c
      have hv8 : ((upA S 1 (wrt D en (part.take k))).2 8)[k]? = some v := pre_get (A := S.2 8) hD.2.2.1 hv
      have hb8 : b8 v = v := nrm_get (nrm_part hD) hv
      have ltk : (part.take k).length = k := by rw [List.length_take]; omega
      refine oM_itF (nI_ge c (by omega)) (oM_gR hM (oM_gR hM (oM_al (q := 8) hM rfl hv8 (oM_as (q := 1) (i := en + k) hM (nI_add en k) ?_ ?_))))
      · show en + k < (wrt D en (part.take k)).length
        rw [wrt_len (by omega)]
        omega
      · rw [nI_1]
        have e : upA (upA S 1 (wrt D en (part.take k))) 1 (((upA S 1 (wrt D en (part.take k))).2 1).set (en + k) (if (21 : Nat) = 21 then v.toInt8.toInt32 else v)) = upA S 1 (wrt D en (part.take (k + 1))) := by
          rw [if_pos rfl]
          have e1 : v.toInt8.toInt32 = v := hb8
          rw [e1]
          show (S.1, va_up (va_up S.2 1 _) 1 _) = _
          rw [va_va]
          have e2 : (upA S 1 (wrt D en (part.take k))).2 1 = wrt D en (part.take k) := rfl
          rw [e2, wrt_step hv (by omega)]
          rfl
        rw [e]
        exact ih (k + 1) (by omega) (by omega)
    · have ek : k = part.length := by omega
      subst ek
      obtain ⟨n1, n2, n3⟩ := rf_n hR hf
      have hfl := lt_of_some hf
      have hR4 := hR.2.1.2.2.2
      have hP5 := hP.2.1
      refine oM_itT (nI_le (Nat.le_refl _) (by omega)) (oM_gI hM (oM_gI hM (oM_pI hM (oM_gR hM (oM_al (q := 4) hM rfl n3 (oM_gI hM (oM_as (q := 4) hM rfl ?_ (oM_gR hM (oM_gI hM (oM_as (q := 5) (i := ps.length) hM ?_ ?_ (oM_gR hM (oM_gI hM (oM_as (q := 6) (i := ps.length) hM ?_ ?_ (oM_gR hM (oM_gI hM (oM_gI hM (oM_as (q := 7) (i := ps.length) hM ?_ ?_ (oM_gI hM (oM_pI hM (oM_pI hM (oM_pu (hq _ ?_))))))))))))))))))))))
      · show f < (S.2 4).length
        have := hR.1.2.2.2
        omega
      · exact hP.1.1
      · show ps.length < (S.2 5).length
        omega
      · exact hP.1.1
      · show ps.length < (S.2 6).length
        omega
      · exact hP.1.1
      · show ps.length < (S.2 7).length
        omega
      · have e4 : S.1 4 = nI (totF fs) := hR.1.2.1
        have e12 : S.1 12 = nI ps.length := hP.1.1
        have e14 : S.1 14 = nI part.length := hD.1
        rw [List.take_length]
        show upI (upI _ 12 (S.1 12 + 1)) 14 0 = _
        rw [e12, nI_1]
        have a1 : nI x.2.2.1.length + nI part.length = nI (x.2.2.1.length + part.length) := nI_add _ _
        have a2 : nI (totF fs) + nI part.length = nI (totF fs + part.length) := nI_add _ _
        rw [← a1, ← a2, ← e14, ← e4]
        rfl
end
