theorem disk_come {A X Y part : List Int32} (h : A.take (X.length + Y.length) = X ++ Y) (hl : X.length + Y.length + part.length ≤ A.length) : (wrt (shr A X.length (X.length + Y.length) part.length) X.length part).take (X.length + Y.length + part.length) = X ++ part ++ Y := by
  have hA : ∀ j, j < X.length + Y.length → A[j]? = (X ++ Y)[j]? := by
    intro j hj
    rw [← h, List.getElem?_take, if_pos hj]
  have hs : (shr A X.length (X.length + Y.length) part.length).length = A.length := shr_len (by omega) (by omega)
  apply List.ext_getElem?
  intro j
  rw [List.getElem?_take]
  by_cases c0 : j < X.length + Y.length + part.length
  · rw [if_pos c0, wrt_get (by omega), List.append_assoc]
    by_cases c1 : j < X.length
    · rw [if_pos c1, shr_get (by omega) (by omega), if_pos (by omega), hA j (by omega), List.getElem?_append_left c1, List.getElem?_append_left c1]
    · rw [if_neg c1, List.getElem?_append_right (by omega)]
      by_cases c2 : j < X.length + part.length
      · rw [if_pos c2, List.getElem?_append_left (by omega)]
      · rw [if_neg c2, shr_get (by omega) (by omega), if_neg (by omega), if_pos (by omega), hA _ (by omega), List.getElem?_append_right (by omega), List.getElem?_append_right (by omega)]
        congr 1
        omega
  · rw [if_neg c0, List.getElem?_eq_none]
    simp only [List.length_append]
    omega
theorem set_split {α : Type} {l : List α} {i : Nat} {x y : α} (h : l[i]? = some x) : l.set i y = l.take i ++ y :: l.drop (i + 1) := by
  have hi := lt_of_some h
  rw [List.set_eq_take_append_cons_drop, if_pos hi]
theorem take_set {α : Type} {A : List α} {i n : Nat} {x : α} : (A.set i x).take n = (A.take n).set i x := List.take_set ..
theorem take_snoc_set {α : Type} {A l : List α} {x : α} (h : A.take l.length = l) (hl : l.length < A.length) : (A.set l.length x).take (l.length + 1) = l ++ [x] := by
  rw [List.take_add_one, List.getElem?_set, if_pos rfl, if_pos hl, List.take_set, h, List.set_eq_of_length_le (Nat.le_refl _)]
  rfl
section
variable {m : Nat} {g : Gh} {S : MS} {α : Type} {fs : List AF} {ps : List AV}
theorem come_rep {a b : Int32} {f : Nat} {x : AF} {part : List Int32} (hR : RepF S fs) (hP : RepP S ps) (hD : RepD S part) (hf : fs[f]? = some x) (hps : ps.length < 4100) (ht : totF fs + part.length ≤ 16384) : Come S (upI (upI (upA (upA (upA (upA (upI (upA S 1 (wrt (shr (S.2 1) (totF (fs.take f) + x.2.2.1.length) (totF fs) part.length) (totF (fs.take f) + x.2.2.1.length) part)) 4 (nI (totF fs + part.length))) 4 ((S.2 4).set f (nI (x.2.2.1.length + part.length)))) 5 ((S.2 5).set ps.length a)) 6 ((S.2 6).set ps.length b)) 7 ((S.2 7).set ps.length (nI part.length))) 12 (nI (ps.length + 1))) 14 0) fs ps f x a b part := by
  have hfl := lt_of_some hf
  have eT := totF_take hf
  have efs : fs = fs.take f ++ x :: fs.drop (f + 1) := by rw [← drop_cons hf, List.take_append_drop]
  have esp : fs.set f (x.1, x.2.1, x.2.2.1 ++ part, 0, 0) = fs.take f ++ (x.1, x.2.1, x.2.2.1 ++ part, 0, 0) :: fs.drop (f + 1) := set_split hf
  have etot : totF (fs.set f (x.1, x.2.1, x.2.2.1 ++ part, 0, 0)) = totF fs + part.length := by
    rw [esp, totF_app]
    show totF (fs.take f) + ((x.2.2.1 ++ part).length + totF (fs.drop (f + 1))) = _
    rw [List.length_append]
    omega
  have efl : fs.flatMap (fun f => f.2.2.1) = ((fs.take f).flatMap (fun f => f.2.2.1) ++ x.2.2.1) ++ (fs.drop (f + 1)).flatMap (fun f => f.2.2.1) := by
    conv => lhs; rw [efs]
    rw [List.flatMap_append, List.flatMap_cons, List.append_assoc]
  have efl2 : (fs.set f (x.1, x.2.1, x.2.2.1 ++ part, 0, 0)).flatMap (fun f => f.2.2.1) = ((fs.take f).flatMap (fun f => f.2.2.1) ++ x.2.2.1) ++ part ++ (fs.drop (f + 1)).flatMap (fun f => f.2.2.1) := by
    rw [esp, List.flatMap_append, List.flatMap_cons]
    simp only [List.append_assoc]
  have hX : ((fs.take f).flatMap (fun f => f.2.2.1) ++ x.2.2.1).length = totF (fs.take f) + x.2.2.1.length := by rw [List.length_append, totF_len]
  have hY : ((fs.drop (f + 1)).flatMap (fun f => f.2.2.1)).length = totF (fs.drop (f + 1)) := totF_len _
  obtain ⟨⟨r1, r2, r3, r4⟩, ⟨l1, l2, l3, l4⟩, p2, p3, p4, p1, nr⟩ := hR
  obtain ⟨⟨q1, q2⟩, ⟨s5, s6, s7⟩, t5, t6, t7⟩ := hP
  have hD1 : nrm part := nrm_part hD
  refine ⟨⟨⟨?_, ?_, ?_, ?_⟩, ⟨?_, l2, l3, ?_⟩, ?_, ?_, ?_, ?_, ?_⟩, ⟨⟨?_, ?_⟩, ⟨?_, ?_, ?_⟩, ?_, ?_, ?_⟩, rfl, ?_⟩
  · rw [List.length_set]
    exact r1
  · rw [etot]
    rfl
  · rw [etot]
    exact ht
  · rw [List.length_set]
    exact r4
  · show (wrt (shr (S.2 1) _ _ _) _ part).length = _
    have hs : (shr (S.2 1) (totF (fs.take f) + x.2.2.1.length) (totF fs) part.length).length = (S.2 1).length := shr_len (by omega) (by omega)
    rw [wrt_len (by omega), hs]
    exact l1
  · show ((S.2 4).set f _).length = _
    rw [List.length_set]
    exact l4
  · rw [List.length_set, List.map_set]
    show (S.2 2).take fs.length = _
    rw [p2]
    apply List.ext_getElem?
    intro j
    rw [List.getElem?_set]
    by_cases c : f = j
    · subst c
      rw [if_pos rfl, if_pos (by rw [List.length_map]; exact hfl), List.getElem?_map, hf]
      rfl
    · rw [if_neg c]
  · rw [List.length_set, List.map_set]
    show (S.2 3).take fs.length = _
    rw [p3]
    apply List.ext_getElem?
    intro j
    rw [List.getElem?_set]
    by_cases c : f = j
    · subst c
      rw [if_pos rfl, if_pos (by rw [List.length_map]; exact hfl), List.getElem?_map, hf]
      rfl
    · rw [if_neg c]
  · rw [List.length_set, List.map_set]
    show ((S.2 4).set f (nI (x.2.2.1.length + part.length))).take fs.length = _
    rw [List.take_set, p4, List.length_append]
  · rw [etot, efl2]
    show (wrt (shr (S.2 1) (totF (fs.take f) + x.2.2.1.length) (totF fs) part.length) (totF (fs.take f) + x.2.2.1.length) part).take (totF fs + part.length) = _
    have := disk_come (A := S.2 1) (X := (fs.take f).flatMap (fun f => f.2.2.1) ++ x.2.2.1) (Y := (fs.drop (f + 1)).flatMap (fun f => f.2.2.1)) (part := part) (by rw [hX, hY, ← efl, ← p1]; congr 1; omega) (by rw [hX, hY]; omega)
    rw [hX, hY, ← eT] at this
    exact this
  · exact nrm_wrt (nrm_shr nr) hD1
  · rw [List.length_append]
    rfl
  · rw [List.length_append]
    show ps.length + 1 ≤ _
    omega
  · show ((S.2 5).set ps.length a).length = _
    rw [List.length_set]
    exact s5
  · show ((S.2 6).set ps.length b).length = _
    rw [List.length_set]
    exact s6
  · show ((S.2 7).set ps.length (nI part.length)).length = _
    rw [List.length_set]
    exact s7
  · rw [List.length_append, List.map_append]
    show ((S.2 5).set ps.length a).take (ps.length + 1) = _
    have := take_snoc_set (A := S.2 5) (l := ps.map (fun p => p.1)) (x := a) (by rw [List.length_map]; exact t5) (by rw [List.length_map]; omega)
    rw [List.length_map] at this
    exact this
  · rw [List.length_append, List.map_append]
    show ((S.2 6).set ps.length b).take (ps.length + 1) = _
    have := take_snoc_set (A := S.2 6) (l := ps.map (fun p => p.2.1)) (x := b) (by rw [List.length_map]; exact t6) (by rw [List.length_map]; omega)
    rw [List.length_map] at this
    exact this
  · rw [List.length_append, List.map_append]
    show ((S.2 7).set ps.length (nI part.length)).take (ps.length + 1) = _
    have := take_snoc_set (A := S.2 7) (l := ps.map (fun p => p.2.2)) (x := nI part.length) (by rw [List.length_map]; exact t7) (by rw [List.length_map]; omega)
    rw [List.length_map] at this
    exact this
  · refine mfr_tr (mfr_tr (mfr_tr (mfr_tr (mfr_tr (mfr_tr (mfr_tr (mfr_A ?_) (mfr_I ?_)) (mfr_A ?_)) (mfr_A ?_)) (mfr_A ?_)) (mfr_A ?_)) (mfr_I ?_)) (mfr_I ?_) <;> decide
theorem m_b193 {a b : Int32} {f : Nat} {x : AF} {part : List Int32} {Q : Unit → MS → Prop} (hM : Mk m g) (hR : RepF S fs) (hP : RepP S ps) (hD : RepD S part) (hf : fs[f]? = some x) (hps : ps.length < 4100) (ht : totF fs + part.length ≤ 16384) (hq : ∀ S', Come S S' fs ps f x a b part → Q () S') : ∀ (w k : Nat), k - (totF (fs.take f) + x.2.2.1.length) < w → totF (fs.take f) + x.2.2.1.length ≤ k → k ≤ totF fs → okM m g (X9_comes_b193 w m a b (nI f) (nI (totF (fs.take f) + x.2.2.1.length)) (nI k - 1)) (upA S 1 (shr (S.2 1) k (totF fs) part.length)) Q := by
  intro w
  have hl1 := hR.2.1.1
  have eT := totF_take hf
  induction w with
  | zero => intro k h; omega
  | succ w ih =>
    intro k hw hk hk2
    show okM m g (X9_comes_b193b (X9_comes_b193 w) m a b (nI f) (nI (totF (fs.take f) + x.2.2.1.length)) (nI k - 1)) _ Q
    unfold X9_comes_b193b
    have h60 : totF fs ≤ 16384 := hR.1.2.2.1
    by_cases c : k = totF (fs.take f) + x.2.2.1.length
    · refine oM_itT ?_ ?_
      · rw [← c, Int32.lt_iff_toInt_lt, show nI k - 1 = nI k - nI 1 from rfl, nI_subI (by omega) (by omega), nI_toInt (by omega)]
        omega
      · have : FU = 1000000 := rfl
        have hz := m_b228 (S := S) (D := shr (S.2 1) k (totF fs) part.length) (en := k) (a := a) (b := b) (Q := Q) hM hR hP hD hf hps (by omega) (by rw [shr_len (by omega) (by omega)]; exact hl1) (fun S' e => ?_) FU 0 (by omega) (Nat.zero_le _)
        · rw [List.take_zero, wrt_nil] at hz
          rw [← c]
          exact hz
        · rw [e, c]
          exact hq _ (come_rep hR hP hD hf hps ht)
    · have e1 : nI k - 1 = nI (k - 1) := nI_subN (b := 1) (by omega)
      rw [e1]
      obtain ⟨v, hv⟩ := some_of_lt (show k - 1 < (S.2 1).length by omega)
      have hb8 : b8 v = v := nrm_get hR.2.2.2.2.2.2 hv
      have hget : ((upA S 1 (shr (S.2 1) k (totF fs) part.length)).2 1)[k - 1]? = some v := by
        show (shr (S.2 1) k (totF fs) part.length)[k - 1]? = _
        rw [shr_get (by omega) (by omega), if_pos (by omega)]
        exact hv
      have i14 : (upA S 1 (shr (S.2 1) k (totF fs) part.length)).1 14 = nI part.length := hD.1
      refine oM_itF (nI_nlt (by omega) (by omega)) (oM_gR hM (oM_gI hM (oM_gR hM (oM_al (q := 1) hM rfl hget (oM_as (q := 1) (i := k - 1 + part.length) hM (by rw [i14]; exact nI_add _ _) ?_ ?_)))))
      · show k - 1 + part.length < (shr (S.2 1) k (totF fs) part.length).length
        rw [shr_len (by omega) (by omega)]
        omega
      · have e2 : nI (k - 1) + -1 = nI (k - 1) - 1 := by rw [Int32.sub_eq_add_neg]
        rw [e2]
        have e : upA (upA S 1 (shr (S.2 1) k (totF fs) part.length)) 1 (((upA S 1 (shr (S.2 1) k (totF fs) part.length)).2 1).set (k - 1 + part.length) (if (21 : Nat) = 21 then v.toInt8.toInt32 else v)) = upA S 1 (shr (S.2 1) (k - 1) (totF fs) part.length) := by
          rw [if_pos rfl]
          have e1 : v.toInt8.toInt32 = v := hb8
          rw [e1]
          show (S.1, va_up (va_up S.2 1 _) 1 _) = _
          rw [va_va]
          have e2 : (upA S 1 (shr (S.2 1) k (totF fs) part.length)).2 1 = shr (S.2 1) k (totF fs) part.length := rfl
          rw [e2]
          have := shr_step (A := S.2 1) (k := k - 1) (hi := totF fs) (d := part.length) (v := v) (by omega) (by omega) hv
          rw [show k - 1 + 1 = k by omega] at this
          rw [this]
          rfl
        rw [e]
        exact ih (k - 1) (by omega) (by omega) (by omega)
theorem m_b171 {a b : Int32} {f : Nat} {x : AF} {part : List Int32} {Q : Unit → MS → Prop} (hM : Mk m g) (hR : RepF S fs) (hP : RepP S ps) (hD : RepD S part) (hf : fs[f]? = some x) (hps : ps.length < 4100) (ht : totF fs + part.length ≤ 16384) (hq : ∀ S', Come S S' fs ps f x a b part → Q () S') : okM m g (X9_comes_b171 m a b (nI f)) S Q := by
  unfold X9_comes_b171
  have hfl := lt_of_some hf
  obtain ⟨n1, n2, n3⟩ := rf_n hR hf
  have eT := totF_take hf
  refine oM_ck hM (m_startOf hM hR rfl (by omega) (oM_gR hM (oM_al (q := 4) hM rfl n3 (oM_bpu (oM_gI hM (oM_bpu ?_))))))
  rw [nI_add, hR.1.2.1]
  have : FU = 1000000 := rfl
  have hz := m_b193 (a := a) (b := b) (Q := Q) hM hR hP hD hf hps ht hq FU (totF fs) (by have := hR.1.2.2.1; omega) (by omega) (Nat.le_refl _)
  rw [shr_top] at hz
  have : upA S 1 (S.2 1) = S := by
    unfold upA
    rw [va_same rfl]
  rw [this] at hz
  exact hz
end
