def insM (S : MS) (f n : Nat) (a b : Int32) : MS := upI (up3 S ((shr (S.2 2) f n 1).set f a) ((shr (S.2 3) f n 1).set f b) ((shr (S.2 4) f n 1).set f 0)) 8 (nI (n + 1))
section
variable {m : Nat} {g : Gh} {S : MS} {α : Type} {fs : List AF} {ps : List AV}
theorem ins_rep {f : Nat} {a b : Int32} (hR : RepF S fs) (hf : f ≤ fs.length) (hl : fs.length < 4000) : RepF (insM S f fs.length a b) (insF f (a, b, [], 0, 0) fs) := by
  obtain ⟨⟨r1, r2, r3, r4⟩, ⟨l1, l2, l3, l4⟩, p2, p3, p4, p1, nr⟩ := hR
  have eT : totF (insF f (a, b, [], 0, 0) fs) = totF fs := by
    unfold insF
    rw [totF_app]
    conv => rhs; rw [← List.take_append_drop f fs, totF_app]
    show totF (fs.take f) + (0 + totF (fs.drop f)) = _
    omega
  have eL : (insF f (a, b, [], 0, 0) fs).length = fs.length + 1 := by
    unfold insF
    simp only [List.length_append, List.length_cons, List.length_take, List.length_drop]
    omega
  have eF : (insF f (a, b, [], 0, 0) fs).flatMap (fun f => f.2.2.1) = fs.flatMap (fun f => f.2.2.1) := by
    unfold insF
    rw [List.flatMap_append, List.flatMap_cons]
    conv => rhs; rw [← List.take_append_drop f fs, List.flatMap_append]
    rfl
  refine ⟨⟨?_, ?_, ?_, ?_⟩, ⟨l1, ?_, ?_, ?_⟩, ?_, ?_, ?_, ?_, nr⟩
  · rw [eL]
    rfl
  · rw [eT]
    exact r2
  · rw [eT]
    exact r3
  · rw [eL]
    omega
  · show ((shr (S.2 2) f fs.length 1).set f a).length = _
    rw [List.length_set, shr_len hf (by omega)]
    exact l2
  · show ((shr (S.2 3) f fs.length 1).set f b).length = _
    rw [List.length_set, shr_len hf (by omega)]
    exact l3
  · show ((shr (S.2 4) f fs.length 1).set f 0).length = _
    rw [List.length_set, shr_len hf (by omega)]
    exact l4
  · rw [eL]
    show ((shr (S.2 2) f fs.length 1).set f a).take (fs.length + 1) = _
    have := take_set_ins (A := S.2 2) (l := fs.map (fun f => f.1)) (f := f) (x := a) (by rw [List.length_map]; exact p2) (by rw [List.length_map]; exact hf) (by rw [List.length_map]; omega)
    rw [List.length_map] at this
    rw [this]
    unfold insF
    rw [List.map_append, List.map_cons, List.map_take, List.map_drop]
  · rw [eL]
    show ((shr (S.2 3) f fs.length 1).set f b).take (fs.length + 1) = _
    have := take_set_ins (A := S.2 3) (l := fs.map (fun f => f.2.1)) (f := f) (x := b) (by rw [List.length_map]; exact p3) (by rw [List.length_map]; exact hf) (by rw [List.length_map]; omega)
    rw [List.length_map] at this
    rw [this]
    unfold insF
    rw [List.map_append, List.map_cons, List.map_take, List.map_drop]
  · rw [eL]
    show ((shr (S.2 4) f fs.length 1).set f 0).take (fs.length + 1) = _
    have := take_set_ins (A := S.2 4) (l := fs.map (fun f => nI f.2.2.1.length)) (f := f) (x := 0) (by rw [List.length_map]; exact p4) (by rw [List.length_map]; exact hf) (by rw [List.length_map]; omega)
    rw [List.length_map] at this
    rw [this]
    unfold insF
    rw [List.map_append, List.map_cons, List.map_take, List.map_drop]
    rfl
  · rw [eT, eF]
    exact p1
theorem ins_fr {f n : Nat} {a b : Int32} : mfr [8] [2, 3, 4] S (insM S f n a b) := by
  unfold insM
  refine ⟨fun j hj => ?_, fun q hq => ?_⟩
  · show va_up S.1 8 _ j = _
    exact vu_ne (fun e => hj (by rw [e]; decide))
  · show (if q = 2 then _ else if q = 3 then _ else if q = 4 then _ else S.2 q) = _
    rw [if_neg (fun e => hq (by rw [e]; decide)), if_neg (fun e => hq (by rw [e]; decide)), if_neg (fun e => hq (by rw [e]; decide))]
theorem m_b80 {a b : Int32} {f : Nat} {Q : Unit → MS → Prop} (hM : Mk m g) (hR : RepF S fs) (hf : f ≤ fs.length) (hl : fs.length < 4000) (hq : okM m g (X9_comes_b171 m a b (nI f)) (insM S f fs.length a b) Q) : ∀ (w k : Nat), k - f < w → f ≤ k → k ≤ fs.length → okM m g (X9_comes_b80 w m a b (nI f) (nI k)) (up3 S (shr (S.2 2) k fs.length 1) (shr (S.2 3) k fs.length 1) (shr (S.2 4) k fs.length 1)) Q := by
  obtain ⟨⟨r1, r2, r3, r4⟩, ⟨l1, l2, l3, l4⟩, -⟩ := hR
  intro w
  induction w with
  | zero => intro k h; omega
  | succ w ih =>
    intro k hw hk hk2
    show okM m g (X9_comes_b80b (X9_comes_b80 w) m a b (nI f) (nI k)) _ Q
    unfold X9_comes_b80b
    by_cases c : k = f
    · subst c
      refine oM_itT (nI_le (Nat.le_refl _) (by omega)) (oM_gR hM (oM_as (q := 2) hM rfl ?_ (oM_gR hM (oM_as (q := 3) hM rfl ?_ (oM_gR hM (oM_as (q := 4) hM rfl ?_ (oM_gI hM (oM_pI hM ?_))))))))
      · show k < (shr (S.2 2) k fs.length 1).length
        rw [shr_len (by omega) (by omega)]
        omega
      · show k < (shr (S.2 3) k fs.length 1).length
        rw [shr_len (by omega) (by omega)]
        omega
      · show k < (shr (S.2 4) k fs.length 1).length
        rw [shr_len (by omega) (by omega)]
        omega
      · have e : upI (upA (upA (upA (up3 S (shr (S.2 2) k fs.length 1) (shr (S.2 3) k fs.length 1) (shr (S.2 4) k fs.length 1)) 2 ((shr (S.2 2) k fs.length 1).set k a)) 3 ((shr (S.2 3) k fs.length 1).set k b)) 4 ((shr (S.2 4) k fs.length 1).set k 0)) 8 (S.1 8 + 1) = insM S k fs.length a b := by
          rw [up3_up, r1, nI_1]
          rfl
        have e2 : okM m g (X9_comes_b171 m a b (nI k)) (upI (upA (upA (upA (up3 S (shr (S.2 2) k fs.length 1) (shr (S.2 3) k fs.length 1) (shr (S.2 4) k fs.length 1)) 2 ((shr (S.2 2) k fs.length 1).set k a)) 3 ((shr (S.2 3) k fs.length 1).set k b)) 4 ((shr (S.2 4) k fs.length 1).set k 0)) 8 (S.1 8 + 1)) Q := by
          rw [e]
          exact hq
        exact e2
    · have e1 : nI k - 1 = nI (k - 1) := nI_subN (b := 1) (by omega)
      have e2 : nI k + -1 = nI (k - 1) := by rw [← e1, Int32.sub_eq_add_neg]
      rw [e1, e2]
      obtain ⟨v2, hv2⟩ := some_of_lt (show k - 1 < (S.2 2).length by omega)
      obtain ⟨v3, hv3⟩ := some_of_lt (show k - 1 < (S.2 3).length by omega)
      obtain ⟨v4, hv4⟩ := some_of_lt (show k - 1 < (S.2 4).length by omega)
      have get : ∀ {A : List Int32} {v : Int32}, A.length = 4200 → A[k - 1]? = some v → (shr A k fs.length 1)[k - 1]? = some v := by
        intro A v hA hv
        rw [shr_get (by omega) (by omega), if_pos (by omega)]
        exact hv
      have stp : ∀ {A : List Int32} {v : Int32}, A.length = 4200 → A[k - 1]? = some v → (shr A k fs.length 1).set k v = shr A (k - 1) fs.length 1 := by
        intro A v hA hv
        have := shr_step (A := A) (k := k - 1) (hi := fs.length) (d := 1) (v := v) (by omega) (by omega) hv
        rw [show k - 1 + 1 = k by omega] at this
        exact this
      refine oM_itF (nI_ge (by omega) (by omega)) (oM_gR hM (oM_gR hM (oM_al (q := 2) hM rfl (get l2 hv2) (oM_as (q := 2) hM rfl ?_ (oM_gR hM (oM_gR hM (oM_al (q := 3) hM rfl (get l3 hv3) (oM_as (q := 3) hM rfl ?_ (oM_gR hM (oM_gR hM (oM_al (q := 4) hM rfl (get l4 hv4) (oM_as (q := 4) hM rfl ?_ ?_))))))))))))
      · show k < (shr (S.2 2) k fs.length 1).length
        rw [shr_len (by omega) (by omega)]
        omega
      · show k < (shr (S.2 3) k fs.length 1).length
        rw [shr_len (by omega) (by omega)]
        omega
      · show k < (shr (S.2 4) k fs.length 1).length
        rw [shr_len (by omega) (by omega)]
        omega
      · have e : okM m g (X9_comes_b80 w m a b (nI f) (nI (k - 1))) (upA (upA (upA (up3 S (shr (S.2 2) k fs.length 1) (shr (S.2 3) k fs.length 1) (shr (S.2 4) k fs.length 1)) 2 ((shr (S.2 2) k fs.length 1).set k v2)) 3 ((shr (S.2 3) k fs.length 1).set k v3)) 4 ((shr (S.2 4) k fs.length 1).set k v4)) Q := by
          rw [up3_up, stp l2 hv2, stp l3 hv3, stp l4 hv4]
          exact ih (k - 1) (by omega) (by omega) (by omega)
        exact e
theorem app_pr {a b : Int32} {part : List Int32} {fs : List AF} {sv : List Nat} {f : AF} (h : fndF a b fs = some f) : ((appF a b part fs sv).1).map (fun f => (f.1, f.2.1, f.2.2.1)) = (fs.set (plF a b fs) (f.1, f.2.1, f.2.2.1 ++ part, 0, 0)).map (fun f => (f.1, f.2.1, f.2.2.1)) := by
  unfold appF
  have h' : (fs[plF a b fs]?).filter (isF a b) = some f := h
  rw [h']
  simp only [List.map_set]
  rfl
theorem app_pn {a b : Int32} {part : List Int32} {fs : List AF} {sv : List Nat} (h : fndF a b fs = none) : ((appF a b part fs sv).1).map (fun f => (f.1, f.2.1, f.2.2.1)) = ((insF (plF a b fs) (a, b, [], 0, 0) fs).set (plF a b fs) (a, b, [] ++ part, 0, 0)).map (fun f => (f.1, f.2.1, f.2.2.1)) := by
  unfold appF
  have h' : (fs[plF a b fs]?).filter (isF a b) = none := h
  rw [h']
  have hp := plF_le a b fs
  have hl : ((fs.take (plF a b fs))).length = plF a b fs := by rw [List.length_take]; omega
  simp only
  unfold insF
  rw [List.set_append_right _ _ (by omega), hl, Nat.sub_self]
  simp only [List.map_append, List.map_cons, List.set_cons_zero]
  rfl
theorem m_comes {a b : Int32} {part : List Int32} {sv : List Nat} {k : Unit → M α} {Q : α → MS → Prop} (hM : Mk m g) (hR : RepF S fs) (hP : RepP S ps) (hD : RepD S part) (hl : fs.length < 4000) (hps : ps.length < 4100) (ht : totF fs + part.length ≤ 16384) (hk : ∀ S', RepF S' (appF a b part fs sv).1 → RepP S' (ps ++ [(a, b, nI part.length)]) → S'.1 14 = 0 → mfr [4, 8, 12, 14] [1, 2, 3, 4, 5, 6, 7] S S' → okM m g (k ()) S' Q) : okM m g (bd (X9_comes m a b) k) S Q := by
  refine oM_bd ?_
  have hp := plF_le a b fs
  have ins : fndF a b fs = none → okM m g (X9_comes_b74 m a b (nI (plF a b fs))) S (fun v S1 => okM m g (k v) S1 Q) := by
    intro hn
    unfold X9_comes_b74
    refine oM_gI hM ?_
    rw [hR.1.1]
    have : FU = 1000000 := rfl
    have hRi := ins_rep (a := a) (b := b) hR hp hl
    have hPi := repP_fr hP (ins_fr (S := S) (f := plF a b fs) (n := fs.length) (a := a) (b := b)) (by decide) (by decide) (by decide) (by decide)
    have hDi : RepD (insM S (plF a b fs) fs.length a b) part := hD
    have hfi : (insF (plF a b fs) (a, b, [], 0, 0) fs)[plF a b fs]? = some (a, b, [], 0, 0) := by
      unfold insF
      have hlp : (fs.take (plF a b fs)).length = plF a b fs := by rw [List.length_take]; omega
      rw [List.getElem?_append_right (by omega), hlp, Nat.sub_self]
      rfl
    have eT : totF (insF (plF a b fs) (a, b, [], 0, 0) fs) = totF fs := by
      unfold insF
      rw [totF_app]
      conv => rhs; rw [← List.take_append_drop (plF a b fs) fs, totF_app]
      show totF (fs.take (plF a b fs)) + (0 + totF (fs.drop (plF a b fs))) = _
      omega
    have hz := m_b80 (a := a) (b := b) (Q := fun v S1 => okM m g (k v) S1 Q) hM hR hp hl (m_b171 hM hRi hPi hDi hfi hps (by omega) (fun S' hc => ?_)) FU fs.length (by omega) hp (Nat.le_refl _)
    · rw [shr_top, shr_top, shr_top, up3_id] at hz
      exact hz
    · obtain ⟨c1, c2, c3, c4⟩ := hc
      exact hk S' (repF_congr c1 (app_pn (sv := sv) hn).symm) c2 c3 (mfr_tr (mfr_mono ins_fr (by decide) (by decide)) c4)
  have b46 : okM m g (X9_comes_b46 m a b (nI (plF a b fs))) S (fun v S1 => okM m g (k v) S1 Q) := by
    unfold X9_comes_b46
    refine oM_gI hM ?_
    rw [hR.1.1]
    cases hx : fs[plF a b fs]? with
    | none =>
      have e : plF a b fs = fs.length := by
        rcases Nat.lt_or_ge (plF a b fs) fs.length with q | q
        · obtain ⟨f, hf⟩ := some_of_lt q
          rw [hf] at hx
          cases hx
        · omega
      refine oM_itT (by rw [e]) (ins ?_)
      unfold fndF
      rw [hx]
      rfl
    | some x =>
      have hlt := lt_of_some hx
      obtain ⟨n1, n2, n3⟩ := rf_n hR hx
      have hne : ¬ nI (plF a b fs) = nI fs.length := by
        intro q
        have : nI (plF a b fs) < nI fs.length := nI_lt hlt (by omega)
        rw [q] at this
        exact Int32.lt_irrefl this
      have none_of : ¬ (x.1 = a ∧ x.2.1 = b) → fndF a b fs = none := by
        intro hn
        unfold fndF
        rw [hx]
        simp only [Option.filter_some]
        rw [if_neg]
        intro q
        exact hn (of_decide_eq_true q)
      refine oM_itF hne (oM_gR hM (oM_al (q := 2) hM rfl n1 ?_))
      by_cases c1 : x.1 = a
      · refine oM_itF (fun q => q c1) (oM_gR hM (oM_al (q := 3) hM rfl n2 ?_))
        by_cases c2 : x.2.1 = b
        · have hfd : fndF a b fs = some x := by
            unfold fndF
            rw [hx]
            simp only [Option.filter_some]
            rw [if_pos]
            exact decide_eq_true ⟨c1, c2⟩
          refine oM_itT c2 (m_b171 hM hR hP hD hx hps ht (fun S' hc => ?_))
          obtain ⟨q1, q2, q3, q4⟩ := hc
          exact hk S' (repF_congr q1 (app_pr (sv := sv) hfd).symm) q2 q3 q4
        · exact oM_itF c2 (ins (none_of (fun q => c2 q.2)))
      · exact oM_itT c1 (ins (none_of (fun q => c1 q.1)))
  have loop : ∀ (w i : Nat), fs.length - i < w → i ≤ plF a b fs → okM m g (X9_comes_b2 w m a b (nI i)) S (fun v S1 => okM m g (k v) S1 Q) := by
    intro w
    induction w with
    | zero => intro i h; omega
    | succ w ih =>
      intro i hw hi
      show okM m g (X9_comes_b2b (X9_comes_b2 w) m a b (nI i)) S _
      unfold X9_comes_b2b X9_comes_b40
      refine oM_gI hM ?_
      rw [hR.1.1]
      by_cases c : i < plF a b fs
      · obtain ⟨f, hf⟩ := some_of_lt (show i < fs.length by omega)
        obtain ⟨n1, n2, n3⟩ := rf_n hR hf
        have hb := plF_before fs i f c hf
        have next : okM m g (X9_comes_b2 w m a b (nI i + 1)) S (fun v S1 => okM m g (k v) S1 Q) := by
          rw [nI_1]
          exact ih (i + 1) (by omega) (by omega)
        refine oM_itF (nI_ge (by omega) (by omega)) (oM_gR hM (oM_al (q := 2) hM rfl n1 ?_))
        rcases hb with q | ⟨q1, q2⟩
        · exact oM_itT q next
        · have q1 : f.1 = a := q1
          refine oM_itF (by rw [q1]; exact Int32.lt_irrefl) (oM_gR hM (oM_al (q := 2) hM rfl n1 (oM_itF (fun q => q q1) (oM_gR hM (oM_al (q := 3) hM rfl n2 (oM_itF (Int32.not_le.mpr q2) next))))))
      · have ei : i = plF a b fs := by omega
        subst ei
        cases hx : fs[plF a b fs]? with
        | none =>
          have e : fs.length ≤ plF a b fs := by
            rcases Nat.lt_or_ge (plF a b fs) fs.length with q | q
            · obtain ⟨f, hf⟩ := some_of_lt q
              rw [hf] at hx
              cases hx
            · exact q
          exact oM_itT (nI_le e (by omega)) b46
        | some x =>
          have hlt := lt_of_some hx
          obtain ⟨n1, n2, n3⟩ := rf_n hR hx
          have hat := plF_at fs x hx
          refine oM_itF (nI_ge hlt (by omega)) (oM_gR hM (oM_al (q := 2) hM rfl n1 ?_))
          rcases hat with q | ⟨q1, q2⟩
          · refine oM_itF (fun q' => Int32.lt_irrefl (Int32.lt_trans q q')) (oM_gR hM (oM_al (q := 2) hM rfl n1 (oM_itT ?_ b46)))
            intro e
            rw [e] at q
            exact Int32.lt_irrefl q
          · refine oM_itF (by rw [q1]; exact Int32.lt_irrefl) (oM_gR hM (oM_al (q := 2) hM rfl n1 (oM_itF (fun q => q q1) (oM_gR hM (oM_al (q := 3) hM rfl n2 (oM_itT (Int32.not_lt.mp q2) b46))))))
  have : FU = 1000000 := rfl
  exact loop FU 0 (by omega) (Nat.zero_le _)
end
