/-! the reference: the opening -/
theorem hd_of {fs : List AF} (hS : SrtF fs) (hk : ∀ f, f ∈ fs → f.2.1 = 0 ∨ f.2.1 = 1) (hh : ∀ f, f ∈ fs → f.2.1 = 1 → ∃ d, d ∈ fs ∧ d.1 = f.1 ∧ d.2.1 = 0) : HDl fs := by
  intro j f hf
  have hm := List.mem_of_getElem? hf
  rcases hk f hm with q | q
  · exact Or.inl q
  · refine Or.inr ⟨q, ?_⟩
    obtain ⟨d, hd, e1, e2⟩ := hh f hm q
    obtain ⟨i, hi⟩ := List.mem_iff_getElem?.mp hd
    have hp := List.pairwise_iff_getElem.mp hS
    have li := lt_of_some hi
    have lj := lt_of_some hf
    have gi : fs[i] = d := by
      rw [List.getElem?_eq_getElem li] at hi
      exact Option.some.inj hi
    have gj : fs[j] = f := by
      rw [List.getElem?_eq_getElem lj] at hf
      exact Option.some.inj hf
    have ij : i < j := by
      rcases Nat.lt_trichotomy i j with c | c | c
      · exact c
      · subst c
        rw [gi] at gj
        rw [gj, q] at e2
        exact absurd e2 (by decide)
      · rcases hp j i lj li c with z | z
        · rw [gi, gj, e1] at z
          exact absurd z (Int32.lt_irrefl)
        · rw [gi, gj, q, e2] at z
          exact absurd z.2 (by decide)
    by_cases c : j = i + 1
    · exact ⟨i, d, c, hi, e1, e2⟩
    · exfalso
      have lk : i + 1 < fs.length := by omega
      have a1 := hp i (i + 1) li lk (by omega)
      have a2 := hp (i + 1) j lk lj (by omega)
      rw [gi] at a1
      rw [gj] at a2
      generalize fs[i + 1] = y at *
      rw [e1, e2] at a1
      rw [q] at a2
      simp only [Int32.lt_iff_toInt_lt] at a1 a2
      have z0 : (0 : Int32).toInt = 0 := rfl
      have z1 : (1 : Int32).toInt = 1 := rfl
      rcases a1 with b1 | ⟨b1, b1'⟩
      · rcases a2 with b2 | ⟨b2, b2'⟩
        · omega
        · rw [b2] at b1
          omega
      · rcases a2 with b2 | ⟨b2, b2'⟩
        · rw [b1] at b2
          omega
        · omega
theorem opN_rest (l : List Int32) : ∀ (m i : Nat) (V : VC), (opN l m i V).2.1 = V.2.1 ∧ (opN l m i V).2.2.2.1.2.2.2.2 = V.2.2.2.1.2.2.2.2
  | 0, _, _ => ⟨rfl, rfl⟩
  | m + 1, i, V => by
    have h := opN_rest l m (i + 4) (opDis (bnm l (nI i)) 1 (opDis (bnm l (nI i)) 0 V))
    rw [opDis_rest, opDis_rest] at h
    exact h
theorem obM_rest : ∀ (t : Nat) (V : VC), (obM t V).2.1 = V.2.1 ∧ (obM t V).2.2.2.1.2.2.2.2 = V.2.2.2.1.2.2.2.2
  | 0, _ => ⟨rfl, rfl⟩
  | t + 1, V => by
    unfold obM
    split
    · exact ⟨rfl, rfl⟩
    · rename_i f _
      have h := obM_rest t (opDis f.1 2 (match gmk f.2.2.1 with
        | true => opN f.2.2.1 ((f.2.2.1.length - 8) / 4) 4 V
        | false => V))
      rw [opDis_rest] at h
      cases hg : gmk f.2.2.1 with
      | true =>
        rw [hg] at h
        have h2 := opN_rest f.2.2.1 ((f.2.2.1.length - 8) / 4) 4 V
        exact ⟨h.1.trans h2.1, h.2.trans h2.2⟩
      | false =>
        rw [hg] at h
        exact h
theorem obM_mem {x : AF} : ∀ (t : Nat) (V : VC), SrtF V.1.1 → (x ∈ (obM t V).1.1 → x ∈ V.1.1) ∧ SrtF (obM t V).1.1
  | 0, _, h => ⟨id, h⟩
  | t + 1, V, hS => by
    unfold obM
    split
    · exact ⟨id, hS⟩
    · rename_i f _
      have srtN : ∀ (q z : Nat) (W : VC), SrtF W.1.1 → SrtF (opN f.2.2.1 q z W).1.1 := by
        intro q
        induction q with
        | zero => intro z W hW; exact hW
        | succ q iq =>
          intro z W hW
          exact iq (z + 4) _ (by rw [opDis_files, opDis_files]; exact srt_dis (srt_dis hW))
      have key : ∀ W : VC, SrtF W.1.1 → (∀ y, y ∈ W.1.1 → y ∈ V.1.1) → (x ∈ (obM t (opDis f.1 2 W)).1.1 → x ∈ V.1.1) ∧ SrtF (obM t (opDis f.1 2 W)).1.1 := by
        intro W hW hsub
        have hd : SrtF (opDis f.1 2 W).1.1 := by
          rw [opDis_files]
          exact srt_dis hW
        obtain ⟨h1, h2⟩ := obM_mem (x := x) t (opDis f.1 2 W) hd
        refine ⟨fun hx => hsub x ?_, h2⟩
        have := h1 hx
        rw [opDis_files] at this
        exact ((mem_disF hW).mp this).1
      cases hg : gmk f.2.2.1 with
      | true => exact key _ (srtN _ _ _ hS) (fun y hy => opN_mem _ _ _ hS hy)
      | false => exact key V hS (fun y hy => hy)
section
variable {m : Nat} {g : Gh} {S : MS} {α : Type} {rs : List AR} {fs : List AF} {ps : List AV} {V : VC}
theorem m_skip1 {k105 : Nat → Int32 → M Int32} {w i : Nat} {a : Int32} {f : AF} {Q : Int32 → MS → Prop} (hM : Mk m g) (hF : RepF S fs) (hf : fs[i]? = some f) (ha : f.1 = a) (h : okM m g (X9_open_b168 k105 w m (nI (i + 1)) a) S Q) : okM m g (X9_open_b168 k105 (w + 1) m (nI i) a) S Q := by
  show okM m g (X9_open_b168b k105 (X9_open_b168 k105 w) m (nI i) a) S Q
  unfold X9_open_b168b
  have hi := lt_of_some hf
  have hl := hF.1.2.2.2
  obtain ⟨n1, n2', n3⟩ := rf_n hF hf
  refine oM_gI hM ?_
  rw [hF.1.1]
  refine oM_itF (nI_ge hi (by omega)) (oM_gR hM (oM_al (q := 2) hM rfl n1 (oM_itF (fun q => q ha) ?_)))
  rw [nI_1]
  exact h
theorem m_skip0 {k105 : Nat → Int32 → M Int32} {w i : Nat} {a : Int32} {Q : Int32 → MS → Prop} (hM : Mk m g) (hF : RepF S fs) (hi : i ≤ fs.length) (hn : ∀ f, fs[i]? = some f → ¬ f.1 = a) (h : okM m g (k105 m (nI i)) S Q) : okM m g (X9_open_b168 k105 (w + 1) m (nI i) a) S Q := by
  show okM m g (X9_open_b168b k105 (X9_open_b168 k105 w) m (nI i) a) S Q
  unfold X9_open_b168b X9_open_b192
  have hl := hF.1.2.2.2
  refine oM_gI hM ?_
  rw [hF.1.1]
  by_cases c : i < fs.length
  · obtain ⟨f, hf⟩ := some_of_lt c
    obtain ⟨n1, n2', n3⟩ := rf_n hF hf
    exact oM_itF (nI_ge c (by omega)) (oM_gR hM (oM_al (q := 2) hM rfl n1 (oM_itT (hn f hf) h)))
  · exact oM_itT (nI_le (by omega) (by omega)) h
theorem m_b202 {rs0 : List AR} {Q : Int32 → MS → Prop} (hM : Mk m g) (hvs : ∀ r, r ∈ rs0 → ¬ r.2.2.2.1 < -1) (h : ∀ S', RepR S' (rs0.filter (fun r => decide (r.2.2.2.1 ≠ -1))) → S'.1 26 = -1 → S'.1 34 = 0 → S'.1 35 = -1 → S'.1 23 = 1 → mfr [23, 26, 33, 34, 35] [11, 12, 13, 14, 15, 16] S S' → Q (nI (rs0.filter (fun r => decide (r.2.2.2.1 ≠ -1))).length) S') : ∀ (w j : Nat) (S1 : MS), j < w → j ≤ rs0.length → RepR S1 (rs0.take j ++ (rs0.drop j).filter (fun r => decide (r.2.2.2.1 ≠ -1))) → mfr [33] [11, 12, 13, 14, 15, 16] S S1 → okM m g (X9_open_b202 w m (nI j - 1)) S1 Q := by
  intro w
  induction w with
  | zero => intro j S1 h; omega
  | succ w ih =>
    intro j S1 hw hj hR f1
    show okM m g (X9_open_b202b (X9_open_b202 w) m (nI j - 1)) S1 Q
    unfold X9_open_b202b
    cases j with
    | zero =>
      rw [List.take_zero, List.nil_append, List.drop_zero] at hR
      refine oM_itT (by decide) (oM_pI hM (oM_pI hM (oM_pI hM (oM_pZ hM (Or.inr rfl) (oM_gI hM ?_)))))
      have f2 : mfr [23, 26, 34, 35] [] S1 (upI (upI (upI (upI S1 26 (-1)) 34 0) 35 (-1)) 23 1) := mfr_tr (mfr_tr (mfr_tr (mfr_I (by decide)) (mfr_I (by decide))) (mfr_I (by decide))) (mfr_I (by decide))
      have R2 := repR_fr hR f2 (by decide) (fun q _ _ => List.not_mem_nil)
      refine oM_pu ?_
      rw [R2.1.1]
      exact h _ R2 rfl rfl rfl rfl (mfr_tr (mfr_mono f1 (by decide) (by decide)) (mfr_mono f2 (by decide) (by decide)))
    | succ j =>
      obtain ⟨r, hr⟩ := some_of_lt (show j < rs0.length by omega)
      have l1 : (rs0.take j).length = j := by rw [List.length_take]; omega
      have hn := hR.1.2
      have e1 : nI (j + 1) - 1 = nI j := nI_subN (a := j + 1) (b := 1) (by omega)
      have lj : j < 1200 := by
        rw [List.length_append, List.length_take] at hn
        omega
      rw [e1]
      rw [take_snoc hr, List.append_assoc] at hR
      have hat : (rs0.take j ++ ([r] ++ (rs0.drop (j + 1)).filter (fun r => decide (r.2.2.2.1 ≠ -1))))[j]? = some r := by
        rw [List.getElem?_append_right (by omega), l1, Nat.sub_self]
        rfl
      obtain ⟨b1, b2, b3, b4, b5, b6, b7⟩ := hR.2.2 j r hat
      have e2 : nI j + -1 = nI j - 1 := (Int32.sub_eq_add_neg ..).symm
      refine oM_itF (nI_pos (by omega)) (oM_gR hM (oM_al (q := 15) hM rfl b6 ?_))
      unfold X9_open_b220
      rw [e2]
      have hge := hvs r (List.mem_of_getElem? hr)
      by_cases c : (0 : Int32) ≤ r.2.2.2.1
      · have hne : r.2.2.2.1 ≠ -1 := fun q => by rw [q] at c; exact absurd c (by decide)
        refine oM_itT c (ih j S1 (by omega) (by omega) ?_ f1)
        rw [drop_cons hr, List.filter_cons, if_pos (decide_eq_true hne)]
        exact hR
      · have he : r.2.2.2.1 = -1 := by
          rw [Int32.le_iff_toInt_le, Int32.toInt_zero] at c
          rw [Int32.lt_iff_toInt_lt, show (-1 : Int32).toInt = -1 from rfl] at hge
          apply Int32.toInt_inj.mp
          rw [show (-1 : Int32).toInt = -1 from rfl]
          omega
        refine oM_itF c (oM_ck hM (m_untold hM hR rfl (by rw [List.length_append, List.length_append, l1]; simp only [List.length_cons]; omega) (fun S2 r2 f2 => ih j S2 (by omega) (by omega) ?_ (mfr_tr f1 f2))))
        rw [List.eraseIdx_append_of_length_le (by omega), l1, Nat.sub_self] at r2
        rw [drop_cons hr, List.filter_cons, if_neg (fun q => (of_decide_eq_true q) he)]
        exact r2
/-- the files are read, one number after the other -/
theorem m_files {W : VC} {Q : Int32 → MS → Prop} (hM : Mk m g) (hvs : ∀ r, r ∈ W.2.1 → ¬ r.2.2.2.1 < -1) (h : ∀ S1 S', RO2 S1 W → RepR S' (W.2.1.filter (fun r => decide (r.2.2.2.1 ≠ -1))) → S'.1 26 = -1 → S'.1 34 = 0 → S'.1 35 = -1 → S'.1 23 = 1 → mfr [23, 26, 33, 34, 35] [11, 12, 13, 14, 15, 16] S1 S' → mfr [4, 8, 12, 19, 20, 21, 22, 25, 33] [1, 2, 3, 4, 5, 6, 7, 11, 12, 13, 14, 15, 16] S S1 → Q (nI (W.2.1.filter (fun r => decide (r.2.2.2.1 ≠ -1))).length) S') : ∀ (w t i : Nat) (S1 : MS) (V1 : VC), V1.1.1.length - i < w → V1.1.1.length - i ≤ t → i ≤ V1.1.1.length → RO2 S1 V1 → HDl (V1.1.1.drop i) → 15 * V1.2.1.length + totF (V1.1.1.drop i) ≤ 17900 → mfr [4, 8, 12, 19, 20, 21, 22, 25, 33] [1, 2, 3, 4, 5, 6, 7, 11, 12, 13, 14, 15, 16] S S1 → rdF t i V1 = W → okM m g (X9_open_b105 w m (nI i)) S1 Q := by
  intro w
  induction w with
  | zero => intro t i S1 V1 h; omega
  | succ w ih =>
    intro t i S1 V1 hw ht hi R1 hH hb f1 er
    show okM m g (X9_open_b105b (X9_open_b105 w) m (nI i)) S1 Q
    unfold X9_open_b105b
    have F1 := R1.1.1
    have hl := F1.1.2.2.2
    have hS := R1.1.2.2.1
    have : FU = 1000000 := rfl
    refine oM_gI hM ?_
    rw [F1.1.1]
    by_cases ci : i < V1.1.1.length
    · obtain ⟨t, rfl⟩ : ∃ t', t = t' + 1 := ⟨t - 1, by omega⟩
      obtain ⟨f, hf⟩ := some_of_lt ci
      obtain ⟨n1, n2', n3⟩ := rf_n F1 hf
      have hd := drop_cons hf
      rw [hd] at hH hb
      have h0 := hd_head hH
      have hb : 15 * V1.2.1.length + (f.2.2.1.length + totF (V1.1.1.drop (i + 1))) ≤ 17900 := hb
      have fl : f.2.2.1.length ≤ 16384 := by
        have := mem_tot (List.mem_of_getElem? hf)
        have := F1.1.2.2.1
        omega
      -- no good hint: its records are read
      have data : ∀ (S2 : MS), RO2 S2 (opDis f.1 1 V1) → ghF f V1.1.1 = none → mfr [4, 8, 12, 19, 20, 21, 22, 25, 33] [1, 2, 3, 4, 5, 6, 7, 11, 12, 13, 14, 15, 16] S S2 → okM m g (X9_open_b163 (X9_open_b105 w) m (nI i) f.1) S2 Q := by
        intro S2 R2 hg f2
        unfold X9_open_b163
        obtain ⟨l2, e1, e2, e3, e4, e5, e6⟩ := op_hint hS hd hH
        obtain ⟨hf2, hl2⟩ := drop_get e1
        obtain ⟨r1, r2, r3, r4, r5, r6⟩ := rdV_files e4 e1 h0
        have en := rdF_data (t := t) hf h0 hg
        rw [en] at er
        have hsl : SrtF (f :: l2) := by
          rw [← e1]
          exact List.Pairwise.sublist (List.drop_sublist _ _) e4
        have hnum := hd_num hsl e2 h0
        refine oM_ck hM (m_readsData hM R2 hf2 h0 rfl (by rw [e5]; omega) (fun S3 R3 f3 => ?_))
        have F3 := R3.1.1
        obtain ⟨u, hu⟩ : ∃ u, FU = u + 1 + 1 := ⟨999998, rfl⟩
        rw [hu]
        have hlen : ∀ j, (rdV i f (opDis f.1 1 V1)).2.1.1.drop j = l2 → j ≤ (rdV i f (opDis f.1 1 V1)).2.1.1.length → (rdV i f (opDis f.1 1 V1)).2.1.1.length = j + l2.length := by
          intro j h1 h2
          have := congrArg List.length h1
          rw [List.length_drop] at this
          omega
        have l3 : (opDis f.1 1 V1).1.1.length = i + 1 + l2.length := by
          have := congrArg List.length e1
          rw [List.length_drop, List.length_cons] at this
          have := lt_of_some hf2
          omega
        have next : ∀ u j, (if (rdV i f (opDis f.1 1 V1)).1 = 0 then i else i + 1) = j → j ≤ (rdV i f (opDis f.1 1 V1)).2.1.1.length → (rdV i f (opDis f.1 1 V1)).2.1.1.length ≤ j + l2.length → okM m g (X9_open_b168 (X9_open_b105 w) (u + 1) m (nI j) f.1) S3 Q := by
          intro u j ej hjl hjl2
          rw [ej] at r2 er
          refine m_skip0 hM F3 hjl (fun y hy => ?_) (ih t j S3 _ ?_ ?_ hjl R3 (by rw [r2]; exact e2) ?_ (mfr_tr f2 (mfr_mono f3 (by decide) (by decide))) er)
          · refine hnum y ?_
            rw [← r2]
            have : ((rdV i f (opDis f.1 1 V1)).2.1.1.drop j)[0]? = some y := by
              rw [List.getElem?_drop]
              exact hy
            exact List.mem_of_getElem? this
          · omega
          · omega
          · rw [r2]
            rw [e5] at r4
            omega
        by_cases cz : (rdV i f (opDis f.1 1 V1)).1 = 0
        · have hlz : (rdV i f (opDis f.1 1 V1)).2.1.1.length = i + l2.length := by
            rw [r6, if_pos cz, List.length_eraseIdx, if_pos (lt_of_some hf2)]
            omega
          exact next (u + 1) i (by rw [if_pos cz]) (by omega) (by omega)
        · have hlz : (rdV i f (opDis f.1 1 V1)).2.1.1.length = i + 1 + l2.length := by
            rw [r6, if_neg cz, List.length_set]
            omega
          have hfz : (rdV i f (opDis f.1 1 V1)).2.1.1[i]? = some (f.1, f.2.1, f.2.2.1.take (rdV i f (opDis f.1 1 V1)).1, f.2.2.2.1, f.2.2.2.2) := by
            rw [r6, if_neg cz, List.getElem?_set, if_pos rfl, if_pos (lt_of_some hf2)]
          exact m_skip1 hM F3 hfz rfl (next u (i + 1) (by rw [if_neg cz]) (by omega) (by omega))
      refine oM_itF (nI_ge ci (by omega)) (oM_gR hM (oM_al (q := 2) hM rfl n1 (oM_ck hM (m_fileAt hM F1 hS (fun x hx => ?_) (fun hx => ?_)))))
      · obtain ⟨q1, q2, q3⟩ := fndF_some hx
        have lq := lt_of_some q1
        obtain ⟨l2, e1, e2⟩ := hd_hint hS hd hH hx
        refine oM_itF (nI_pos (by omega)) (oM_gR hM (oM_al (q := 4) hM rfl n3 (oM_ck hM (m_isGoodHint (D := f.2.2.1.length) hM F1 q1 rfl rfl (by omega) ?_))))
        cases hg : ghi x.2.2.1 (nI f.2.2.1.length) with
        | false =>
          have hgf : ghF f V1.1.1 = none := by
            unfold ghF
            rw [hx, Option.filter_some, if_neg (by rw [hg]; decide)]
          refine oM_itT (by decide) ?_
          unfold X9_open_b153
          refine oM_itF (nI_pos (by omega)) (oM_ck hM (m_odis hM R1.1 (fun S2 O2 f2 => data S2 ⟨O2, ?_, ?_, ?_, ?_⟩ hgf (mfr_tr f1 (mfr_mono f2 (by decide) (by decide))))))
          · rw [opDis_rest]
            exact repR_fr R1.2.1 f2 (by decide) (fun q u1 u2 => by simp only [List.mem_cons, List.not_mem_nil, or_false]; omega)
          · rw [opDis_rest]
            exact R1.2.2.1
          · rw [opDis_rest, f2.1 25 (by decide)]
            exact R1.2.2.2.1
          · rw [opDis_rest]
            exact R1.2.2.2.2
        | true =>
          have hgf : ghF f V1.1.1 = some x := by
            unfold ghF
            rw [hx, Option.filter_some, if_pos hg]
          rw [e1] at hH hb
          obtain ⟨hxn, hH2⟩ := hd_tail2 hH q3
          have hb : 15 * V1.2.1.length + (f.2.2.1.length + (x.2.2.1.length + totF l2)) ≤ 17900 := hb
          refine oM_itF (by decide) (oM_ck hM (m_readsHint hM R1 q1 rfl hg (by omega) (fun S2 R2 f2 => ?_)))
          obtain ⟨g3, g4⟩ := ghi_d hg
          obtain ⟨b1, b2⟩ := rh_bnd x.2.2.1 x.1 (x.2.2.1.length - 4) (nI f.2.2.1.length) 20000 4 0 V1 g4 (by omega)
          have ea := rh_arr x.2.2.1 x.1 (x.2.2.1.length - 4) 20000 4 V1
          rw [rdF_hint hf h0 hgf] at er
          generalize rhL x.2.2.1 x.1 (x.2.2.1.length - 4) 20000 4 V1 = V2 at *
          have hx1 : V2.1.1[i + 1]? = some x := by
            rw [ea, ← e2]
            exact q1
          have hf2 : V2.1.1[i]? = some f := by
            rw [ea]
            exact hf
          have ed : V2.1.1.drop (i + 2) = l2 := by
            rw [ea]
            exact (drop_get e1).2
          have ll : V2.1.1.length = V1.1.1.length := by rw [ea]
          have lx := lt_of_some hx1
          obtain ⟨t, rfl⟩ : ∃ t', t = t' + 1 := ⟨t - 1, by omega⟩
          rw [rdF_skip hx1 (by rw [q3]; decide)] at er
          obtain ⟨u, hu⟩ : ∃ u, FU = u + 1 + 1 + 1 := ⟨999997, rfl⟩
          rw [hu]
          have hsl : SrtF (f :: l2) := by
            have h1 : SrtF (f :: x :: l2) := by
              rw [← e1, ← hd]
              exact List.Pairwise.sublist (List.drop_sublist _ _) hS
            refine List.Pairwise.sublist ?_ h1
            exact List.Sublist.cons_cons _ (List.sublist_cons_self _ _)
          have hnum := hd_num hsl hH2 h0
          refine m_skip1 hM R2.1.1 hf2 rfl (m_skip1 hM R2.1.1 hx1 hxn (m_skip0 hM R2.1.1 (by omega) (fun y hy => ?_) (ih t (i + 2) S2 V2 (by omega) (by omega) (by omega) R2 (by rw [ed]; exact hH2) (by rw [ed]; omega) (mfr_tr f1 (mfr_mono f2 (by decide) (by decide))) er)))
          refine hnum y ?_
          rw [← ed]
          have : (V2.1.1.drop (i + 2))[0]? = some y := by
            rw [List.getElem?_drop]
            exact hy
          exact List.mem_of_getElem? this
      · have hgf : ghF f V1.1.1 = none := by
          unfold ghF
          rw [hx]
          rfl
        have eo : opDis f.1 1 V1 = V1 := by
          unfold opDis
          rw [hx]
        refine oM_itT (by decide) ?_
        unfold X9_open_b153
        exact oM_itT (by decide) (data S1 (by rw [eo]; exact R1) hgf f1)
    · rw [rdF_end (by omega)] at er
      subst er
      refine oM_itT (nI_le (by omega) (by omega)) (oM_gI hM (oM_bpu ?_))
      rw [R1.2.1.1.1]
      have hrl := R1.2.1.1.2
      refine m_b202 (S := S1) hM hvs (fun S' a1 a2 a3 a4 a5 a6 => h S1 S' R1 a1 a2 a3 a4 a5 a6 f1) FU V1.2.1.length S1 (by omega) (Nat.le_refl _) ?_ mfr_refl
      rw [List.take_length, List.drop_length, List.filter_nil, List.append_nil]
      exact R1.2.1
theorem nxN_snoc {l : List AF} {f : AF} : nxN (l ++ [f]) = f.1 + 1 := by
  unfold nxN
  rw [List.getLast?_concat]
/-- what an opening leaves -/
def Opened (S' : MS) (V : VC) : Prop := RepF S' (oF V).1.1 ∧ RepP S' [] ∧ RepR S' (oF V).2.1 ∧ (S'.1 19 = (oF V).2.2.2.1.1 ∧ S'.1 20 = (oF V).2.2.2.1.2.1 ∧ S'.1 21 = (oF V).2.2.2.1.2.2.1 ∧ S'.1 22 = (oF V).2.2.2.1.2.2.2.1) ∧ (S'.1 24 = nxN V.1.1 ∧ S'.1 25 = (oF V).2.2.2.2.1.2.2.1 ∧ S'.1 26 = -1 ∧ S'.1 34 = 0 ∧ S'.1 35 = -1 ∧ S'.1 23 = 1 ∧ S'.1 0 = 0) ∧ (S'.2 21).length = 4200
theorem m_open {k : Int32 → M α} {Q : α → MS → Prop} (hM : Mk m g) (hF : RepF S V.1.1) (hP : S.1 23 = 0 → RepP S []) (hS : SrtF V.1.1) (hdl : dLen S) (h21 : (S.2 21).length = 4200) (hnum : ∀ f, f ∈ V.1.1 → 1 ≤ f.1.toInt ∧ f.1.toInt ≤ 1000000) (hkind : ∀ f, f ∈ V.1.1 → f.2.1 = 0 ∨ f.2.1 = 1 ∨ f.2.1 = 2) (hone : ∀ f f', f ∈ V.1.1 → f' ∈ V.1.1 → f.2.1 = 2 → f'.2.1 = 2 → f.1 = f'.1) (hvs : ∀ r, r ∈ (oD V).2.1 → ¬ r.2.2.2.1 < -1)
    (h1 : ¬ S.1 23 = 0 → okM m g (k 0) (upI S 0 1) Q) (h2 : S.1 23 = 0 → ∀ S', Opened S' V → mfr [0, 4, 8, 12, 19, 20, 21, 22, 23, 24, 25, 26, 33, 34, 35] [1, 2, 3, 4, 5, 6, 7, 11, 12, 13, 14, 15, 16, 21] S S' → okM m g (k (nI (oF V).2.1.length)) S' Q) : okM m g (bd (X9_open m) k) S Q := by
  refine oM_bd ?_
  unfold X9_open
  refine oM_gI hM ?_
  by_cases c0' : ¬ S.1 23 = 0
  · refine oM_itF c0' ?_
    unfold X9_open_b13
    exact oM_pI hM (oM_gI hM (oM_itF (show ¬ (1 : Int32) ≤ 0 by decide) (oM_pu (h1 c0'))))
  have c0 : S.1 23 = 0 := Classical.not_not.mp c0'
  have h2 := h2 c0
  have hP := hP c0
  refine oM_itT c0 ?_
  unfold X9_open_b13
  refine oM_pI hM (oM_gI hM (oM_itT (show (0 : Int32) ≤ 0 by decide) (oM_pI hM (oM_pI hM (oM_pI hM (oM_pI hM (oM_pI hM ?_)))))))
  generalize hT : upI (upI (upI (upI (upI (upI S 0 0) 19 0) 20 0) 21 0) 22 0) 24 1 = T
  have fT : mfr [0, 19, 20, 21, 22, 24] [] S T := by
    rw [← hT]
    exact mfr_tr (mfr_tr (mfr_tr (mfr_tr (mfr_tr (mfr_I (by decide)) (mfr_I (by decide))) (mfr_I (by decide))) (mfr_I (by decide))) (mfr_I (by decide))) (mfr_I (by decide))
  have T0 : T.1 0 = 0 := by rw [← hT]; rfl
  have T19 : T.1 19 = 0 := by rw [← hT]; rfl
  have T20 : T.1 20 = 0 := by rw [← hT]; rfl
  have T21 : T.1 21 = 0 := by rw [← hT]; rfl
  have T22 : T.1 22 = 0 := by rw [← hT]; rfl
  have T24 : T.1 24 = 1 := by rw [← hT]; rfl
  have hl := hF.1.2.2.2
  have FU1 : FU = 1000000 := rfl
  have FT : RepF T V.1.1 := repF_fr hF fT (by decide) (by decide) (by decide) (by decide) (by decide) (by decide)
  have PT : RepP T [] := repP_fr hP fT (by decide) (by decide) (by decide) (by decide)
  have loop : ∀ (w i : Nat) (S1 : MS), V.1.1.length - i < w → i ≤ V.1.1.length → S1.1 24 = nxN (V.1.1.take i) → mfr [24] [] T S1 → okM m g (X9_open_b52 w m (nI i)) S1 (fun v S2 => okM m g (k v) S2 Q) := by
    intro w
    induction w with
    | zero => intro i S1 h; omega
    | succ w ih =>
      intro i S1 hw hi e24 f1
      show okM m g (X9_open_b52b (X9_open_b52 w) m (nI i)) S1 _
      unfold X9_open_b52b
      have F1 : RepF S1 V.1.1 := repF_fr FT f1 (by decide) (by decide) (by decide) (by decide) (by decide) (by decide)
      refine oM_gI hM ?_
      rw [F1.1.1]
      by_cases c : i < V.1.1.length
      · obtain ⟨f, hf⟩ := some_of_lt c
        obtain ⟨n1, n2', n3⟩ := rf_n F1 hf
        have hfn := hnum f (List.mem_of_getElem? hf)
        refine oM_itF (nI_ge c (by omega)) (oM_gI hM (oM_gR hM (oM_al (q := 2) hM rfl n1 (oM_pI hM ?_))))
        rw [nI_1]
        refine ih (i + 1) _ (by omega) (by omega) ?_ (mfr_tr f1 (mfr_I (by decide)))
        show imx (S1.1 24) (f.1 + 1) = _
        rw [e24, take_snoc hf, nxN_snoc]
        have p1 : ∀ z : Int32, 1 ≤ z.toInt ∧ z.toInt ≤ 1000000 → (z + 1).toInt = z.toInt + 1 := by
          intro z hz
          rw [Int32.toInt_add, show (1 : Int32).toInt = 1 from rfl, Int.bmod_eq_of_le (by omega) (by omega)]
        have le : (nxN (V.1.1.take i)).toInt ≤ (f.1 + 1).toInt := by
          rw [p1 f.1 hfn]
          cases i with
          | zero =>
            rw [List.take_zero]
            show (1 : Int32).toInt ≤ _
            rw [show (1 : Int32).toInt = 1 from rfl]
            omega
          | succ i =>
            obtain ⟨y, hy⟩ := some_of_lt (show i < V.1.1.length by omega)
            rw [take_snoc hy, nxN_snoc, p1 y.1 (hnum y (List.mem_of_getElem? hy))]
            have hp := List.pairwise_iff_getElem.mp hS i (i + 1) (by omega) c (by omega)
            rw [List.getElem?_eq_getElem (by omega)] at hy
            rw [List.getElem?_eq_getElem c] at hf
            rw [Option.some.inj hy, Option.some.inj hf] at hp
            rcases hp with q | q
            · rw [Int32.lt_iff_toInt_lt] at q
              omega
            · rw [q.1]
              omega
        unfold imx
        split
        · rfl
        · rename_i hn
          rw [Int32.lt_iff_toInt_lt] at hn
          apply Int32.toInt_inj.mp
          omega
      · have ei : i = V.1.1.length := by omega
        subst ei
        rw [List.take_length] at e24
        have OA : OR S1 (oA V) := by
          refine ⟨F1, repP_fr PT f1 (by decide) (by decide) (by decide) (by decide), hS, ?_, ?_, ?_, ?_⟩
          · rw [f1.1 19 (by decide)]
            exact T19
          · rw [f1.1 20 (by decide)]
            exact T20
          · rw [f1.1 21 (by decide)]
            exact T21
          · rw [f1.1 22 (by decide)]
            exact T22
        have h211 : (S1.2 21).length = 4200 := by
          rw [f1.2 21 (by decide), fT.2 21 (by decide)]
          exact h21
        refine oM_itT (nI_le (Nat.le_refl _) (by omega)) (oM_ck hM (m_marks hM OA h211 hone (fun S2 O2 hno h212 f2 => oM_ck hM (m_loneHints hM O2 (fun S3 O3 f3 => oM_pI hM (oM_pI hM ?_))))))
        have O3 : OR S3 (oC V) := O3
        have rB := obM_rest (oA V).1.1.length (oA V)
        have sB : SrtF (oB V).1.1 := O2.2.2.1
        obtain ⟨c1, c2, c3⟩ := dlH_eq (oB V).1.1.length (oB V) (Nat.le_refl _) sB
        have c1 : (oC V).1.1 = (oB V).1.1.filter (kpH (oB V).1.1) := by
          have : (oC V).1.1 = _ := c1
          rw [this, List.take_length, List.drop_length, List.append_nil]
        have rows : (oC V).2.1 = [] := by
          have : (oC V).2 = _ := c2
          rw [this]
          exact rB.1
        have st : (oC V).2.2.2.1.2.2.2.2 = 0 := by
          have : (oC V).2 = _ := c2
          rw [this]
          exact rB.2
        have f4 : mfr [25, 33] [] S3 (upI (upI S3 33 0) 25 1) := mfr_tr (mfr_I (by decide)) (mfr_I (by decide))
        have f13 : mfr [4, 8, 12, 22, 24] [1, 2, 3, 4, 5, 6, 7, 21] T S3 := mfr_tr (mfr_mono f1 (by decide) (by decide)) (mfr_tr (mfr_mono f2 (by decide) (by decide)) (mfr_mono f3 (by decide) (by decide)))
        have f03 : mfr [0, 4, 8, 12, 19, 20, 21, 22, 24] [1, 2, 3, 4, 5, 6, 7, 21] S S3 := mfr_tr (mfr_mono fT (by decide) (by decide)) (mfr_mono f13 (by decide) (by decide))
        generalize hU : upI (upI S3 33 0) 25 1 = U at *
        have U33 : U.1 33 = 0 := by rw [← hU]; rfl
        have U25 : U.1 25 = 1 := by rw [← hU]; rfl
        have RU : RO2 U (oC V) := by
          refine ⟨OR_fr O3 f4 (by decide) (by decide) (by decide) (by decide) (by decide) (by decide) (by decide) (fun q _ => List.not_mem_nil), ?_, ?_, ?_, ?_⟩
          · rw [rows]
            refine ⟨⟨U33, by decide⟩, ?_, fun i r hr => by cases hr⟩
            unfold dLen
            have e : ∀ q, 11 ≤ q → q ≤ 16 → U.2 q = S.2 q := by
              intro q q1 q2
              rw [f4.2 q List.not_mem_nil, f03.2 q (by simp only [List.mem_cons, List.not_mem_nil, or_false]; omega)]
            refine ⟨by rw [e 11 (by decide) (by decide)]; exact hdl.1, fun q q1 q2 => by rw [e q (by omega) q2]; exact hdl.2.1 q q1 q2, by rw [e 11 (by decide) (by decide)]; exact hdl.2.2⟩
          · rw [rows]
            exact List.Pairwise.nil
          · rw [U25, st]
            rfl
          · rw [st]
            decide
        have hHD : HDl ((oC V).1.1.drop 0) := by
          rw [List.drop_zero]
          refine hd_of O3.2.2.1 (fun f hf => ?_) (fun f hf hf1 => ?_)
          · rw [c1] at hf
            have hfB := (List.mem_filter.mp hf).1
            have hfV := (obM_mem (x := f) (oA V).1.1.length (oA V) hS).1 hfB
            rcases hkind f hfV with q | q | q
            · exact Or.inl q
            · exact Or.inr q
            · exact absurd q (hno f hfB)
          · rw [c1] at hf
            obtain ⟨g1, g2⟩ := List.mem_filter.mp hf
            unfold kpH at g2
            rw [decide_eq_true hf1, Bool.true_and] at g2
            cases hfn : fndF f.1 0 (oB V).1.1 with
            | none =>
              rw [hfn] at g2
              cases g2
            | some d =>
              obtain ⟨d1, d2, d3⟩ := fndF_some hfn
              refine ⟨d, ?_, d2, d3⟩
              rw [c1]
              refine List.mem_filter.mpr ⟨List.mem_of_getElem? d1, ?_⟩
              unfold kpH
              rw [decide_eq_false (by rw [d3]; decide), Bool.false_and]
              rfl
        have hlC := O3.1.1.2.2.2
        have htC := O3.1.1.2.2.1
        refine oM_mono (m_files (S := U) (W := oD V) (Q := fun v S2 => okM m g (k v) S2 Q) hM hvs (fun S5 S' R5 a1 a2 a3 a4 a5 a6 a7 => ?_) FU (oC V).1.1.length 0 U (oC V) (by omega) (by omega) (Nat.zero_le _) RU hHD (by rw [rows, List.drop_zero, List.length_nil]; omega) mfr_refl rfl) (fun v S2 q => q)
        have fU : mfr [0, 4, 8, 12, 19, 20, 21, 22, 24, 25, 33] [1, 2, 3, 4, 5, 6, 7, 11, 12, 13, 14, 15, 16, 21] S S5 := mfr_tr (mfr_mono f03 (by decide) (by decide)) (mfr_tr (mfr_mono f4 (by decide) (by decide)) (mfr_mono a7 (by decide) (by decide)))
        have OS := OR_fr R5.1 a6 (by decide) (by decide) (by decide) (by decide) (by decide) (by decide) (by decide) (fun q hq => by simp only [List.mem_cons, List.not_mem_nil, or_false]; omega)
        refine h2 S' ⟨OS.1, OS.2.1, a1, OS.2.2.2, ⟨?_, ?_, a2, a3, a4, a5, ?_⟩, ?_⟩ (mfr_tr (mfr_mono fU (by decide) (by decide)) (mfr_mono a6 (by decide) (by decide)))
        · rw [a6.1 24 (by decide), a7.1 24 (by decide), f4.1 24 (by decide), f3.1 24 (by decide), f2.1 24 (by decide)]
          exact e24
        · rw [a6.1 25 (by decide)]
          exact R5.2.2.2.1
        · rw [a6.1 0 (by decide), a7.1 0 (by decide), f4.1 0 (by decide), f13.1 0 (by decide)]
          exact T0
        · rw [a6.2 21 (by decide), a7.2 21 (by decide), f4.2 21 (by decide), f3.2 21 (by decide)]
          exact h212
  exact loop FU 0 T (by omega) (Nat.zero_le _) (by rw [T24]; rfl) mfr_refl
end
