/-! class and reference: put, remove -/
theorem cnw_app (l : Int32) (a b : List AR) : cnw l (a ++ b) = cnw l a + cnw l b := by
  unfold cnw
  rw [List.filter_append, List.length_append]
theorem cnw_cons (l : Int32) (r : AR) (b : List AR) : cnw l b ≤ cnw l (r :: b) ∧ cnw l (r :: b) ≤ cnw l b + 1 := by
  unfold cnw
  rw [List.filter_cons]
  split
  · rw [List.length_cons]
    omega
  · omega
theorem tel_all {t : List Int32} {a b c d : Int32} {rs : List AR} (hS : SrtR rs) (hn : ∀ r, r ∈ rs → nrm r.1) (ht : nrm t) : (∀ r, r ∈ telR (plR t rs) a b c d (ensR t rs) → r ∈ rs ∨ r = (t, a, b, c, d)) ∧ (telR (plR t rs) a b c d (ensR t rs)).length ≤ rs.length + 1 ∧ SrtR (telR (plR t rs) a b c d (ensR t rs)) ∧ ∀ l, cnw l (telR (plR t rs) a b c d (ensR t rs)) ≤ cnw l rs + 1 := by
  refine ⟨?_, by rw [telR_len]; exact ensR_len t rs, srtR_map (ensR_srt hS) (telR_keys _ _ _ _ _ _), ?_⟩
  · intro r hr
    cases h : lokR t rs with
    | some x =>
      obtain ⟨q1, q2, q3⟩ := telR_some (a := a) (b := b) (c := c) (d := d) h
      rw [q1] at hr
      rcases List.mem_or_eq_of_mem_set hr with q | q
      · exact Or.inl q
      · rw [csg0_eq x.1 t (hn x (List.mem_of_getElem? q2)) ht q3] at q
        exact Or.inr q
    | none =>
      rw [telR_none h] at hr
      rcases List.mem_append.mp hr with q | q
      · exact Or.inl (List.mem_of_mem_take q)
      · rcases List.mem_cons.mp q with q | q
        · exact Or.inr q
        · exact Or.inl (List.mem_of_mem_drop q)
  · intro l
    cases h : lokR t rs with
    | some x =>
      obtain ⟨q1, q2, q3⟩ := telR_some (a := a) (b := b) (c := c) (d := d) h
      rw [q1, set_split q2, cnw_app]
      have e : rs = rs.take (plR t rs) ++ x :: rs.drop (plR t rs + 1) := by rw [← drop_cons q2, List.take_append_drop]
      have e2 := congrArg (cnw l) e
      rw [cnw_app] at e2
      have h1 := cnw_cons l (x.1, a, b, c, d) (rs.drop (plR t rs + 1))
      have h2 := cnw_cons l x (rs.drop (plR t rs + 1))
      omega
    | none =>
      rw [telR_none h, cnw_app]
      have e2 := congrArg (cnw l) (List.take_append_drop (plR t rs) rs)
      rw [cnw_app] at e2
      have h1 := cnw_cons l (t, a, b, c, d) (rs.drop (plR t rs))
      omega
theorem era_all {rs : List AR} (hS : SrtR rs) (p : Nat) : (∀ r, r ∈ rs.eraseIdx p → r ∈ rs) ∧ (rs.eraseIdx p).length ≤ rs.length ∧ SrtR (rs.eraseIdx p) ∧ ∀ l, cnw l (rs.eraseIdx p) ≤ cnw l rs + 1 := by
  have hs := List.eraseIdx_sublist rs p
  refine ⟨fun r hr => hs.subset hr, hs.length_le, List.Pairwise.sublist hs hS, fun l => ?_⟩
  have := (hs.filter (fun r => !decide (r.2.1 < l))).length_le
  unfold cnw
  omega
/-- what a write does to the object, in its parts -/
def wrt5 (V W : VC) (a nx' : Int32) (r : List Int32) : Prop := W.1.1 = (appF a 0 r V.1.1 V.1.2.1).1 ∧ W.1.2.2 = (noteA a 0 (nI r.length) V.1.2.2.1, V.1.2.2.2.1, V.1.2.2.2.2.1, nx') ∧ W.2.2.1 = V.2.2.1 ∧ W.2.2.2.1 = V.2.2.2.1 ∧ W.2.2.2.2.1 = (V.2.2.2.2.1.1, a, V.2.2.2.2.1.2.2.1 + 1, V.2.2.2.2.1.2.2.2.1, V.2.2.2.2.1.2.2.2.2)
theorem wrV_new {ks vs : Int32} {V : VC} (h : isNew V (recB V.2.2.2.2.1.2.2.1 ks vs V.2.2.2.2.2.1).length = true) : (wrV ks vs V).1 = 0 ∧ wrt5 V (wrV ks vs V).2.1 V.1.2.2.2.2.2 (V.1.2.2.2.2.2 + 1) (recB V.2.2.2.2.1.2.2.1 ks vs V.2.2.2.2.2.1) := by
  unfold wrV wrt5
  dsimp only
  rw [h]
  exact ⟨rfl, rfl, rfl, rfl, rfl, rfl⟩
theorem wrV_old {ks vs : Int32} {V : VC} (h : isNew V (recB V.2.2.2.2.1.2.2.1 ks vs V.2.2.2.2.2.1).length = false) : (wrV ks vs V).1 = nI (szF V.2.2.2.2.1.2.1 0 V.1.1) ∧ wrt5 V (wrV ks vs V).2.1 V.2.2.2.2.1.2.1 V.1.2.2.2.2.2 (recB V.2.2.2.2.1.2.2.1 ks vs V.2.2.2.2.2.1) := by
  unfold wrV wrt5
  dsimp only
  rw [h]
  exact ⟨rfl, rfl, rfl, rfl, rfl, rfl⟩
theorem recL (st ks vs : Int32) (tk : List Int32) : (recB st ks vs tk).length = 14 + tk.length := by
  unfold recB
  simp only [List.length_append, be4_len, be2_len]
  omega
section
variable {m : Nat} {g : Gh} {S : MS} {α : Type} {t : Nat} {V : VC} {ps : List AV}
theorem threw_rel {S' : MS} {c : Int32} (h : Rel t V S ps) (hT : Threw S S' c) : Rel (t + 1) (sB1 [] (sB3 V.2.2.2.2.1.2.2.2.1 V)) S' ps := rel_t (rel_tf h hT.1 (repA_fr h.2.1.2.2.2.2.2.2 hT.2.2 (by decide) (by decide)) (mfr_mono hT.2.2 (by decide) (by decide))) (by omega)
/-- the reference wrote as the class did -/
theorem wrote_rel {S' : MS} {kn : Nat} {vs : Int32} {rs' : List AR} (h : Rel t V S ps) (ht : t ≤ 512) (hop : ¬ V.2.2.2.2.1.1 = 0) (hfull : fullM S (nI (14 + V.2.2.2.2.1.2.2.2.1.length)) = false) (hk : 1 ≤ kn ∧ kn ≤ 16 ∧ kn ≤ V.2.2.2.2.1.2.2.2.1.length)
    (hW : Wrote S S' V.1.1 ps V.2.1 V.1.2.1 kn vs V.2.2.2.2.1.2.2.2.1) (hrs' : rs' = wrR (V.2.2.2.2.1.2.2.2.1.take kn) (wAct S V.1.1 (14 + V.2.2.2.2.1.2.2.2.1.length)) (wPl S V.1.1 (14 + V.2.2.2.2.1.2.2.2.1.length)) vs V.2.2.2.2.1.2.2.1 V.2.1)
    (hv : vs < 0 ∨ ∃ W, vs = nI W ∧ W ≤ 64 ∧ kn + W = V.2.2.2.2.1.2.2.2.1.length) : Rel (t + 1) (sRr rs' (wrV (nI kn) vs (sB1 [] (sB3 V.2.2.2.2.1.2.2.2.1 V))).2.1) S' (ps ++ [(wAct S V.1.1 (14 + V.2.2.2.2.1.2.2.2.1.length), 0, nI (14 + V.2.2.2.2.1.2.2.2.1.length))]) ∧ (wrV (nI kn) vs (sB1 [] (sB3 V.2.2.2.2.1.2.2.2.1 V))).1 = wPl S V.1.1 (14 + V.2.2.2.2.1.2.2.2.1.length) ∧ (wrV (nI kn) vs (sB1 [] (sB3 V.2.2.2.2.1.2.2.2.1 V))).2.1.2.2.2.2.1.2.1 = wAct S V.1.1 (14 + V.2.2.2.2.1.2.2.2.1.length) := by
  obtain ⟨w1, w2, w3, w4, w5, w6, w7, w8, w9, w10⟩ := hW
  obtain ⟨⟨s1, s2, s3, s4, s5, s6⟩, _⟩ := h.2.1.1
  have hop1 := h.1.2.2.1.resolve_left hop
  obtain ⟨r1, r2, r3, r4, r5⟩ := h.2.1.2.2
  have l80 := r4.2.1
  obtain ⟨R, hR, hRc, _⟩ := rel_res h
  obtain ⟨hcap, hst⟩ := full_no h hR hRc (by omega) hfull
  have ln := recL V.2.2.2.2.1.2.2.1 (nI kn) vs V.2.2.2.2.1.2.2.2.1
  have eN : isNew (sB1 [] (sB3 V.2.2.2.2.1.2.2.2.1 V)) (recB V.2.2.2.2.1.2.2.1 (nI kn) vs V.2.2.2.2.1.2.2.2.1).length = wNew S V.1.1 (14 + V.2.2.2.2.1.2.2.2.1.length) := by
    rw [ln]
    unfold wNew
    rw [s5, s2]
    rfl
  have hnt : nrm (V.2.2.2.2.1.2.2.2.1.take kn) := by
    intro v hv
    refine r4.2.2.2.2 v ?_
    have : v ∈ (S.2 9).take V.2.2.2.2.1.2.2.2.1.length := by
      rw [r4.2.2.2.1]
      exact List.mem_of_mem_take hv
    exact List.mem_of_mem_take this
  have hnk : ∀ r, r ∈ V.2.1 → nrm r.1 := by
    intro r hr
    obtain ⟨i, hi⟩ := List.mem_iff_getElem?.mp hr
    exact row_nrm (r3.2.2 i r hi) r3.2.1.2.2
  have lt : (V.2.2.2.2.1.2.2.2.1.take kn).length = kn := by rw [List.length_take]; omega
  have hrows : ∀ a pl, pl = nI (szF a 0 V.1.1) → wrR (V.2.2.2.2.1.2.2.2.1.take kn) a pl vs V.2.2.2.2.1.2.2.1 V.2.1 = rs' → (∀ l, cnw l rs' ≤ cnw l V.2.1 + 1) ∧ SrtR rs' ∧ rs'.length ≤ V.2.1.length + 1 ∧ ∀ r, r ∈ rs' → r ∈ V.2.1 ∨ (r.2.1 = a ∧ (1 ≤ r.1.length ∧ r.1.length ≤ 16) ∧ r.2.2.1 = nI (szF a 0 V.1.1) ∧ ∃ W, r.2.2.2.1 = nI W ∧ W ≤ 64 ∧ 14 + r.1.length + W = (recB V.2.2.2.2.1.2.2.1 (nI kn) vs V.2.2.2.2.1.2.2.2.1).length) := by
    intro a pl hpl e
    unfold wrR at e
    by_cases c : vs < 0
    · rw [if_pos c] at e
      rw [← e]
      obtain ⟨q1, q2, q3, q4⟩ := era_all h.1.2.1.1 (plR (V.2.2.2.2.1.2.2.2.1.take kn) V.2.1)
      exact ⟨q4, q3, by omega, fun r hr => Or.inl (q1 r hr)⟩
    · rw [if_neg c] at e
      rw [← e]
      obtain ⟨q1, q2, q3, q4⟩ := tel_all (a := a) (b := pl) (c := vs) (d := V.2.2.2.2.1.2.2.1) h.1.2.1.1 hnk hnt
      refine ⟨q4, q3, q2, fun r hr => ?_⟩
      rcases q1 r hr with z | z
      · exact Or.inl z
      · obtain ⟨W, W1, W2, W3⟩ := hv.resolve_left c
        rw [z]
        refine Or.inr ⟨rfl, by show 1 ≤ (V.2.2.2.2.1.2.2.2.1.take kn).length ∧ _; rw [lt]; exact ⟨hk.1, hk.2.1⟩, hpl, W, W1, W2, ?_⟩
        show 14 + (V.2.2.2.2.1.2.2.2.1.take kn).length + W = _
        rw [lt, ln]
        omega
  have ez : szF V.1.2.2.2.2.2 0 V.1.1 = 0 := rel_szn h
  have fin5 : ∀ (a nx' : Int32) (W : VC), ((a = V.1.2.2.2.2.2 ∧ nx' = V.1.2.2.2.2.2 + 1) ∨ (a = V.2.2.2.2.1.2.1 ∧ V.2.2.2.2.1.2.1 ≠ -1 ∧ nx' = V.1.2.2.2.2.2)) → wrt5 (sB1 [] (sB3 V.2.2.2.2.1.2.2.2.1 V)) W a nx' (recB V.2.2.2.2.1.2.2.1 (nI kn) vs V.2.2.2.2.1.2.2.2.1) → wAct S V.1.1 (14 + V.2.2.2.2.1.2.2.2.1.length) = a → wPl S V.1.1 (14 + V.2.2.2.2.1.2.2.2.1.length) = nI (szF a 0 V.1.1) → wNum S V.1.1 (14 + V.2.2.2.2.1.2.2.2.1.length) = nx' → Rel (t + 1) (sRr rs' W) S' (ps ++ [(wAct S V.1.1 (14 + V.2.2.2.2.1.2.2.2.1.length), 0, nI (14 + V.2.2.2.2.1.2.2.2.1.length))]) := by
    intro a nx' W ha hw ea epl en
    obtain ⟨v1, v2, v3, v4, v5⟩ := hw
    rw [ea, s4] at w1
    rw [ea] at w2 w5 hrs' ⊢
    rw [ea, s4] at w3
    rw [s4] at w4
    rw [en] at w6
    obtain ⟨g1, g2, g3, g4⟩ := hrows a _ epl hrs'.symm
    rw [← hrs'] at w3
    have := rel_wrote (V' := sRr rs' W) (S' := S') (part := recB V.2.2.2.2.1.2.2.1 (nI kn) vs V.2.2.2.2.1.2.2.2.1) (sv := V.1.2.1) h ht hop1 hR (by rw [ln]; exact hcap) hst (by rw [ln]; omega) ha v1 v2 rfl v3 v4 v5 g1 ⟨g2, g3, g4⟩ (by
      have e : (sRr rs' W).1.1 = (appF a 0 (recB V.2.2.2.2.1.2.2.1 (nI kn) vs V.2.2.2.2.1.2.2.2.1) V.1.1 V.1.2.1).1 := v1
      rw [e]
      exact w1) (by rw [ln]; exact w2) w3 ⟨w4, w5, w6⟩ w7 w8 w10
    rw [ln] at this
    exact this
  cases hn : wNew S V.1.1 (14 + V.2.2.2.2.1.2.2.2.1.length) with
  | true =>
    rw [hn] at eN
    obtain ⟨q1, q2⟩ := wrV_new (ks := nI kn) (vs := vs) (V := sB1 [] (sB3 V.2.2.2.2.1.2.2.2.1 V)) eN
    have ea : wAct S V.1.1 (14 + V.2.2.2.2.1.2.2.2.1.length) = V.1.2.2.2.2.2 := by
      unfold wAct
      rw [hn, if_pos rfl, s3]
    have epl : wPl S V.1.1 (14 + V.2.2.2.2.1.2.2.2.1.length) = 0 := by
      unfold wPl
      rw [hn, if_pos rfl]
    refine ⟨fin5 _ _ _ (Or.inl ⟨rfl, rfl⟩) q2 ea (by rw [epl, ez]; rfl) (by unfold wNum; rw [hn, if_pos rfl, s3]), by rw [q1, epl], ?_⟩
    rw [ea, q2.2.2.2.2]
    rfl
  | false =>
    rw [hn] at eN
    obtain ⟨q1, q2⟩ := wrV_old (ks := nI kn) (vs := vs) (V := sB1 [] (sB3 V.2.2.2.2.1.2.2.2.1 V)) eN
    have ea : wAct S V.1.1 (14 + V.2.2.2.2.1.2.2.2.1.length) = V.2.2.2.2.1.2.1 := by
      unfold wAct
      rw [hn, if_neg (by decide), s5]
    have epl : wPl S V.1.1 (14 + V.2.2.2.2.1.2.2.2.1.length) = nI (szF V.2.2.2.2.1.2.1 0 V.1.1) := by
      unfold wPl
      rw [hn, if_neg (by decide), s5]
    have hne : V.2.2.2.2.1.2.1 ≠ -1 := by
      intro q
      unfold wNew at hn
      exact of_decide_eq_false hn (Or.inl (by rw [s5]; exact q))
    refine ⟨fin5 _ _ _ (Or.inr ⟨rfl, hne, rfl⟩) q2 ea epl (by unfold wNum; rw [hn, if_neg (by decide), s3]), by rw [q1, epl]; rfl, ?_⟩
    rw [ea, q2.2.2.2.2]
    rfl
def pm3 (j : Nat) : Int32 := if j = 1 then 1 else if j = 0 then 2 else 3
theorem put_ht (h : Rel t V S ps) : ¬ S.1 23 = 0 → fullM S (nI (14 + V.2.2.2.2.1.2.2.2.1.length)) = false → totF V.1.1 + (14 + V.2.2.2.2.1.2.2.2.1.length) ≤ 16384 ∧ V.2.1.length < 1199 ∧ szF (S.1 24) 0 V.1.1 = 0 := by
  intro _ hf
  obtain ⟨R, hR, hRc, _⟩ := rel_res h
  have l80 := h.2.1.2.2.2.2.2.1.2.1
  obtain ⟨hcap, _⟩ := full_no h hR hRc (by omega) hf
  have := h.1.1.2.2.2.1
  have := h.1.2.1.2.2.1
  refine ⟨by omega, by omega, ?_⟩
  rw [h.2.1.1.1.2.2.1]
  exact rel_szn h
theorem r_put {x : Int32} {k : Int32 → M α} {Q : α → MS → Prop} (hM : Mk m g) (h : Rel t V S ps) (ht : t ≤ 512) (hk : ∀ S' ps', Rel (t + 1) (sPut x V).2.1 S' ps' → S'.1 0 = th2 pm3 (sPut x V).1 → okM m g (k (vl (sPut x V).1)) S' Q) : okM m g (bd (X9_put m x) k) S Q := by
  have e23 := h.2.1.1.1.2.2.2.2.2
  obtain ⟨r1, r2, r3, r4, r5⟩ := h.2.1.2.2
  have l80 := r4.2.1
  have hfl := r1.1.2.2.2
  have hpl := r2.1.2
  have hlen := h.1.1.2.2.1
  have pt := pcs_tot h.1.1.1 h.2.2.1.1.2.1
  have hT := r1.1.2.2.1
  unfold sPut at hk
  dsimp only at hk
  refine m_put (sv := V.1.2.1) hM r1 h.1.1.1 r2 r3 r4 h.2.1.2.1.1 (by omega) (by omega) (put_ht h) (fun S' c w => ?_) (fun S' c c2 w => ?_) (fun S' c c2 c3 w => ?_) (fun S' c c2 c3 w => ?_)
  · rw [e23] at c
    rw [if_pos c] at hk
    exact hk S' ps (threw_rel h w) w.2.1
  · rw [e23] at c
    unfold putBad at c2
    rw [if_neg c, if_pos c2] at hk
    exact hk S' ps (threw_rel h w) w.2.1
  · rw [e23] at c
    unfold putBad at c2
    rw [if_neg c, if_neg c2, full_eq h, c3] at hk
    exact hk S' ps (threw_rel h w) w.2.1
  · rw [e23] at c
    unfold putBad at c2
    rw [if_neg c, if_neg c2, full_eq h, c3] at hk
    simp only [Int32.lt_iff_toInt_lt, li1, li16, li64, Int32.toInt_zero] at c2
    have x1 : 1 ≤ x.toInt ∧ x.toInt ≤ 16 := by omega
    have ex : x = nI x.toNatClampNeg := nI_cl (by rw [Int32.lt_iff_toInt_lt, Int32.toInt_zero]; omega)
    have exn : x.toNatClampNeg = x.toInt.toNat := rfl
    have ev : (nI V.2.2.2.2.1.2.2.2.1.length - x).toInt = V.2.2.2.2.1.2.2.2.1.length - x.toInt := by
      rw [Int32.toInt_sub, nI_toInt (by omega), Int.bmod_eq_of_le (by omega) (by omega)]
    rw [ev] at c2
    have evn : nI V.2.2.2.2.1.2.2.2.1.length - x = nI (V.2.2.2.2.1.2.2.2.1.length - x.toNatClampNeg) := by
      apply Int32.toInt_inj.mp
      rw [ev, nI_toInt (by omega)]
      omega
    have ers : rsz x (nI V.2.2.2.2.1.2.2.2.1.length - x) = nI (14 + V.2.2.2.2.1.2.2.2.1.length) := by
      rw [evn]
      generalize hKn : x.toNatClampNeg = K at *
      rw [ex]
      have cl : (nI (V.2.2.2.2.1.2.2.2.1.length - K)).toNatClampNeg = V.2.2.2.2.1.2.2.2.1.length - K := by
        show (nI _).toInt.toNat = _
        rw [nI_toInt (by omega)]
        rfl
      rw [rsz_nI, cl]
      congr 1
      omega
    rw [ers] at c3
    have hvs : ¬ nI V.2.2.2.2.1.2.2.2.1.length - x < 0 := by
      rw [Int32.lt_iff_toInt_lt, ev, Int32.toInt_zero]
      omega
    have main := wrote_rel (rs' := wrR (V.2.2.2.2.1.2.2.2.1.take x.toNatClampNeg) (wAct S V.1.1 (14 + V.2.2.2.2.1.2.2.2.1.length)) (wPl S V.1.1 (14 + V.2.2.2.2.1.2.2.2.1.length)) (nI V.2.2.2.2.1.2.2.2.1.length - x) V.2.2.2.2.1.2.2.1 V.2.1) h ht c c3 (by omega) w rfl (Or.inr ⟨V.2.2.2.2.1.2.2.2.1.length - x.toNatClampNeg, evn, by omega, by omega⟩)
    rw [← ex] at main
    obtain ⟨m1, m2, m3⟩ := main
    rw [m2, m3] at hk
    unfold wrR at m1
    rw [if_neg hvs] at m1
    have := hk S' _ m1 w.2.2.2.2.2.2.2.2.1
    rw [h.2.1.1.1.2.2.2.1]
    exact this
theorem r_remove {k : Int32 → M α} {Q : α → MS → Prop} (hM : Mk m g) (h : Rel t V S ps) (ht : t ≤ 512) (hk : ∀ S' ps', Rel (t + 1) (sRem V).2.1 S' ps' → S'.1 0 = th2 pm3 (sRem V).1 → okM m g (k (vl (sRem V).1)) S' Q) : okM m g (bd (X9_remove m) k) S Q := by
  have e23 := h.2.1.1.1.2.2.2.2.2
  obtain ⟨r1, r2, r3, r4, r5⟩ := h.2.1.2.2
  have l80 := r4.2.1
  have hlen := h.1.1.2.2.1
  have pt := pcs_tot h.1.1.1 h.2.2.1.1.2.1
  have hT := r1.1.2.2.1
  unfold sRem at hk
  dsimp only at hk
  refine m_remove (sv := V.1.2.1) hM r1 h.1.1.1 r2 r3 r4 h.2.1.2.1.1 (by omega) (by omega) (put_ht h) (fun S' c w => ?_) (fun S' c c2 w => ?_) (fun S' c c2 c3 w => ?_) (fun S' r c c2 c3 c4 w => ?_) (fun S' r c c2 c3 c4 w => ?_)
  · rw [e23] at c
    rw [if_pos c] at hk
    exact hk S' ps (threw_rel h w) w.2.1
  · rw [e23] at c
    rw [if_neg c, if_pos c2] at hk
    exact hk S' ps (threw_rel h w) w.2.1
  · rw [e23] at c
    have c3 : (V.2.1[plR V.2.2.2.2.1.2.2.2.1 V.2.1]?).filter (isR V.2.2.2.2.1.2.2.2.1) = none := c3
    rw [if_neg c, if_neg c2, c3] at hk
    exact hk S' ps (threw_rel h w) w.2.1
  · rw [e23] at c
    have c3 : (V.2.1[plR V.2.2.2.2.1.2.2.2.1 V.2.1]?).filter (isR V.2.2.2.2.1.2.2.2.1) = some r := c3
    rw [if_neg c, if_neg c2, c3] at hk
    dsimp only at hk
    rw [full_eq h, c4] at hk
    exact hk S' ps (threw_rel h w) w.2.1
  · rw [e23] at c
    have c3' : (V.2.1[plR V.2.2.2.2.1.2.2.2.1 V.2.1]?).filter (isR V.2.2.2.2.1.2.2.2.1) = some r := c3
    rw [if_neg c, if_neg c2, c3'] at hk
    dsimp only at hk
    rw [full_eq h, c4] at hk
    have ers : rsz (nI V.2.2.2.2.1.2.2.2.1.length) (-1) = nI (14 + V.2.2.2.2.1.2.2.2.1.length) := by
      rw [rsz_nI]
      rfl
    rw [ers] at c4
    obtain ⟨m1, m2, m3⟩ := wrote_rel (rs' := wrR (V.2.2.2.2.1.2.2.2.1.take V.2.2.2.2.1.2.2.2.1.length) (wAct S V.1.1 (14 + V.2.2.2.2.1.2.2.2.1.length)) (wPl S V.1.1 (14 + V.2.2.2.2.1.2.2.2.1.length)) (-1) V.2.2.2.2.1.2.2.1 V.2.1) h ht c c4 (by omega) w rfl (Or.inl (by decide))
    unfold wrR at m1
    rw [if_pos (by decide), List.take_length] at m1
    exact hk S' _ m1 w.2.2.2.2.2.2.2.2.1
end
