/-! the reference: hints and records are read -/
def RO2 (S : MS) (V : VC) : Prop := OR S V ∧ RepR S V.2.1 ∧ SrtR V.2.1 ∧ S.1 25 = V.2.2.2.1.2.2.2.2 + 1 ∧ 0 ≤ V.2.2.2.1.2.2.2.2.toInt ∧ V.2.2.2.1.2.2.2.2.toInt ≤ 1000000000
theorem imx_1 {x y : Int32} (hx : 0 ≤ x.toInt ∧ x.toInt ≤ 1000000000) (hy : 0 ≤ y.toInt ∧ y.toInt ≤ 1000000000) : imx (x + 1) (y + 1) = imx x y + 1 := by
  have e : ∀ z : Int32, 0 ≤ z.toInt ∧ z.toInt ≤ 1000000000 → (z + 1).toInt = z.toInt + 1 := by
    intro z hz
    rw [Int32.toInt_add, show (1 : Int32).toInt = 1 from rfl, Int.bmod_eq_of_le (by omega) (by omega)]
  unfold imx
  by_cases c : x < y
  · have c' : x + 1 < y + 1 := by
      rw [Int32.lt_iff_toInt_lt] at c ⊢
      rw [e x hx, e y hy]
      omega
    rw [if_pos c, if_pos c']
  · have c' : ¬ x + 1 < y + 1 := by
      rw [Int32.lt_iff_toInt_lt] at c ⊢
      rw [e x hx, e y hy]
      omega
    rw [if_neg c, if_neg c']
theorem imx_rng {x y : Int32} (hx : 0 ≤ x.toInt ∧ x.toInt ≤ 1000000000) (hy : 0 ≤ y.toInt ∧ y.toInt ≤ 1000000000) : 0 ≤ (imx x y).toInt ∧ (imx x y).toInt ≤ 1000000000 := by
  unfold imx
  split
  · exact hy
  · exact hx
theorem told_rng {st ks vs : Int32} (h : told st ks vs = true) : 0 ≤ st.toInt ∧ st.toInt ≤ 1000000000 := by
  have h := of_decide_eq_true h
  simp only [Int32.le_iff_toInt_le, li1, li16, li64, lim1, liG] at h
  omega
section
variable {m : Nat} {g : Gh} {S : MS} {α : Type} {rs : List AR} {fs : List AF} {ps : List AV} {V : VC}
theorem nrm_file {i : Nat} {x : AF} (hF : RepF S fs) (hf : fs[i]? = some x) : nrm x.2.2.1 := by
  intro v hv
  obtain ⟨j, hj⟩ := List.mem_iff_getElem?.mp hv
  exact nrm_get hF.2.2.2.2.2.2 (dsk_get hF hf hj)
theorem keyA_at {i j K : Nat} {x : AF} (hF : RepF S fs) (hf : fs[i]? = some x) (hK : (bsh x.2.2.1 (nI j + 8)).toNatClampNeg = K) (h : j + 14 + K ≤ x.2.2.1.length) : keyAt S 1 (totF (fs.take i) + (j + 14)) (keyA x.2.2.1 j) ∧ (keyA x.2.2.1 j).length = K ∧ nrm (keyA x.2.2.1 j) := by
  have eT := totF_take hf
  have hT := hF.1.2.2.1
  have l1 := hF.2.1.1
  have e : keyA x.2.2.1 j = (x.2.2.1.drop (j + 14)).take K := by
    unfold keyA
    rw [hK]
  have lk : (keyA x.2.2.1 j).length = K := by
    rw [e, List.length_take, List.length_drop]
    omega
  refine ⟨⟨by omega, by omega, ?_⟩, lk, fun v hv => nrm_file hF hf v ?_⟩
  · rw [lk, e]
    exact dsk_sl hF hf (by omega)
  · rw [e] at hv
    exact List.mem_of_mem_drop (List.mem_of_mem_take hv)
theorem RO2_19 {S1 : MS} {t : List Int32} {a b c d : Int32} (h : RO2 S V) (hf : mfr [33] [11, 12, 13, 14, 15, 16] S S1) (hR : RepR S1 (opR t a b c d V.2.1)) (hd : 0 ≤ d.toInt ∧ d.toInt ≤ 1000000000) : RO2 (upI (upI S1 19 (S1.1 19 + 1)) 25 (imx (S1.1 25) (d + 1))) (si902 (V.2.2.2.1.1 + 1) (opRd t a b c d V)) ∧ mfr [19, 25, 33] [11, 12, 13, 14, 15, 16] S (upI (upI S1 19 (S1.1 19 + 1)) 25 (imx (S1.1 25) (d + 1))) := by
  obtain ⟨hO, h2, h3, h4, h5⟩ := h
  have f2 : mfr [19, 25] [] S1 (upI (upI S1 19 (S1.1 19 + 1)) 25 (imx (S1.1 25) (d + 1))) := mfr_tr (mfr_I (by decide)) (mfr_I (by decide))
  have O1 := OR_fr hO hf (by decide) (by decide) (by decide) (by decide) (by decide) (by decide) (by decide) (fun q hq => by simp only [List.mem_cons, List.not_mem_nil, or_false]; omega)
  refine ⟨⟨⟨repF_fr O1.1 f2 (by decide) (by decide) (by decide) (by decide) (by decide) (by decide), repP_fr O1.2.1 f2 (by decide) (by decide) (by decide) (by decide), O1.2.2.1, ?_, O1.2.2.2.2.1, O1.2.2.2.2.2.1, O1.2.2.2.2.2.2⟩, repR_fr hR f2 (by decide) (fun q _ _ => List.not_mem_nil), (opRd_rows (t := t) (a := a) (b := b) (c := c) (d := d) (V := V)).2 h3, ?_, ?_⟩, mfr_tr (mfr_mono hf (by decide) (by decide)) (mfr_mono f2 (by decide) (by decide))⟩
  · show S1.1 19 + 1 = V.2.2.2.1.1 + 1
    rw [O1.2.2.2.1]
  · show imx (S1.1 25) (d + 1) = imx V.2.2.2.1.2.2.2.2 d + 1
    rw [hf.1 25 (by decide), h4, imx_1 h5 hd]
  · exact imx_rng h5 hd
theorem RO2_20 {S1 : MS} {t : List Int32} {a b c d : Int32} (h : RO2 S V) (hf : mfr [33] [11, 12, 13, 14, 15, 16] S S1) (hR : RepR S1 (opR t a b c d V.2.1)) (hd : 0 ≤ d.toInt ∧ d.toInt ≤ 1000000000) : RO2 (upI (upI S1 20 (S1.1 20 + 1)) 25 (imx (S1.1 25) (d + 1))) (si903 (V.2.2.2.1.2.1 + 1) (opRd t a b c d V)) ∧ mfr [20, 25, 33] [11, 12, 13, 14, 15, 16] S (upI (upI S1 20 (S1.1 20 + 1)) 25 (imx (S1.1 25) (d + 1))) := by
  obtain ⟨hO, h2, h3, h4, h5⟩ := h
  have f2 : mfr [20, 25] [] S1 (upI (upI S1 20 (S1.1 20 + 1)) 25 (imx (S1.1 25) (d + 1))) := mfr_tr (mfr_I (by decide)) (mfr_I (by decide))
  have O1 := OR_fr hO hf (by decide) (by decide) (by decide) (by decide) (by decide) (by decide) (by decide) (fun q hq => by simp only [List.mem_cons, List.not_mem_nil, or_false]; omega)
  refine ⟨⟨⟨repF_fr O1.1 f2 (by decide) (by decide) (by decide) (by decide) (by decide) (by decide), repP_fr O1.2.1 f2 (by decide) (by decide) (by decide) (by decide), O1.2.2.1, O1.2.2.2.1, ?_, O1.2.2.2.2.2.1, O1.2.2.2.2.2.2⟩, repR_fr hR f2 (by decide) (fun q _ _ => List.not_mem_nil), (opRd_rows (t := t) (a := a) (b := b) (c := c) (d := d) (V := V)).2 h3, ?_, ?_⟩, mfr_tr (mfr_mono hf (by decide) (by decide)) (mfr_mono f2 (by decide) (by decide))⟩
  · show S1.1 20 + 1 = V.2.2.2.1.2.1 + 1
    rw [O1.2.2.2.2.1]
  · show imx (S1.1 25) (d + 1) = imx V.2.2.2.1.2.2.2.2 d + 1
    rw [hf.1 25 (by decide), h4, imx_1 h5 hd]
  · exact imx_rng h5 hd
theorem m_readsHint {i D : Nat} {x : AF} {y : Int32} {k : Unit → M α} {Q : α → MS → Prop} (hM : Mk m g) (hO : RO2 S V) (hf : V.1.1[i]? = some x) (hy : y = nI i) (hg : ghi x.2.2.1 (nI D) = true) (hb : 15 * V.2.1.length + x.2.2.1.length ≤ 17900) (h : ∀ S', RO2 S' (rhL x.2.2.1 x.1 (x.2.2.1.length - 4) 20000 4 V) → mfr [19, 25, 33] [11, 12, 13, 14, 15, 16] S S' → okM m g (k ()) S' Q) : okM m g (bd (X9_readsHint m y) k) S Q := by
  subst hy
  refine oM_bd ?_
  unfold X9_readsHint
  have hF := hO.1.1
  have hi := lt_of_some hf
  obtain ⟨n1, n2', n3⟩ := rf_n hF hf
  have eT := totF_take hf
  have hT := hF.1.2.2.1
  have : FU = 1000000 := rfl
  unfold ghi at hg
  simp only [Bool.and_eq_true] at hg
  have c1 := of_decide_eq_true hg.1.1
  have e4 : nI (totF (V.1.1.take i)) + nI x.2.2.1.length - 4 = nI (totF (V.1.1.take i) + (x.2.2.1.length - 4)) := by
    rw [nI_add]
    have := nI_subN (a := totF (V.1.1.take i) + x.2.2.1.length) (b := 4) (by omega)
    rw [show totF (V.1.1.take i) + x.2.2.1.length - 4 = totF (V.1.1.take i) + (x.2.2.1.length - 4) by omega] at this
    exact this
  refine oM_gR hM (oM_al (q := 2) hM rfl n1 (oM_ck hM (m_startOf hM hF rfl (by omega) (oM_gR hM (oM_al (q := 4) hM rfl n3 (oM_bpu (oM_bpu ?_)))))))
  rw [e4, show nI (totF (V.1.1.take i)) + 4 = nI (totF (V.1.1.take i) + 4) from nI_add _ 4]
  have loop : ∀ (u w j : Nat) (c : Int32) (S1 : MS) (V1 : VC), u < w → 4 ≤ j → j ≤ x.2.2.1.length - 4 → ghL x.2.2.1 (x.2.2.1.length - 4) (nI D) u j c = true → RO2 S1 V1 → V1.1 = V.1 → 15 * V1.2.1.length + (x.2.2.1.length - j) ≤ 17900 → mfr [19, 25, 33] [11, 12, 13, 14, 15, 16] S S1 → rhL x.2.2.1 x.1 (x.2.2.1.length - 4) u j V1 = rhL x.2.2.1 x.1 (x.2.2.1.length - 4) 20000 4 V → okM m g (X9_readsHint_b30 w m x.1 (nI (totF (V.1.1.take i) + (x.2.2.1.length - 4))) (nI (totF (V.1.1.take i) + j))) S1 (fun v S2 => okM m g (k v) S2 Q) := by
    intro u
    induction u with
    | zero =>
      intro w j c S1 V1 hw h4 h5 hg
      cases hg
    | succ u ih =>
      intro w j c S1 V1 hw h4 h5 hg R1 ev hb1 f1 er
      obtain ⟨w, rfl⟩ : ∃ w', w = w' + 1 := ⟨w - 1, by omega⟩
      show okM m g (X9_readsHint_b30b (X9_readsHint_b30 w) m x.1 (nI (totF (V.1.1.take i) + (x.2.2.1.length - 4))) (nI (totF (V.1.1.take i) + j))) S1 _
      unfold X9_readsHint_b30b
      unfold ghL at hg
      unfold rhL at er
      by_cases ce : x.2.2.1.length - 4 ≤ j
      · rw [if_pos ce] at er
        rw [er] at R1
        exact oM_itT (nI_le (by omega) (by omega)) (oM_pu (h S1 R1 f1))
      · rw [if_neg ce] at hg er
        have F1 : RepF S1 V.1.1 := by
          have := R1.1.1
          rw [ev] at this
          exact this
        obtain ⟨hg1, hg2⟩ := Bool.and_eq_true_iff.mp hg
        unfold gen at hg1
        simp only [Bool.and_eq_true] at hg1
        obtain ⟨⟨⟨⟨g1, g2⟩, g3⟩, g4⟩, g5⟩ := hg1
        have g1 := of_decide_eq_true g1
        have g3 := of_decide_eq_true g3
        have ex : ∀ s, nI (totF (V.1.1.take i) + j) + nI s = nI (totF (V.1.1.take i) + (j + s)) := by
          intro s
          rw [nI_add, Nat.add_assoc]
        have ej : ∀ s, nI j + nI s = nI (j + s) := fun s => nI_add j s
        have e8 : nI j + 8 = nI (j + 8) := ej 8
        have e10 : nI j + 10 = nI (j + 10) := ej 10
        have e44 : nI j + 4 = nI (j + 4) := ej 4
        obtain ⟨d1, d2, d3, d4, d5, d6⟩ := told_d g2
        have hrng := told_rng g2
        have t2 := (N2_told (l := x.2.2.1) (j := j + 8) (st := bnm x.2.2.1 (nI j)) (vs := bnm x.2.2.1 (nI j + 10)) (by omega) (by omega)).2
        rw [← e8] at t2
        have en := t2 g2
        generalize hK : (bsh x.2.2.1 (nI j + 8)).toNatClampNeg = K at *
        obtain ⟨k1, k2, k3⟩ := keyA_at (S := S1) F1 hf hK (by omega)
        have l1 : V1.2.1.length < 1199 := by omega
        refine oM_itF (nI_ge (by omega) (by omega)) (oM_gR hM (m_num2f hM F1 hf (by omega) (ex 8) (oM_gR hM (oM_gR hM (m_num4f hM F1 hf (by omega) (ex 4) (oM_gR hM (m_num4f hM F1 hf (by omega) (ex 10) (oM_gR hM (m_num4f hM F1 hf (by omega) rfl (oM_ck hM ?_))))))))))
        have ks : N2 x.2.2.1 (j + 8) = nI (keyA x.2.2.1 j).length := by
          rw [k2, en, d4]
        refine m_counts (q := 1) (rs := V1.2.1) hM R1.2.1 k1 k3 (by omega) (ex 14) ks l1 (fun q => ?_) (fun S2 r1 f2 => oM_gI hM (oM_pI hM (oM_gI hM (oM_gR hM ?_))))
        · rw [Int32.lt_iff_toInt_lt, Int32.toInt_zero] at q
          omega
        · have F2 : RepF S2 V.1.1 := repF_fr F1 f2 (by decide) (by decide) (by decide) (by decide) (by decide) (by decide)
          have F3 : RepF (upI S2 19 (S2.1 19 + 1)) V.1.1 := repF_fr F2 (mfr_I (J := [19]) (K := []) (by decide)) (by decide) (by decide) (by decide) (by decide) (by decide) (by decide)
          refine m_num4f hM F3 hf (by omega) rfl (oM_pI hM (oM_bpu ?_))
          have st := RO2_19 R1 f2 r1 hrng
          rw [ks, k2, show (14 : Int32) + nI K = nI (14 + K) from nI_add 14 K, ex (14 + K), show j + (14 + K) = j + 14 + K by omega]
          have hrow := (opRd_rows (t := keyA x.2.2.1 j) (a := x.1) (b := bnm x.2.2.1 (nI j + 4)) (c := bnm x.2.2.1 (nI j + 10)) (d := bnm x.2.2.1 (nI j)) (V := V1)).1
          rw [← e10, ← e44] at st
          refine ih w (j + 14 + K) (c + 1) _ _ (by omega) (by omega) (by omega) hg2 st.1 ?_ ?_ (mfr_tr f1 st.2) er
          · exact ev
          · show 15 * (opRd _ _ _ _ _ V1).2.1.length + _ ≤ _
            omega
  exact loop 20000 FU 4 0 S V (by omega) (by omega) (by omega) hg.2 hO rfl (by omega) mfr_refl rfl
/-- the length of the whole record at i, or 0 -/
def whn (l : List Int32) (i : Nat) : Nat := if whl l i = true then rsn (bsh l (nI i + 8)) (bnm l (nI i + 10)) else 0
theorem m_whole {p i : Nat} {x : AF} {y z : Int32} {k : Int32 → M α} {Q : α → MS → Prop} (hM : Mk m g) (hF : RepF S fs) (hf : fs[p]? = some x) (hi : i ≤ x.2.2.1.length) (hy : y = nI (totF (fs.take p) + i)) (hz : z = nI (x.2.2.1.length - i)) (h : okM m g (k (nI (whn x.2.2.1 i))) S Q) : okM m g (bd (X9_wholeRecord m y z) k) S Q := by
  subst hy hz
  refine oM_bd ?_
  unfold X9_wholeRecord
  have eT := totF_take hf
  have hT := hF.1.2.2.1
  unfold whn whl at h
  by_cases c14 : i + 14 ≤ x.2.2.1.length
  · rw [decide_eq_true c14, Bool.true_and] at h
    have ex : ∀ s, nI (totF (fs.take p) + i) + nI s = nI (totF (fs.take p) + (i + s)) := by
      intro s
      rw [nI_add, Nat.add_assoc]
    have ej : ∀ s, nI i + nI s = nI (i + s) := fun s => nI_add i s
    rw [show nI i + 8 = nI (i + 8) from ej 8, show nI i + 10 = nI (i + 10) from ej 10, show nI i + 4 = nI (i + 4) from ej 4] at h
    refine oM_itT (nI_le (a := 14) (by omega) (by omega)) (oM_gR hM (m_num2f hM hF hf (by omega) (ex 8) (oM_gR hM (m_num4f hM hF hf (by omega) (ex 10) (oM_gR hM (m_num4f hM hF hf (by omega) (ex 4) (m_isTold ?_)))))))
    obtain ⟨t1, t2⟩ := N2_told (l := x.2.2.1) (j := i + 8) (st := bnm x.2.2.1 (nI (i + 4))) (vs := bnm x.2.2.1 (nI (i + 10))) (by omega) (by omega)
    rw [t1]
    cases ct : told (bnm x.2.2.1 (nI (i + 4))) (bsh x.2.2.1 (nI (i + 8))) (bnm x.2.2.1 (nI (i + 10))) with
    | false =>
      rw [ct, Bool.false_and, Bool.false_and, if_neg (by decide)] at h
      exact oM_itF (fun q => q rfl) (oM_pu h)
    | true =>
      rw [ct, Bool.true_and] at h
      obtain ⟨d1, d2, d3, d4, d5, d6⟩ := told_d ct
      have en := t2 ct
      have ez := rsz_told ct
      have r14 : 14 ≤ rsn (bsh x.2.2.1 (nI (i + 8))) (bnm x.2.2.1 (nI (i + 10))) := by
        unfold rsn
        omega
      have r94 : rsn (bsh x.2.2.1 (nI (i + 8))) (bnm x.2.2.1 (nI (i + 10))) ≤ 94 := by
        unfold rsn
        omega
      rw [en]
      refine oM_itT (show ¬ bI true = 0 by decide) ?_
      unfold X9_bytesOf
      refine oM_bpu ?_
      have er : (14 + bsh x.2.2.1 (nI (i + 8))) + imx (bnm x.2.2.1 (nI (i + 10))) 0 = nI (rsn (bsh x.2.2.1 (nI (i + 8))) (bnm x.2.2.1 (nI (i + 10)))) := ez
      rw [er]
      by_cases cl : i + rsn (bsh x.2.2.1 (nI (i + 8))) (bnm x.2.2.1 (nI (i + 10))) ≤ x.2.2.1.length
      · rw [decide_eq_true cl, Bool.true_and] at h
        refine oM_itF (nI_nlt (by omega) (by omega)) (oM_gR hM (m_sumf hM hF hf (a := i + 4) (by omega) cl (ex 4) (ex _) (oM_gR hM (m_num4f hM hF hf (by omega) rfl ?_))))
        rw [show i + rsn (bsh x.2.2.1 (nI (i + 8))) (bnm x.2.2.1 (nI (i + 10))) - (i + 4) = rsn (bsh x.2.2.1 (nI (i + 8))) (bnm x.2.2.1 (nI (i + 10))) - 4 by omega]
        by_cases cs : bnm x.2.2.1 (nI i) = crcL ((x.2.2.1.drop (i + 4)).take (rsn (bsh x.2.2.1 (nI (i + 8))) (bnm x.2.2.1 (nI (i + 10))) - 4))
        · rw [if_pos (decide_eq_true cs)] at h
          exact oM_itF (fun q => q cs.symm) (oM_pu h)
        · rw [if_neg (fun q => cs (of_decide_eq_true q))] at h
          exact oM_itT (fun q => cs q.symm) (oM_pu h)
      · rw [decide_eq_false cl, Bool.false_and, if_neg (by decide)] at h
        exact oM_itT (nI_lt (by omega) (by omega)) (oM_pu h)
  · rw [decide_eq_false c14, Bool.false_and, Bool.false_and, Bool.false_and, if_neg (by decide)] at h
    exact oM_itF (nI_ge (b := 14) (by omega) (by omega)) (oM_pu h)
theorem m_readsData {p : Nat} {x : AF} {y : Int32} {k : Unit → M α} {Q : α → MS → Prop} (hM : Mk m g) (hO : RO2 S V) (hf : V.1.1[p]? = some x) (hx0 : x.2.1 = 0) (hy : y = nI p) (hb : 15 * V.2.1.length + x.2.2.1.length ≤ 17900) (h : ∀ S', RO2 S' (rdV p x V).2 → mfr [4, 8, 12, 20, 21, 22, 25, 33] [1, 2, 3, 4, 5, 6, 7, 11, 12, 13, 14, 15, 16] S S' → okM m g (k ()) S' Q) : okM m g (bd (X9_readsData m y) k) S Q := by
  subst hy
  refine oM_bd ?_
  unfold X9_readsData
  have hF := hO.1.1
  have hp := lt_of_some hf
  obtain ⟨n1, n2', n3⟩ := rf_n hF hf
  have eT := totF_take hf
  have hT := hF.1.2.2.1
  have : FU = 1000000 := rfl
  refine oM_ck hM (m_startOf hM hF rfl (by omega) (oM_gR hM (oM_al (q := 4) hM rfl n3 (oM_ck hM (m_whole (i := 0) hM hF hf (Nat.zero_le _) rfl rfl ?_)))))
  have fini : ∀ (w i : Nat) (S1 : MS) (V1 : VC), i ≤ x.2.2.1.length → RO2 S1 V1 → V1.1 = V.1 → mfr [20, 25, 33] [11, 12, 13, 14, 15, 16] S S1 → (i, V1) = rrL x.2.2.1 x.1 x.2.2.1.length 0 V → okM m g (X9_readsData_b21 (w + 1) m (nI p) (nI (totF (V.1.1.take p))) (nI i) 0) S1 (fun v S2 => okM m g (k v) S2 Q) := by
    intro w i S1 V1 hi R1 ev f1 er
    show okM m g (X9_readsData_b21b (X9_readsData_b21 w) m (nI p) (nI (totF (V.1.1.take p))) (nI i) 0) S1 _
    unfold X9_readsData_b21b
    have hf1 : V1.1.1[p]? = some x := by
      rw [ev]
      exact hf
    have F1 := R1.1.1
    obtain ⟨m1, m2, m3⟩ := rf_n F1 hf1
    unfold rdV at h
    rw [← er] at h
    dsimp only at h
    refine oM_itT (show (0 : Int32) ≤ 0 by decide) (oM_gR hM (oM_al (q := 4) hM rfl m3 (oM_bpu (oM_gI hM (oM_pI hM ?_)))))
    have f2 : mfr [21] [] S1 (upI S1 21 (S1.1 21 + (nI x.2.2.1.length - nI i))) := mfr_I (by decide)
    generalize hT2 : upI S1 21 (S1.1 21 + (nI x.2.2.1.length - nI i)) = T at *
    have T21 : T.1 21 = V1.2.2.2.1.2.2.1 + (nI x.2.2.1.length - nI i) := by
      rw [← hT2, ← R1.1.2.2.2.2.2.1]
      rfl
    have OT : OR T (si904 (V1.2.2.2.1.2.2.1 + (nI x.2.2.1.length - nI i)) V1) := by
      refine ⟨repF_fr F1 f2 (by decide) (by decide) (by decide) (by decide) (by decide) (by decide), repP_fr R1.1.2.1 f2 (by decide) (by decide) (by decide) (by decide), R1.1.2.2.1, ?_, ?_, T21, ?_⟩
      · rw [f2.1 19 (by decide)]
        exact R1.1.2.2.2.1
      · rw [f2.1 20 (by decide)]
        exact R1.1.2.2.2.2.1
      · rw [f2.1 22 (by decide)]
        exact R1.1.2.2.2.2.2.2
    have e25 : T.1 25 = V1.2.2.2.1.2.2.2.2 + 1 := by
      rw [f2.1 25 (by decide)]
      exact R1.2.2.2.1
    have RT : RepR T V1.2.1 := repR_fr R1.2.1 f2 (by decide) (fun q _ _ => List.not_mem_nil)
    have f3 : mfr [4, 8, 12, 20, 21, 22, 25, 33] [1, 2, 3, 4, 5, 6, 7, 11, 12, 13, 14, 15, 16] S T := mfr_tr (mfr_mono f1 (by decide) (by decide)) (mfr_mono f2 (by decide) (by decide))
    cases i with
    | zero =>
      refine oM_itF (fun q => q rfl) (oM_gR hM (oM_al (q := 2) hM rfl (show (T.2 2)[p]? = some x.1 by rw [f2.2 2 (by decide)]; exact m1) (oM_ck hM (m_odis hM OT (fun S' O' f' => oM_pu (h S' ⟨?_, ?_, ?_, ?_, ?_⟩ (mfr_tr f3 (mfr_mono f' (by decide) (by decide)))))))))
      · have hc : cutP p 0 V1.1.1 = V1.1.1.set p (x.1, x.2.1, x.2.2.1.take 0, x.2.2.2.1, x.2.2.2.2) := by
          unfold cutP
          rw [hf1]
        have hsc : SrtF (cutP p 0 V1.1.1) := by
          rw [hc]
          exact srt_set R1.1.2.2.1 hf1 rfl rfl
        have hcp : (cutP p 0 V1.1.1)[p]? = some (x.1, x.2.1, x.2.2.1.take 0, x.2.2.2.1, x.2.2.2.2) := by
          rw [hc, List.getElem?_set, if_pos rfl, if_pos (lt_of_some hf1)]
        have d1 := dis_at hsc hcp
        have d2 := dis_at R1.1.2.2.1 hf1
        have s1 := (fndF_at hsc hcp).1
        have s2 := (fndF_at R1.1.2.2.1 hf1).1
        rw [hx0] at d1 d2 s1 s2
        have d1 : disF x.1 0 (cutP p 0 V1.1.1) = (cutP p 0 V1.1.1).eraseIdx p := d1
        have s1 : fndF x.1 0 (cutP p 0 V1.1.1) = _ := s1
        refine OR_eq O' ?_ ?_
        · show (opDis x.1 0 _).1.1 = _
          rw [opDis_files, opDis_files]
          show disF x.1 0 (cutP p 0 V1.1.1) = disF x.1 0 V1.1.1
          rw [d1, d2, hc, List.eraseIdx_set_eq]
        · show (opDis x.1 0 _).2 = _
          rw [opDis_rest, opDis_rest]
          show (_, _, (_, _, _, _ + (if (fndF x.1 0 (cutP p 0 V1.1.1)).isSome then 1 else 0), _), _) = (_, _, (_, _, _, _ + (if (fndF x.1 0 V1.1.1).isSome then 1 else 0), _), _)
          rw [s1, s2]
          rfl
      · show RepR S' (opDis x.1 0 _).2.1
        rw [opDis_rest]
        exact repR_fr RT f' (by decide) (fun q u1 u2 => by simp only [List.mem_cons, List.not_mem_nil, or_false]; omega)
      · show SrtR (opDis x.1 0 _).2.1
        rw [opDis_rest]
        exact R1.2.2.1
      · show S'.1 25 = (opDis x.1 0 _).2.2.2.1.2.2.2.2 + 1
        rw [opDis_rest, f'.1 25 (by decide)]
        exact e25
      · show 0 ≤ (opDis x.1 0 _).2.2.2.1.2.2.2.2.toInt ∧ (opDis x.1 0 _).2.2.2.1.2.2.2.2.toInt ≤ _
        rw [opDis_rest]
        exact R1.2.2.2.2
    | succ i =>
      have hne : ¬ nI (i + 1) = 0 := by
        intro q
        have := congrArg Int32.toInt q
        rw [nI_toInt (by omega), Int32.toInt_zero] at this
        omega
      refine oM_itT hne (oM_ck hM (m_loses hM OT.1 hf1 rfl (nI_subN hi) (by omega) (fun S' r1 f' => oM_pu (h S' ⟨⟨?_, ?_, ?_, ?_⟩, ?_, ?_, ?_, ?_⟩ (mfr_tr f3 (mfr_mono f' (by decide) (by decide)))))))
      · refine repF_congr r1 ?_
        show _ = (cutP p (i + 1) V1.1.1).map _
        unfold losM cutP
        rw [if_neg (by omega), hf1]
        dsimp only
        show (V1.1.1.set p _).map _ = _
        rw [List.map_set, List.map_set, show x.2.2.1.length - (x.2.2.1.length - (i + 1)) = i + 1 by omega]
      · exact repP_fr OT.2.1 f' (by decide) (by decide) (by decide) (by decide)
      · show SrtF (cutP p (i + 1) V1.1.1)
        unfold cutP
        rw [hf1]
        exact srt_set R1.1.2.2.1 hf1 rfl rfl
      · obtain ⟨o1, o2, o3, o4⟩ := OT.2.2.2
        refine ⟨?_, ?_, ?_, ?_⟩
        · rw [f'.1 19 (by decide)]
          exact o1
        · rw [f'.1 20 (by decide)]
          exact o2
        · rw [f'.1 21 (by decide)]
          exact o3
        · rw [f'.1 22 (by decide)]
          exact o4
      · exact repR_fr RT f' (by decide) (fun q u1 u2 => by simp only [List.mem_cons, List.not_mem_nil, or_false]; omega)
      · exact R1.2.2.1
      · rw [f'.1 25 (by decide)]
        exact e25
      · exact R1.2.2.2.2
  have loop : ∀ (t w i : Nat) (S1 : MS) (V1 : VC), t < w → i ≤ x.2.2.1.length → x.2.2.1.length ≤ i + t → RO2 S1 V1 → V1.1 = V.1 → 15 * V1.2.1.length + (x.2.2.1.length - i) ≤ 17900 → mfr [20, 25, 33] [11, 12, 13, 14, 15, 16] S S1 → rrL x.2.2.1 x.1 t i V1 = rrL x.2.2.1 x.1 x.2.2.1.length 0 V → okM m g (X9_readsData_b21 w m (nI p) (nI (totF (V.1.1.take p))) (nI i) (nI (whn x.2.2.1 i))) S1 (fun v S2 => okM m g (k v) S2 Q) := by
    intro t
    induction t with
    | zero =>
      intro w i S1 V1 hw hi hit R1 ev hb1 f1 er
      obtain ⟨w, rfl⟩ : ∃ w', w = w' + 1 := ⟨w - 1, by omega⟩
      have hw0 : whl x.2.2.1 i = false := by
        unfold whl
        rw [decide_eq_false (by omega), Bool.false_and, Bool.false_and, Bool.false_and]
      unfold whn
      rw [hw0, if_neg (by decide)]
      exact fini w i S1 V1 hi R1 ev f1 er
    | succ t ih =>
      intro w i S1 V1 hw hi hit R1 ev hb1 f1 er
      obtain ⟨w, rfl⟩ : ∃ w', w = w' + 1 := ⟨w - 1, by omega⟩
      generalize hE : rrL x.2.2.1 x.1 x.2.2.1.length 0 V = E at *
      unfold rrL at er
      cases hw0 : whl x.2.2.1 i with
      | false =>
        rw [hw0] at er
        unfold whn
        rw [hw0, if_neg (by decide)]
        exact fini w i S1 V1 hi R1 ev f1 er
      | true =>
        rw [hw0] at er
        dsimp only at er
        unfold whn
        rw [hw0, if_pos rfl]
        have hw1 := hw0
        unfold whl at hw1
        simp only [Bool.and_eq_true] at hw1
        obtain ⟨⟨⟨g1, g2⟩, g3⟩, g4⟩ := hw1
        have g1 := of_decide_eq_true g1
        have g3 := of_decide_eq_true g3
        obtain ⟨d1, d2, d3, d4, d5, d6⟩ := told_d g2
        have hrng := told_rng g2
        show okM m g (X9_readsData_b21b (X9_readsData_b21 w) m (nI p) (nI (totF (V.1.1.take p))) (nI i) _) S1 _
        unfold X9_readsData_b21b
        have F1 : RepF S1 V.1.1 := by
          have := R1.1.1
          rw [ev] at this
          exact this
        have ex : ∀ s, nI (totF (V.1.1.take p)) + nI i + nI s = nI (totF (V.1.1.take p) + (i + s)) := by
          intro s
          rw [nI_add, nI_add, Nat.add_assoc]
        have e8 : nI i + 8 = nI (i + 8) := nI_add i 8
        have e10 : nI i + 10 = nI (i + 10) := nI_add i 10
        have e44 : nI i + 4 = nI (i + 4) := nI_add i 4
        have t2 := (N2_told (l := x.2.2.1) (j := i + 8) (st := bnm x.2.2.1 (nI i + 4)) (vs := bnm x.2.2.1 (nI i + 10)) (by omega) (by omega)).2
        rw [← e8] at t2
        have en := t2 g2
        have r15 : 15 ≤ rsn (bsh x.2.2.1 (nI i + 8)) (bnm x.2.2.1 (nI i + 10)) := by
          unfold rsn
          omega
        have rK : 14 + (bsh x.2.2.1 (nI i + 8)).toNatClampNeg ≤ rsn (bsh x.2.2.1 (nI i + 8)) (bnm x.2.2.1 (nI i + 10)) := by
          unfold rsn
          omega
        generalize hN : rsn (bsh x.2.2.1 (nI i + 8)) (bnm x.2.2.1 (nI i + 10)) = N at *
        generalize hK : (bsh x.2.2.1 (nI i + 8)).toNatClampNeg = K at *
        obtain ⟨k1, k2, k3⟩ := keyA_at (S := S1) F1 hf hK (by omega)
        obtain ⟨m1, m2, m3⟩ := rf_n F1 hf
        refine oM_itF (nI_ge (a := 0) (by omega) (by omega)) (oM_gR hM (oM_gR hM (m_num2f hM F1 hf (by omega) (ex 8) (oM_gR hM (oM_al (q := 2) hM rfl m1 (oM_gR hM (m_num4f hM F1 hf (by omega) (ex 10) (oM_gR hM (m_num4f hM F1 hf (by omega) (ex 4) (oM_ck hM ?_)))))))))) 
        have ks : N2 x.2.2.1 (i + 8) = nI (keyA x.2.2.1 i).length := by
          rw [k2, en, d4]
        rw [← e10, ← e44]
        refine m_counts (q := 1) (rs := V1.2.1) hM R1.2.1 k1 k3 (by omega) (ex 14) ks (by omega) (fun q => ?_) (fun S2 r1 f2 => oM_gI hM (oM_pI hM (oM_gI hM (oM_gR hM ?_))))
        · rw [Int32.lt_iff_toInt_lt, Int32.toInt_zero] at q
          omega
        · have F2 : RepF S2 V.1.1 := repF_fr F1 f2 (by decide) (by decide) (by decide) (by decide) (by decide) (by decide)
          have F3 : RepF (upI S2 20 (S2.1 20 + 1)) V.1.1 := repF_fr F2 (mfr_I (J := [20]) (K := []) (by decide)) (by decide) (by decide) (by decide) (by decide) (by decide) (by decide)
          refine m_num4f hM F3 hf (by omega) (ex 4) (oM_pI hM (oM_bpu ?_))
          rw [← e44]
          have st := RO2_20 R1 f2 r1 hrng
          have hrow := (opRd_rows (t := keyA x.2.2.1 i) (a := x.1) (b := nI i) (c := bnm x.2.2.1 (nI i + 10)) (d := bnm x.2.2.1 (nI i + 4)) (V := V1)).1
          have F4 : RepF (upI (upI S2 20 (S2.1 20 + 1)) 25 (imx (S2.1 25) (bnm x.2.2.1 (nI i + 4) + 1))) V.1.1 := by
            have := st.1.1.1
            have e : (si903 (V1.2.2.2.1.2.1 + 1) (opRd (keyA x.2.2.1 i) x.1 (nI i) (bnm x.2.2.1 (nI i + 10)) (bnm x.2.2.1 (nI i + 4)) V1)).1.1 = V.1.1 := congrArg (fun D : VD => D.1) ev
            rw [e] at this
            exact this
          obtain ⟨m4, m5, m6⟩ := rf_n F4 hf
          refine oM_gR hM (oM_al (q := 4) hM rfl m6 (oM_ck hM ?_))
          rw [nI_add, nI_add, nI_subN (by omega)]
          refine m_whole hM F4 hf (by omega) rfl rfl ?_
          refine ih w (i + N) _ _ (by omega) (by omega) (by omega) st.1 ev ?_ (mfr_tr f1 st.2) er
          show 15 * (opRd _ _ _ _ _ V1).2.1.length + _ ≤ _
          omega
  exact loop x.2.2.1.length FU 0 S V (by omega) (Nat.zero_le _) (by omega) hO rfl (by omega) mfr_refl rfl
end
