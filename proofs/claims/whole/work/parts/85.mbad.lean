/-! the reference: a row's record -/
theorem hi16 (a b : Int32) (i : Nat) (hi : 16 ≤ i) : ((((a &&& 255) <<< ((8 : Int32) &&& 31)) ||| (b &&& 255)) : Int32).toBitVec.getLsbD i = false := by
  have z : ∀ j, 8 ≤ j → (255 : Int32).toBitVec.getLsbD j = false := by
    intro j hj
    by_cases c : j < 32
    · have : ∀ q : Fin 32, 8 ≤ q.1 → (255 : Int32).toBitVec.getLsbD q.1 = false := by decide
      exact this ⟨j, c⟩ hj
    · exact BitVec.getLsbD_of_ge _ _ (by omega)
  rw [show ((8 : Int32) &&& 31) = 8 from rfl, Int32.toBitVec_or, Int32.toBitVec_shiftLeft, Int32.toBitVec_and, Int32.toBitVec_and, show (8 : Int32).toBitVec.smod 32 = 8#32 from by decide]
  show ((a.toBitVec &&& (255 : Int32).toBitVec) <<< (8#32).toNat ||| (b.toBitVec &&& (255 : Int32).toBitVec)).getLsbD i = false
  rw [BitVec.getLsbD_or, BitVec.getLsbD_and, z i (by omega), Bool.and_false, Bool.or_false, BitVec.getLsbD_shiftLeft, BitVec.getLsbD_and, show (8#32).toNat = 8 from rfl, z (i - 8) (by omega), Bool.and_false, Bool.and_false]
theorem n2_eq {a b : Int32} {k : Nat} (hk : k ≤ 16) : n2 a b = nI k ↔ (((a &&& 255) <<< ((8 : Int32) &&& 31)) ||| (b &&& 255)) = nI k := by
  have hf : (nI k).toInt16.toInt32 = nI k ∧ ∀ i, 16 ≤ i → (nI k).toBitVec.getLsbD i = false := by
    refine ⟨?_, ?_⟩
    · have : ∀ j : Fin 17, (nI j.1).toInt16.toInt32 = nI j.1 := by decide
      exact this ⟨k, by omega⟩
    · intro i hi
      by_cases c : i < 32
      · have : ∀ j : Fin 17, ∀ q : Fin 32, 16 ≤ q.1 → (nI j.1).toBitVec.getLsbD q.1 = false := by decide
        exact this ⟨k, by omega⟩ ⟨i, c⟩ hi
      · exact BitVec.getLsbD_of_ge _ _ (by omega)
  unfold n2
  constructor
  · intro h
    have h2 : (((a &&& 255) <<< ((8 : Int32) &&& 31)) ||| (b &&& 255)).toInt16 = (nI k).toInt16 := by
      have := congrArg Int32.toInt16 h
      rw [Int16.toInt16_toInt32] at this
      exact this
    have h3 := congrArg Int16.toBitVec h2
    rw [Int32.toBitVec_toInt16, Int32.toBitVec_toInt16] at h3
    apply Int32.toBitVec_inj.mp
    apply BitVec.eq_of_getLsbD_eq
    intro i hi
    by_cases c : i < 16
    · have h4 := congrArg (BitVec.getLsbD · i) h3
      have h4 : (BitVec.signExtend 16 _).getLsbD i = (BitVec.signExtend 16 _).getLsbD i := h4
      rw [BitVec.getLsbD_signExtend, BitVec.getLsbD_signExtend, if_pos hi, if_pos hi] at h4
      simp only [c, decide_true, Bool.true_and] at h4
      exact h4
    · rw [hi16 a b i (by omega), hf.2 i (by omega)]
  · intro h
    rw [h]
    exact hf.1
/-- a row whose record lies within its file -/
def rowFit (fs : List AF) (r : AR) (x : AF) (P V : Nat) : Prop := fndF r.2.1 0 fs = some x ∧ r.2.2.1 = nI P ∧ r.2.2.2.1 = nI V ∧ V ≤ 64 ∧ r.1.length ≤ 16 ∧ P + (14 + r.1.length + V) ≤ x.2.2.1.length
section
variable {m : Nat} {g : Gh} {S : MS} {α : Type} {rs : List AR} {fs : List AF}
theorem dsk_sl {f a n : Nat} {x : AF} (hR : RepF S fs) (hf : fs[f]? = some x) (h : a + n ≤ x.2.2.1.length) : ((S.2 1).drop (totF (fs.take f) + a)).take n = (x.2.2.1.drop a).take n := by
  apply List.ext_getElem?
  intro j
  by_cases c : j < n
  · rw [dt_get c, dt_get c]
    obtain ⟨v, hv⟩ := some_of_lt (show a + j < x.2.2.1.length by omega)
    rw [hv, Nat.add_assoc]
    exact dsk_get hR hf hv
  · rw [List.getElem?_eq_none (by rw [List.length_take]; omega), List.getElem?_eq_none (by rw [List.length_take]; omega)]
theorem m_recordBytes {i : Nat} {r : AR} {y : Int32} {k : Int32 → M α} {Q : α → MS → Prop} (hM : Mk m g) (hR : RepR S rs) (hr : rs[i]? = some r) (hy : y = nI i) (h : okM m g (k (rcb r)) S Q) : okM m g (bd (X9_recordBytes m y) k) S Q := by
  subst hy
  obtain ⟨a1, a2, a3, a4, a5, a6, a7⟩ := hR.2.2 i r hr
  refine oM_bd ?_
  unfold X9_recordBytes X9_bytesOf
  exact oM_gR hM (oM_al (q := 12) hM rfl a3 (oM_gR hM (oM_al (q := 15) hM rfl a6 (oM_bpu (oM_pu h)))))
theorem rcb_fit {r : AR} {x : AF} {P V : Nat} (hF : RepF S fs) (h : rowFit fs r x P V) : rcb r = nI (14 + r.1.length + V) ∧ rcn r = 14 + r.1.length + V ∧ r.2.2.1.toNatClampNeg = P := by
  obtain ⟨h1, h2, h3, h4, h5, h6⟩ := h
  have eT := totF_take (fndF_some h1).1
  have hT := hF.1.2.2.1
  have cl : ∀ n, n < 2 ^ 31 → (nI n).toNatClampNeg = n := by
    intro n hn
    show (nI n).toInt.toNat = n
    rw [nI_toInt hn]
    rfl
  unfold rcb rcn
  rw [rsz_nI, h3, h2, cl V (by omega), cl P (by omega)]
  exact ⟨rfl, rfl, rfl⟩
theorem m_recordAt {i P V : Nat} {r : AR} {x : AF} {y : Int32} {k : Int32 → M α} {Q : α → MS → Prop} (hM : Mk m g) (hR : RepR S rs) (hF : RepF S fs) (hS : SrtF fs) (hr : rs[i]? = some r) (hf : rowFit fs r x P V) (hy : y = nI i) (h : okM m g (k (nI (totF (fs.take (plF r.2.1 0 fs)) + P))) S Q) : okM m g (bd (X9_recordAt m y) k) S Q := by
  subst hy
  obtain ⟨a1, a2, a3, a4, a5, a6, a7⟩ := hR.2.2 i r hr
  obtain ⟨h1, h2, h3, h4, h5, h6⟩ := hf
  obtain ⟨q1, q2, q3⟩ := fndF_some h1
  have hp := lt_of_some q1
  refine oM_bd ?_
  unfold X9_recordAt
  refine oM_gR hM (oM_al (q := 13) hM rfl a4 (oM_ck hM (m_fileAt hM hF hS (fun f hf => oM_ck hM (m_startOf hM hF rfl (by omega) (oM_gR hM (oM_al (q := 14) hM rfl a5 (oM_pu ?_))))) (fun hn => ?_))))
  · rw [h2, nI_add]
    exact h
  · rw [h1] at hn
    cases hn
theorem m_isBad {i P V : Nat} {r : AR} {x : AF} {y : Int32} {k : Int32 → M α} {Q : α → MS → Prop} (hM : Mk m g) (hR : RepR S rs) (hF : RepF S fs) (hS : SrtF fs) (hr : rs[i]? = some r) (hf : rowFit fs r x P V) (hy : y = nI i) (h : okM m g (k (if badR r x.2.2.1 = true then 1 else 0)) S Q) : okM m g (bd (X9_isBad m y) k) S Q := by
  subst hy
  obtain ⟨a1, a2, a3, a4, a5, a6, a7⟩ := hR.2.2 i r hr
  have hf0 := hf
  obtain ⟨h1, h2, h3, h4, h5, h6⟩ := hf
  obtain ⟨e1, e2, e3⟩ := rcb_fit hF hf0
  obtain ⟨q1, q2, q3⟩ := fndF_some h1
  have hp := lt_of_some q1
  have eT := totF_take q1
  have hT := hF.1.2.2.1
  have l1 := hF.2.1.1
  have l11 := hR.2.1.1
  have hn := hR.1.2
  have hi := lt_of_some hr
  refine oM_bd ?_
  unfold X9_isBad
  have ex : ∀ s, nI (totF (fs.take (plF r.2.1 0 fs)) + P) + nI s = nI (totF (fs.take (plF r.2.1 0 fs)) + (P + s)) := by
    intro s
    rw [nI_add, Nat.add_assoc]
  have eP : ∀ s, nI P + nI s = nI (P + s) := fun s => nI_add P s
  have gd : ∀ j, j < x.2.2.1.length → (S.2 1)[totF (fs.take (plF r.2.1 0 fs)) + j]? = some (x.2.2.1.getD j 0) := by
    intro j hj
    refine dsk_get hF q1 ?_
    rw [List.getD_eq_getElem?_getD, List.getElem?_eq_getElem hj]
    rfl
  unfold badR at h
  rw [decide_eq_false (show ¬ x.2.2.1.length < r.2.2.1.toNatClampNeg + rcn r by omega), Bool.false_or, e2, e3, h2] at h
  rw [show nI P + 4 = nI (P + 4) from eP 4, show nI P + 8 = nI (P + 8) from eP 8, show nI P + 10 = nI (P + 10) from eP 10] at h
  refine oM_ck hM (m_recordAt hM hR hF hS hr hf0 rfl (oM_ck hM (m_recordBytes hM hR hr rfl (oM_gR hM ?_))))
  rw [e1]
  refine m_sum (q := 1) hM (ex 4) (ex _) (by omega) (by omega) (by omega) (oM_gR hM (m_num4f hM hF q1 (j := P) (by omega) rfl ?_))
  rw [show totF (fs.take (plF r.2.1 0 fs)) + (P + (14 + r.1.length + V)) - (totF (fs.take (plF r.2.1 0 fs)) + (P + 4)) = 14 + r.1.length + V - 4 by omega, dsk_sl hF q1 (by omega)]
  by_cases c1 : crcL ((x.2.2.1.drop (P + 4)).take (14 + r.1.length + V - 4)) = bnm x.2.2.1 (nI P)
  · rw [decide_eq_false (fun q => q c1.symm), Bool.false_or] at h
    refine oM_itF (fun q => q c1) (oM_gR hM (m_num4f hM hF q1 (j := P + 4) (by omega) (ex 4) (oM_gR hM (oM_al (q := 16) hM rfl a7 ?_))))
    by_cases c2 : bnm x.2.2.1 (nI (P + 4)) = r.2.2.2.2
    · rw [decide_eq_false (fun q => q c2), Bool.false_or] at h
      refine oM_itT c2 (oM_gR hM (m_number2 (q := 1) (i := totF (fs.take (plF r.2.1 0 fs)) + (P + 8)) hM (ex 8) (gd (P + 8) (by omega)) (gd (P + 9) (by omega)) (oM_gR hM (oM_al (q := 12) hM rfl a3 ?_))))
      have eb : bsh x.2.2.1 (nI (P + 8)) = (((x.2.2.1.getD (P + 8) 0 &&& 255) <<< ((8 : Int32) &&& 31)) ||| (x.2.2.1.getD (P + 9) 0 &&& 255)) := by
        unfold bsh
        rw [show nI (P + 8) + 1 = nI (P + 9) from nI_1 (P + 8), bat_lt (by omega) (by omega), bat_lt (by omega) (by omega), and255, and255]
      by_cases c3 : bsh x.2.2.1 (nI (P + 8)) = nI r.1.length
      · rw [decide_eq_false (fun q => q c3), Bool.false_or] at h
        rw [eb] at c3
        refine oM_itF (fun q => q ((n2_eq h5).mpr c3)) (oM_gR hM (m_num4f hM hF q1 (j := P + 10) (by omega) (ex 10) (oM_gR hM (oM_al (q := 15) hM rfl a6 ?_))))
        by_cases c4 : bnm x.2.2.1 (nI (P + 10)) = r.2.2.2.1
        · rw [decide_eq_false (fun q => q c4), Bool.false_or] at h
          refine oM_itT c4 (oM_gR hM (oM_gR hM (oM_al (q := 12) hM rfl a3 (oM_gR hM (oM_gR hM (oM_al (q := 12) hM rfl a3 ?_))))))
          refine m_order (q := 1) (q' := 11) hM (ex 14) rfl (nI_16 i) rfl (by omega) (by omega) (by omega) (by omega) ?_
          rw [row_key (hR.2.2 i r hr), dsk_sl hF q1 (by omega)]
          have lk : ((x.2.2.1.drop (P + 14)).take r.1.length).length = r.1.length := by rw [List.length_take, List.length_drop]; omega
          have sw : cmpL ((x.2.2.1.drop (P + 14)).take r.1.length) r.1 = 0 ↔ cmpL r.1 ((x.2.2.1.drop (P + 14)).take r.1.length) = 0 := by
            rw [cmp_0 (by omega) (by omega), cmp_0 (by omega) (by omega), csg_anti]
            omega
          by_cases c5 : cmpL r.1 ((x.2.2.1.drop (P + 14)).take r.1.length) = 0
          · rw [decide_eq_false (fun q => q c5)] at h
            exact oM_itT (sw.mpr c5) (oM_pu h)
          · rw [decide_eq_true c5] at h
            exact oM_itF (fun q => c5 (sw.mp q)) (oM_pu h)
        · rw [decide_eq_true c4, Bool.true_or] at h
          exact oM_itF c4 (oM_pu h)
      · rw [decide_eq_true c3, Bool.true_or, Bool.true_or] at h
        rw [eb] at c3
        exact oM_itT (fun q => c3 ((n2_eq h5).mp q)) (oM_pu h)
    · rw [decide_eq_true c2, Bool.true_or, Bool.true_or, Bool.true_or] at h
      exact oM_itF c2 (oM_pu h)
  · rw [decide_eq_true (show ¬ bnm x.2.2.1 (nI P) = crcL ((x.2.2.1.drop (P + 4)).take (14 + r.1.length + V - 4)) from fun q => c1 q.symm), Bool.true_or, Bool.true_or, Bool.true_or, Bool.true_or] at h
    exact oM_itT c1 (oM_pu h)
end
