/-! the reference: full, sync, get -/
section
variable {m : Nat} {g : Gh} {S : MS} {α : Type} {rs : List AR} {fs : List AF} {ps : List AV}
def resM (S : MS) : Int32 := if S.1 34 = 1 then S.1 36 - S.1 37 else 0
def fullM (S : MS) (s : Int32) : Bool := decide ((S.1 1 - S.1 4) - resM S < s ∨ 1000000000 < S.1 25)
theorem m_reserved {k : Int32 → M α} {Q : α → MS → Prop} (hM : Mk m g) (h : okM m g (k (resM S)) S Q) : okM m g (bd (X9_reserved m) k) S Q := by
  refine oM_bd ?_
  unfold X9_reserved
  unfold resM at h
  refine oM_gI hM ?_
  by_cases c : S.1 34 = 1
  · rw [if_pos c] at h
    exact oM_itF (fun q => q c) (oM_gI hM (oM_gI hM (oM_pu h)))
  · rw [if_neg c] at h
    exact oM_itT c (oM_pu h)
theorem m_isFull {s : Int32} {k : Int32 → M α} {Q : α → MS → Prop} (hM : Mk m g) (h : okM m g (k (if fullM S s = true then 1 else 0)) S Q) : okM m g (bd (X9_isFull m s) k) S Q := by
  refine oM_bd ?_
  unfold X9_isFull X9_isFull_b22
  unfold fullM at h
  refine oM_ck hM (m_room hM (oM_ck hM (m_reserved hM ?_)))
  by_cases c1 : (S.1 1 - S.1 4) - resM S < s
  · rw [decide_eq_true (Or.inl c1)] at h
    exact oM_itT c1 (oM_pu h)
  refine oM_itF c1 (oM_gI hM ?_)
  by_cases c2 : 1000000000 < S.1 25
  · rw [decide_eq_true (Or.inr c2)] at h
    exact oM_itF (Int32.not_le.mpr c2) (oM_pu h)
  · rw [decide_eq_false (fun q => q.elim c1 c2)] at h
    exact oM_itT (Int32.not_lt.mp c2) (oM_pu h)
theorem m_sync {k : Int32 → M α} {Q : α → MS → Prop} (hM : Mk m g) (hP : RepP S ps) (h0 : S.1 23 = 0 → okM m g (k 0) (upI S 0 1) Q) (h1 : ¬ S.1 23 = 0 → okM m g (k (psum 0 ps)) (upI (upI S 0 0) 12 0) Q) : okM m g (bd (X9_sync m) k) S Q := by
  refine oM_bd ?_
  unfold X9_sync X9_sync_b13
  refine oM_gI hM ?_
  by_cases c : S.1 23 = 0
  · exact oM_itT c (oM_pI hM (oM_gI hM (oM_itF (show ¬ (1 : Int32) ≤ 0 by decide) (oM_pu (h0 c)))))
  · refine oM_itF c (oM_pI hM (oM_gI hM (oM_itT (show (0 : Int32) ≤ 0 by decide) (oM_ck hM (m_unsynced hM (repP_fr hP (mfr_I (J := [0]) (K := []) (by decide)) (by decide) (by decide) (by decide) (by decide)) (oM_pI hM (oM_pu (h1 c))))))))
/-- what get finds -/
def gtR (tp : List Int32) (rs : List AR) (fs : List AF) : Int32 × List Int32 := match lokR tp rs with
  | none => (-1, [])
  | some r => match fndF r.2.1 0 fs with
    | none => (-2, [])
    | some f => match badR r f.2.2.1 with
      | true => (-2, [])
      | false => (r.2.2.2.1, (f.2.2.1.drop (r.2.2.1.toNatClampNeg + 14 + r.1.length)).take r.2.2.2.1.toNatClampNeg)
theorem m_get_loop {p P V : Nat} {r : AR} {x : AF} {A : List Int32} {Q : Int32 → MS → Prop} (hM : Mk m g) (hF : RepF S fs) (hR : RepR S rs) (hr : rs[p]? = some r) (hf : rowFit fs r x P V) (hA : A.length = 64)
    (hq : Q (nI V) (upI (upA S 10 (wrt A 0 ((x.2.2.1.drop (P + 14 + r.1.length)).take V))) 18 (nI V))) : ∀ (w t : Nat), V - t < w → t ≤ V → okM m g (X9_get_b105 w m (nI p) (nI (totF (fs.take (plF r.2.1 0 fs)) + (P + 14 + r.1.length))) (nI t)) (upA S 10 (wrt A 0 (((x.2.2.1.drop (P + 14 + r.1.length)).take V).take t))) Q := by
  obtain ⟨a1, a2, a3, a4, a5, a6, a7⟩ := hR.2.2 p r hr
  obtain ⟨h1, h2, h3, h4, h5, h6⟩ := hf
  obtain ⟨q1, q2, q3⟩ := fndF_some h1
  have lV : ((x.2.2.1.drop (P + 14 + r.1.length)).take V).length = V := by rw [List.length_take, List.length_drop]; omega
  have nx : nrm ((x.2.2.1.drop (P + 14 + r.1.length)).take V) := by
    intro v hv
    obtain ⟨j, hj⟩ := List.mem_iff_getElem?.mp (List.mem_of_mem_drop (List.mem_of_mem_take hv))
    exact hF.2.2.2.2.2.2 v (List.mem_of_getElem? (dsk_get hF q1 hj))
  intro w
  induction w with
  | zero => intro t h; omega
  | succ w ih =>
    intro t hw ht
    show okM m g (X9_get_b105b (X9_get_b105 w) m (nI p) (nI (totF (fs.take (plF r.2.1 0 fs)) + (P + 14 + r.1.length))) (nI t)) _ Q
    unfold X9_get_b105b
    have lt : (((x.2.2.1.drop (P + 14 + r.1.length)).take V).take t).length = t := by rw [List.length_take]; omega
    have lw := wrt_len (A := A) (e := 0) (l := ((x.2.2.1.drop (P + 14 + r.1.length)).take V).take t) (by omega)
    refine oM_gR hM (oM_al (q := 15) hM rfl (v := r.2.2.2.1) a6 ?_)
    rw [h3]
    by_cases c : t < V
    · obtain ⟨v, hv⟩ := some_of_lt (show t < ((x.2.2.1.drop (P + 14 + r.1.length)).take V).length by omega)
      have hv2 : x.2.2.1[P + 14 + r.1.length + t]? = some v := by
        rw [dt_get c] at hv
        exact hv
      have hv1 : ((upA S 10 (wrt A 0 (((x.2.2.1.drop (P + 14 + r.1.length)).take V).take t))).2 1)[totF (fs.take (plF r.2.1 0 fs)) + (P + 14 + r.1.length) + t]? = some v := by
        rw [Nat.add_assoc (totF (fs.take (plF r.2.1 0 fs)))]
        exact dsk_get hF q1 hv2
      refine oM_itF (nI_ge c (by omega)) (oM_gR hM (oM_gR hM (oM_al (q := 1) hM (nI_add _ t) hv1 (oM_as (q := 10) (i := t) hM rfl ?_ ?_))))
      · show t < (wrt A 0 (((x.2.2.1.drop (P + 14 + r.1.length)).take V).take t)).length
        omega
      · rw [nI_1, if_pos rfl]
        have e1 : v.toInt8.toInt32 = v := nrm_get nx hv
        rw [e1]
        have e : upA (upA S 10 (wrt A 0 (((x.2.2.1.drop (P + 14 + r.1.length)).take V).take t))) 10 (((upA S 10 (wrt A 0 (((x.2.2.1.drop (P + 14 + r.1.length)).take V).take t))).2 10).set t v) = upA S 10 (wrt A 0 (((x.2.2.1.drop (P + 14 + r.1.length)).take V).take (t + 1))) := by
          have ws := wrt_step (A := A) (e := 0) hv (by omega)
          rw [Nat.zero_add] at ws
          show (S.1, va_up (va_up S.2 10 _) 10 ((wrt A 0 (((x.2.2.1.drop (P + 14 + r.1.length)).take V).take t)).set t v)) = _
          rw [va_va, ws]
          rfl
        rw [e]
        exact ih (t + 1) (by omega) (by omega)
    · have et : t = V := by omega
      subst et
      rw [List.take_take, Nat.min_self]
      refine oM_itT (nI_le (Nat.le_refl _) (by omega)) (oM_gR hM (oM_al (q := 15) hM rfl (v := r.2.2.2.1) a6 ?_))
      rw [h3]
      exact oM_pI hM (oM_gI hM (oM_pu hq))
theorem m_get {tp fd : List Int32} {k : Int32 → M α} {Q : α → MS → Prop} (hM : Mk m g) (hF : RepF S fs) (hS : SrtF fs) (hR : RepR S rs) (hT : RepT S tp) (hA : RepA S fd) (hfit : ∀ r, r ∈ rs → 1 ≤ r.1.length ∧ ∃ x P V, rowFit fs r x P V) (h0 : ∀ S', S.1 23 = 0 → RepT S' [] → S'.1 0 = 1 → mfr [0, 16] [] S S' → okM m g (k 0) S' Q) (h1 : ∀ S', ¬ S.1 23 = 0 → RepT S' [] → RepA S' (gtR tp rs fs).2 → S'.1 0 = 0 → mfr [0, 16, 18] [10] S S' → okM m g (k (gtR tp rs fs).1) S' Q) : okM m g (bd (X9_get m) k) S Q := by
  refine oM_bd ?_
  unfold X9_get X9_get_b23
  have h80 := hT.2.1
  refine oM_gI hM (oM_pI hM (oM_gI hM ?_))
  rw [hT.1]
  have e23 : (upI S 16 0).1 23 = S.1 23 := rfl
  rw [e23]
  by_cases c : S.1 23 = 0
  · refine oM_itT c (oM_pI hM (oM_gI hM (oM_itF (show ¬ (1 : Int32) ≤ 0 by decide) (oM_pu (h0 _ c ?_ rfl ?_)))))
    · exact ⟨rfl, Nat.zero_le _, hT.2.2.1, rfl, hT.2.2.2.2⟩
    · exact mfr_tr (mfr_I (by decide)) (mfr_I (by decide))
  refine oM_itF c (oM_pI hM (oM_gI hM (oM_itT (show (0 : Int32) ≤ 0 by decide) (oM_pI hM ?_))))
  obtain ⟨S1, hS1⟩ : ∃ S1, upI (upI (upI S 16 0) 0 0) 18 0 = S1 := ⟨_, rfl⟩
  have f1 : mfr [0, 16, 18] [] S S1 := by
    rw [← hS1]
    exact mfr_tr (mfr_tr (mfr_I (by decide)) (mfr_I (by decide))) (mfr_I (by decide))
  have T1 : RepT S1 [] := by
    rw [← hS1]
    exact ⟨rfl, Nat.zero_le _, hT.2.2.1, rfl, hT.2.2.2.2⟩
  have A1 : RepA S1 [] := by
    rw [← hS1]
    exact ⟨rfl, Nat.zero_le _, hA.2.2.1, rfl⟩
  have z1 : S1.1 0 = 0 := by rw [← hS1]; rfl
  have F1 : RepF S1 fs := repF_fr hF f1 (by decide) (by decide) (by decide) (by decide) (by decide) (by decide)
  have R1 : RepR S1 rs := repR_fr hR f1 (by decide) (fun q _ _ => List.not_mem_nil)
  have e9 : S1.2 9 = S.2 9 := f1.2 9 List.not_mem_nil
  have e10 : S1.2 10 = S.2 10 := f1.2 10 List.not_mem_nil
  rw [hS1]
  have nofind : lokR tp rs = none → okM m g (k (-1)) S1 Q := by
    intro hn
    have := h1 S1 c T1
    unfold gtR at this
    rw [hn] at this
    exact this A1 z1 (mfr_mono f1 (by decide) (by decide))
  have lok : ∀ r, lokR tp rs = some r → rs[plR tp rs]? = some r ∧ csg r.1 tp = 0 := fun r hr => (telR_some (a := 0) (b := 0) (c := 0) (d := 0) hr).2
  have ntp : nrm tp := fun v hv => hT.2.2.2.2 v (List.mem_of_mem_take (by rw [hT.2.2.2.1]; exact hv))
  have eqk : ∀ r, lokR tp rs = some r → r.1 = tp := by
    intro r hr
    obtain ⟨q1, q2⟩ := lok r hr
    exact csg0_eq _ _ (row_nrm (hR.2.2 _ r q1) hR.2.1.2.2) ntp q2
  have bad : (tp.length < 1 ∨ 16 < tp.length) → lokR tp rs = none := by
    intro hb
    cases hc : lokR tp rs with
    | none => rfl
    | some r =>
      have e := eqk r hc
      have a1 := (hR.2.2 _ r (lok r hc).1).1
      have a2 := (hfit r (List.mem_of_getElem? (lok r hc).1)).1
      rw [e] at a1 a2
      omega
  by_cases d1 : tp.length < 1
  · refine oM_itT ?_ (oM_pu (nofind (bad (Or.inl d1))))
    exact Int32.not_le.mp (nI_ge (a := tp.length) (b := 1) d1 (by decide))
  refine oM_itF (fun q => absurd (nI_le (a := 1) (b := tp.length) (by omega) (by omega)) (Int32.not_le.mpr q)) ?_
  by_cases d2 : 16 < tp.length
  · exact oM_itF (nI_ge d2 (by omega)) (oM_pu (nofind (bad (Or.inr d2))))
  have K1 : keyAt S1 9 0 tp := by
    refine ⟨?_, ?_, ?_⟩
    · rw [e9, hT.2.2.1]
      omega
    · rw [e9, hT.2.2.1]
      decide
    · rw [e9, List.drop_zero]
      exact hT.2.2.2.1
  refine oM_itT (nI_le (a := tp.length) (b := 16) (by omega) (by decide)) (oM_gR hM (oM_ck hM (m_placeOf (q := 9) hM R1 K1 rfl rfl (oM_gR hM (oM_ck hM (m_isAt (q := 9) hM R1 K1 rfl rfl (fun hn => oM_itF (by decide) (oM_pu (nofind hn))) (fun r hr => oM_itT (by decide) (oM_ck hM ?_))))))))
  obtain ⟨q1, q2⟩ := lok r hr
  obtain ⟨_, x, P, V, hf⟩ := hfit r (List.mem_of_getElem? q1)
  have hff := hf
  obtain ⟨g1, g2, g3, g4, g5, g6⟩ := hf
  obtain ⟨c1, c2, c3⟩ := rcb_fit F1 hff
  have hG : gtR tp rs fs = match badR r x.2.2.1 with
      | true => (-2, [])
      | false => (r.2.2.2.1, (x.2.2.1.drop (r.2.2.1.toNatClampNeg + 14 + r.1.length)).take r.2.2.2.1.toNatClampNeg) := by
    unfold gtR
    rw [hr]
    dsimp only
    rw [g1]
  refine m_isBad hM R1 F1 hS q1 hff rfl ?_
  cases hb : badR r x.2.2.1 with
  | true =>
    rw [hb] at hG
    rw [hG] at h1
    exact oM_itF (by decide) (oM_pu (h1 S1 c T1 A1 z1 (mfr_mono f1 (by decide) (by decide))))
  | false =>
    rw [hb] at hG
    rw [hG] at h1
    refine oM_itT rfl (oM_ck hM (m_recordAt hM R1 F1 hS q1 hff rfl (oM_bpu ?_)))
    have eV : r.2.2.2.1.toNatClampNeg = V := by
      rw [g3]
      show (nI V).toInt.toNat = V
      rw [nI_toInt (by omega)]
      rfl
    have ei : nI (totF (fs.take (plF r.2.1 0 fs)) + P) + 14 + nI tp.length = nI (totF (fs.take (plF r.2.1 0 fs)) + (P + 14 + r.1.length)) := by
      have := nI_add (totF (fs.take (plF r.2.1 0 fs)) + P) 14
      have e14 : nI (totF (fs.take (plF r.2.1 0 fs)) + P) + 14 = nI (totF (fs.take (plF r.2.1 0 fs)) + P + 14) := this
      rw [e14, nI_add, eqk r hr]
      congr 1
      omega
    rw [ei]
    have : FU = 1000000 := rfl
    have lV : ((x.2.2.1.drop (P + 14 + r.1.length)).take V).length = V := by rw [List.length_take, List.length_drop]; omega
    have hl10 : (S1.2 10).length = 64 := by rw [e10]; exact hA.2.2.1
    have q := m_get_loop (A := S1.2 10) (Q := fun v S2 => okM m g (k v) S2 Q) hM F1 R1 q1 hff hl10 ?_ FU 0 (by omega) (Nat.zero_le _)
    · rw [List.take_zero, wrt_nil] at q
      have e0 : upA S1 10 (S1.2 10) = S1 := by
        show (S1.1, va_up S1.2 10 (S1.2 10)) = S1
        have : va_up S1.2 10 (S1.2 10) = S1.2 := by
          funext j
          unfold va_up
          split
          · rename_i q
            rw [q]
          · rfl
        rw [this]
      rw [e0] at q
      exact q
    · rw [c3, eV, g3] at h1
      refine h1 _ c ?_ ?_ z1 ?_
      · exact repT_fr T1 (mfr_tr (mfr_A (J := [18]) (K := [10]) (by decide)) (mfr_I (by decide))) (by decide) (by decide)
      · refine ⟨?_, ?_, ?_, ?_⟩
        · show nI V = nI _
          rw [lV]
        · rw [lV]
          exact g4
        · show (wrt (S1.2 10) 0 _).length = 64
          rw [wrt_len (by omega), hl10]
        · show (wrt (S1.2 10) 0 _).take _ = _
          have tw := take_wrt (A := S1.2 10) (l := (x.2.2.1.drop (P + 14 + r.1.length)).take V) (e := 0) (by omega)
          rw [Nat.zero_add, List.take_zero, List.nil_append] at tw
          exact tw
      · exact mfr_tr (mfr_mono f1 (by decide) (by decide)) (mfr_tr (mfr_A (by decide)) (mfr_I (by decide)))
end
