/-! the reference: a record is written -/
section
variable {m : Nat} {g : Gh} {S : MS} {α : Type} {rs : List AR} {fs : List AF} {ps : List AV}
theorem wrt_mid {A l : List Int32} {e : Nat} (h : e + l.length ≤ A.length) : ((wrt A e l).drop e).take l.length = l := by
  apply List.ext_getElem?
  intro j
  by_cases c : j < l.length
  · rw [dt_get c, wrt_get h, if_neg (by omega), if_pos (by omega), Nat.add_sub_cancel_left]
  · rw [List.getElem?_eq_none (by rw [List.length_take]; omega), List.getElem?_eq_none (by omega)]
theorem wrt_two {A h l : List Int32} (hl : h.length + l.length ≤ A.length) : (wrt (wrt A h.length l) 0 h).take (h.length + l.length) = h ++ l := by
  have l1 := wrt_len (A := A) (e := h.length) (l := l) hl
  apply List.ext_getElem?
  intro j
  rw [List.getElem?_take]
  by_cases c0 : j < h.length + l.length
  · rw [if_pos c0, wrt_get (by omega), if_neg (by omega), Nat.zero_add, Nat.sub_zero]
    by_cases c : j < h.length
    · rw [if_pos c, List.getElem?_append_left c]
    · rw [if_neg c, wrt_get hl, if_neg c, if_pos c0, List.getElem?_append_right (by omega)]
  · rw [if_neg c0, List.getElem?_eq_none (by rw [List.length_append]; omega)]
/-- the draft's row -/
def drOk (S : MS) : Prop := (S.2 8).length = 16484 ∧ nrm (S.2 8)
/-- bytes taken from the tape -/
def tOk (S : MS) (tk : List Int32) : Prop := (S.2 9).length = 80 ∧ (S.2 9).take tk.length = tk ∧ tk.length ≤ 80 ∧ nrm (S.2 9)
def wrR (t : List Int32) (a b c d : Int32) (rs : List AR) : List AR := if c < 0 then rs.eraseIdx (plR t rs) else telR (plR t rs) a b c d (ensR t rs)
theorem nrm_be4 (v : Int32) : nrm (be4 v) := by
  intro x hx
  simp only [be4, List.mem_cons, List.not_mem_nil, or_false] at hx
  rcases hx with q | q | q | q <;> rw [q] <;> exact b8_b8 _
theorem nrm_be2 (v : Int32) : nrm (be2 v) := by
  intro x hx
  simp only [be2, List.mem_cons, List.not_mem_nil, or_false] at hx
  rcases hx with q | q <;> rw [q] <;> exact b8_b8 _
theorem nrm_app {a b : List Int32} (h1 : nrm a) (h2 : nrm b) : nrm (a ++ b) := by
  intro x hx
  rcases List.mem_append.mp hx with q | q
  · exact h1 x q
  · exact h2 x q
theorem m_w90 {kn : Nat} {sv : List Nat} {vs pl st act : Int32} {tk A : List Int32} {Q : Unit → MS → Prop} (hM : Mk m g) (hF : RepF S fs) (hP : RepP S ps) (hR : RepR S rs) (hT : tOk S tk) (hA : A.length = 16484) (hnA : nrm A) (hkn : kn ≤ tk.length) (hk16 : kn ≤ 16) (e26 : S.1 26 = act) (e25 : S.1 25 = st) (hl : fs.length < 4000) (hps : ps.length < 4100) (ht : totF fs + (14 + tk.length) ≤ 16384) (hrs : rs.length < 1199) (hfind : vs < 0 → plR (tk.take kn) rs < rs.length)
    (hq : ∀ S', RepF S' (appF act 0 (recB st (nI kn) vs tk) fs sv).1 → RepP S' (ps ++ [(act, 0, nI (14 + tk.length))]) → RepR S' (wrR (tk.take kn) act pl vs st rs) → S'.1 25 = st + 1 → drOk S' → mfr [4, 8, 12, 14, 25, 33] [1, 2, 3, 4, 5, 6, 7, 8, 11, 12, 13, 14, 15, 16] S S' → Q () S') :
    ∀ (w t : Nat), tk.length - t < w → t ≤ tk.length → okM m g (X9_writes_b90 w m (nI kn) vs (nI (14 + tk.length)) pl (nI t)) (dS S (wrt A 4 ((be4 st ++ be2 (nI kn) ++ be4 vs ++ tk).take (10 + t))) 14) Q := by
  have lb : (be4 st ++ be2 (nI kn) ++ be4 vs ++ tk).length = 10 + tk.length := by
    simp only [List.length_append, be4_len, be2_len]
  have h80 := hT.2.2.1
  have ntk : nrm tk := fun v hv => hT.2.2.2 v (List.mem_of_mem_take (by rw [hT.2.1]; exact hv))
  have nb : nrm (be4 st ++ be2 (nI kn) ++ be4 vs ++ tk) := nrm_app (nrm_app (nrm_app (nrm_be4 _) (nrm_be2 _)) (nrm_be4 _)) ntk
  intro w
  induction w with
  | zero => intro t h; omega
  | succ w ih =>
    intro t hw htl
    show okM m g (X9_writes_b90b (X9_writes_b90 w) m (nI kn) vs (nI (14 + tk.length)) pl (nI t)) _ Q
    unfold X9_writes_b90b
    have e14 : nI (14 + tk.length) - 14 = nI tk.length := by
      have := nI_subN (a := 14 + tk.length) (b := 14) (by omega)
      rw [Nat.add_sub_cancel_left] at this
      exact this
    rw [e14]
    have lt : ((be4 st ++ be2 (nI kn) ++ be4 vs ++ tk).take (10 + t)).length = 10 + t := by rw [List.length_take]; omega
    have lw := wrt_len (A := A) (e := 4) (l := (be4 st ++ be2 (nI kn) ++ be4 vs ++ tk).take (10 + t)) (by omega)
    by_cases c : t < tk.length
    · obtain ⟨v, hv⟩ := some_of_lt c
      have hv9 : ((dS S (wrt A 4 ((be4 st ++ be2 (nI kn) ++ be4 vs ++ tk).take (10 + t))) 14).2 9)[t]? = some v := pre_get (A := S.2 9) hT.2.1 hv
      have hvb : (be4 st ++ be2 (nI kn) ++ be4 vs ++ tk)[10 + t]? = some v := by
        have l10 : (be4 st ++ be2 (nI kn) ++ be4 vs).length = 10 := by simp only [List.length_append, be4_len, be2_len]
        rw [List.getElem?_append_right (by omega), l10, Nat.add_sub_cancel_left]
        exact hv
      have ix : (14 : Int32) + nI t = nI (4 + (10 + t)) := by
        rw [show 4 + (10 + t) = 14 + t by omega]
        exact nI_add 14 t
      refine oM_itF (nI_ge c (by omega)) (oM_gR hM (oM_gR hM (oM_al (q := 9) hM rfl hv9 (oM_as (q := 8) (i := 4 + (10 + t)) hM ix ?_ ?_))))
      · show 4 + (10 + t) < (wrt A 4 ((be4 st ++ be2 (nI kn) ++ be4 vs ++ tk).take (10 + t))).length
        omega
      · rw [nI_1, if_pos rfl]
        have e1 : v.toInt8.toInt32 = v := nrm_get ntk hv
        rw [e1]
        have e : upA (dS S (wrt A 4 ((be4 st ++ be2 (nI kn) ++ be4 vs ++ tk).take (10 + t))) 14) 8 (((dS S (wrt A 4 ((be4 st ++ be2 (nI kn) ++ be4 vs ++ tk).take (10 + t))) 14).2 8).set (4 + (10 + t)) v) = dS S (wrt A 4 ((be4 st ++ be2 (nI kn) ++ be4 vs ++ tk).take (10 + (t + 1)))) 14 := by
          show (va_up S.1 14 (nI 14), va_up (va_up S.2 8 _) 8 ((wrt A 4 ((be4 st ++ be2 (nI kn) ++ be4 vs ++ tk).take (10 + t))).set (4 + (10 + t)) v)) = _
          rw [va_va, wrt_step hvb (by omega)]
          rfl
        rw [e]
        exact ih (t + 1) (by omega) (by omega)
    · have et : t = tk.length := by omega
      subst et
      rw [List.take_of_length_le (by omega)] at lw ⊢
      obtain ⟨B, hB⟩ : ∃ B, wrt A 4 (be4 st ++ be2 (nI kn) ++ be4 vs ++ tk) = B := ⟨_, rfl⟩
      have nB : nrm B := by rw [← hB]; exact nrm_wrt hnA nb
      rw [hB] at lw ⊢
      refine oM_itT (nI_le (Nat.le_refl _) (by omega)) (oM_gR hM (m_sum (q := 8) (f := 4) (t := 14 + tk.length) hM rfl rfl (by omega) ?_ ?_ (oM_pI hM ?_)))
      · show 14 + tk.length ≤ B.length
        omega
      · show B.length ≤ 60000
        omega
      have ec : (((dS S B 14).2 8).drop 4).take (14 + tk.length - 4) = be4 st ++ be2 (nI kn) ++ be4 vs ++ tk := by
        show (B.drop 4).take (14 + tk.length - 4) = _
        rw [← hB, show 14 + tk.length - 4 = (be4 st ++ be2 (nI kn) ++ be4 vs ++ tk).length by omega]
        exact wrt_mid (by omega)
      rw [ec]
      have s0 : upI (dS S B 14) 14 0 = dS S B 0 := dS_I
      rw [s0]
      refine oM_ck hM (m_drafts4 hM (by omega) (oM_pI hM ?_))
      rw [dS_I]
      obtain ⟨C, hC⟩ : ∃ C, wrt B 0 (be4 (crcL (be4 st ++ be2 (nI kn) ++ be4 vs ++ tk))) = C := ⟨_, rfl⟩
      have lC : C.length = 16484 := by
        rw [← hC, wrt_len (by rw [be4_len]; omega)]
        omega
      have nC : nrm C := by rw [← hC]; exact nrm_wrt nB (nrm_be4 _)
      have tC : C.take (14 + tk.length) = recB st (nI kn) vs tk := by
        have := wrt_two (A := A) (h := be4 (crcL (be4 st ++ be2 (nI kn) ++ be4 vs ++ tk))) (l := be4 st ++ be2 (nI kn) ++ be4 vs ++ tk) (by rw [be4_len]; omega)
        rw [be4_len, hB, hC, lb] at this
        rw [show 14 + tk.length = 4 + (10 + tk.length) by omega, this]
        rfl
      rw [hC]
      have f0 : mfr [4, 8, 12, 14] [1, 2, 3, 4, 5, 6, 7, 8] S (dS S C (14 + tk.length)) := mfr_mono mfr_dS (by decide) (by decide)
      have hD : RepD (dS S C (14 + tk.length)) (recB st (nI kn) vs tk) := by
        refine ⟨?_, lC, ?_, ?_, nC⟩
        · rw [recB_len]
          rfl
        · rw [recB_len]
          exact tC
        · rw [recB_len]
          omega
      refine oM_gI hM (oM_ck hM ?_)
      have e26' : (dS S C (14 + tk.length)).1 26 = act := e26
      rw [e26']
      refine m_comes (sv := sv) hM (repF_fr hF mfr_dS (by decide) (by decide) (by decide) (by decide) (by decide) (by decide)) (repP_fr hP mfr_dS (by decide) (by decide) (by decide) (by decide)) hD hl hps (by rw [recB_len]; omega) (fun S1 r1 p1 d1 f1 => ?_)
      rw [recB_len] at p1
      have fS : mfr [4, 8, 12, 14] [1, 2, 3, 4, 5, 6, 7, 8] S S1 := mfr_tr f0 (mfr_mono f1 (by decide) (by decide))
      have R1 : RepR S1 rs := repR_fr hR fS (by decide) (fun q q1 q2 => by simp only [List.mem_cons, List.not_mem_nil, or_false, not_or]; omega)
      have e9 : S1.2 9 = S.2 9 := fS.2 9 (by decide)
      have e8 : S1.2 8 = C := f1.2 8 (by decide)
      have e26'' : S1.1 26 = act := (fS.1 26 (by decide)).trans e26
      have e25'' : S1.1 25 = st := (fS.1 25 (by decide)).trans e25
      have lk : (tk.take kn).length = kn := by rw [List.length_take]; omega
      have nk : nrm (tk.take kn) := fun v hv => ntk v (List.mem_of_mem_take hv)
      have K1 : keyAt S1 9 0 (tk.take kn) := by
        refine ⟨?_, ?_, ?_⟩
        · rw [e9, lk, hT.1]
          omega
        · rw [e9, hT.1]
          decide
        · rw [e9, lk, List.drop_zero]
          have : (S.2 9).take kn = ((S.2 9).take tk.length).take kn := by rw [List.take_take, Nat.min_eq_left hkn]
          rw [this, hT.2.1]
      have fin : ∀ S2, RepR S2 (wrR (tk.take kn) act pl vs st rs) → mfr [33] [11, 12, 13, 14, 15, 16] S1 S2 → okM m g (X9_writes_b201 m) S2 Q := by
        intro S2 R2 f2
        unfold X9_writes_b201
        refine oM_gI hM (oM_pI hM (oM_pu (hq _ ?_ ?_ ?_ ?_ ?_ ?_)))
        · exact repF_fr (repF_fr r1 f2 (by decide) (by decide) (by decide) (by decide) (by decide) (by decide)) (mfr_I (J := [25]) (K := []) (by decide)) (by decide) (by decide) (by decide) (by decide) (by decide) (by decide)
        · exact repP_fr (repP_fr p1 f2 (by decide) (by decide) (by decide) (by decide)) (mfr_I (J := [25]) (K := []) (by decide)) (by decide) (by decide) (by decide) (by decide)
        · exact repR_fr R2 (mfr_I (J := [25]) (K := []) (by decide)) (by decide) (fun q _ _ => List.not_mem_nil)
        · show S2.1 25 + 1 = st + 1
          rw [f2.1 25 (by decide), e25'']
        · show (S2.2 8).length = 16484 ∧ nrm (S2.2 8)
          rw [f2.2 8 (by decide), e8]
          exact ⟨lC, nC⟩
        · exact mfr_tr (mfr_tr (mfr_mono fS (by decide) (by decide)) (mfr_mono f2 (by decide) (by decide))) (mfr_I (by decide))
      by_cases c3 : vs < 0
      · refine oM_itT c3 (oM_gR hM (oM_ck hM (m_placeOf (q := 9) hM R1 K1 rfl (by rw [lk]) (oM_ck hM (m_untold hM R1 rfl (hfind c3) (fun S2 R2 f2 => fin S2 ?_ f2))))))
        unfold wrR
        rw [if_pos c3]
        exact R2
      · refine oM_itF c3 (oM_gR hM (oM_gI hM (oM_gI hM (oM_ck hM ?_))))
        rw [e26'', e25'']
        refine m_told (q := 9) hM R1 K1 nk (by omega) rfl (by rw [lk]) hrs (fun S2 R2 f2 => fin S2 ?_ f2)
        unfold wrR
        rw [if_neg c3]
        exact R2
end
