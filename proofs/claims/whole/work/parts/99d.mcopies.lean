/-! the reference: a live record is copied -/
section
variable {m : Nat} {g : Gh} {S : MS} {α : Type} {rs ms os : List AR} {fs : List AF} {ps : List AV}
theorem repO_app {S' : MS} {d : AR} (hO : RepO S os) (hn : os.length + 1 < 1200) (hk : d.1.length ≤ 16) (nd : nrm d.1) (e53 : S'.1 53 = S.1 53 + 1) (e22 : S'.2 22 = wrt (S.2 22) (16 * os.length) d.1) (e23 : S'.2 23 = (S.2 23).set os.length (nI d.1.length)) (e24 : S'.2 24 = (S.2 24).set os.length d.2.2.1) (e25 : S'.2 25 = (S.2 25).set os.length d.2.2.2.1) (e26 : S'.2 26 = (S.2 26).set os.length d.2.2.2.2) : RepO S' (os ++ [d]) := by
  obtain ⟨⟨h53, _⟩, ⟨l22, ⟨l23, l24, l25, l26⟩, n22⟩, ho⟩ := hO
  have st : ∀ (A : List Int32) (v : Int32) (j : Nat), A.length = 1200 → (A.set os.length v)[j]? = if j = os.length then some v else A[j]? := by
    intro A v j hA
    rw [List.getElem?_set]
    by_cases c : os.length = j
    · rw [if_pos c, if_pos (by omega), if_pos c.symm]
    · rw [if_neg c, if_neg (fun q => c q.symm)]
  refine ⟨⟨?_, ?_⟩, ⟨?_, ⟨?_, ?_, ?_, ?_⟩, ?_⟩, ?_⟩
  · rw [e53, h53, nI_1, List.length_append]
    rfl
  · rw [List.length_append, List.length_singleton]
    exact hn
  · rw [e22, wrt_len (by omega)]
    exact l22
  · rw [e23, List.length_set]
    exact l23
  · rw [e24, List.length_set]
    exact l24
  · rw [e25, List.length_set]
    exact l25
  · rw [e26, List.length_set]
    exact l26
  · rw [e22]
    exact nrm_wrt n22 nd
  · intro i r hr
    unfold oIs
    rw [e22, e23, e24, e25, e26, st _ _ _ l23, st _ _ _ l24, st _ _ _ l25, st _ _ _ l26]
    by_cases c : i < os.length
    · rw [List.getElem?_append_left c] at hr
      obtain ⟨b1, b2, b3, b4, b5, b6⟩ := ho i r hr
      rw [if_neg (by omega), if_neg (by omega), if_neg (by omega), if_neg (by omega)]
      refine ⟨b1, fun t x hx => ?_, b3, b4, b5, b6⟩
      have := lt_of_some hx
      rw [wrt_get (by omega), if_pos (by omega)]
      exact b2 t x hx
    · have hl := lt_of_some hr
      rw [List.length_append, List.length_singleton] at hl
      have ei : i = os.length := by omega
      subst ei
      rw [List.getElem?_append_right (Nat.le_refl _), Nat.sub_self] at hr
      cases hr
      rw [if_pos rfl, if_pos rfl, if_pos rfl, if_pos rfl]
      refine ⟨hk, fun t x hx => ?_, rfl, rfl, rfl, rfl⟩
      have := lt_of_some hx
      rw [wrt_get (by omega), if_neg (by omega), if_pos (by omega), Nat.add_sub_cancel_left]
      exact hx
theorem repR_set2 {S' : MS} {p : Nat} {a b : Int32} {d : AR} (hR : RepR S rs) (hd : rs[p]? = some d) (e33 : S'.1 33 = S.1 33) (e11 : S'.2 11 = S.2 11) (e12 : S'.2 12 = S.2 12) (e13 : S'.2 13 = (S.2 13).set p a) (e14 : S'.2 14 = (S.2 14).set p b) (e15 : S'.2 15 = S.2 15) (e16 : S'.2 16 = S.2 16) : RepR S' (telR p a b d.2.2.2.1 d.2.2.2.2 rs) := by
  unfold telR
  rw [hd]
  dsimp only
  have hp := lt_of_some hd
  have hn := hR.1.2
  obtain ⟨l11, lq, nn⟩ := hR.2.1
  have l13 := lq 13 (by decide) (by decide)
  have l14 := lq 14 (by decide) (by decide)
  refine ⟨⟨?_, ?_⟩, ⟨by rw [e11]; exact l11, ?_, by rw [e11]; exact nn⟩, ?_⟩
  · rw [e33, hR.1.1, List.length_set]
  · rw [List.length_set]
    exact hn
  · intro q h1 h2
    rcases (show q = 12 ∨ q = 13 ∨ q = 14 ∨ q = 15 ∨ q = 16 by omega) with e | e | e | e | e <;> subst e
    · rw [e12]
      exact lq 12 h1 h2
    · rw [e13, List.length_set]
      exact l13
    · rw [e14, List.length_set]
      exact l14
    · rw [e15]
      exact lq 15 h1 h2
    · rw [e16]
      exact lq 16 h1 h2
  · intro i r hr
    unfold rowIs
    rw [e11, e12, e13, e14, e15, e16]
    rw [List.getElem?_set] at hr
    by_cases c : p = i
    · subst c
      rw [if_pos rfl, if_pos hp] at hr
      cases hr
      obtain ⟨a1, a2, a3, a4, a5, a6, a7⟩ := hR.2.2 p d hd
      refine ⟨a1, a2, a3, ?_, ?_, a6, a7⟩
      · rw [List.getElem?_set, if_pos rfl, if_pos (by omega)]
      · rw [List.getElem?_set, if_pos rfl, if_pos (by omega)]
    · rw [if_neg c] at hr
      obtain ⟨a1, a2, a3, a4, a5, a6, a7⟩ := hR.2.2 i r hr
      refine ⟨a1, a2, a3, ?_, ?_, a6, a7⟩
      · rw [List.getElem?_set, if_neg c]
        exact a4
      · rw [List.getElem?_set, if_neg c]
        exact a5
theorem m_c145 {i p : Nat} {pl : Int32} {d : AR} {Q : Unit → MS → Prop} (hM : Mk m g) (hR : RepR S rs) (hO : RepO S os) (hd : rs[p]? = some d) (hn : os.length + 1 < 1200)
    (hk : ∀ S', RepR S' (telR p (S.1 35) pl d.2.2.2.1 d.2.2.2.2 rs) → RepO S' (os ++ [(d.1, S.1 35, pl, d.2.2.2.1, d.2.2.2.2)]) → S'.1 43 = nI (i + 1) → mfr [43, 53] [13, 14, 22, 23, 24, 25, 26] S S' → Q () S') : okM m g (X9_copies_b145 FU m (nI i) (nI p) pl 0) S Q := by
  obtain ⟨a1, a2, a3, a4, a5, a6, a7⟩ := hR.2.2 p d hd
  have hp := lt_of_some hd
  have hrn := hR.1.2
  have l11 := hR.2.1.1
  have l13 := hR.2.1.2.1 13 (by decide) (by decide)
  have l14 := hR.2.1.2.1 14 (by decide) (by decide)
  have l22 := hO.2.1.1
  obtain ⟨l23, l24, l25, l26⟩ := hO.2.1.2.1
  have nd : nrm d.1 := row_nrm (hR.2.2 p d hd) hR.2.1.2.2
  have loop : ∀ (w t : Nat), d.1.length - t < w → t ≤ d.1.length → okM m g (X9_copies_b145 w m (nI i) (nI p) pl (nI t)) (upA S 22 (wrt (S.2 22) (16 * os.length) (d.1.take t))) Q := by
    intro w
    induction w with
    | zero => intro t h; omega
    | succ w ih =>
      intro t hw ht
      show okM m g (X9_copies_b145b (X9_copies_b145 w) m (nI i) (nI p) pl (nI t)) _ _
      unfold X9_copies_b145b
      have lt : (d.1.take t).length = t := by rw [List.length_take]; omega
      have lw := wrt_len (A := S.2 22) (e := 16 * os.length) (l := d.1.take t) (by omega)
      refine oM_gR hM (oM_al (q := 12) hM rfl a3 ?_)
      by_cases c : t < d.1.length
      · obtain ⟨x, hx⟩ := some_of_lt c
        have hx2 := a2 t x hx
        have ia : 16 * nI p + nI t = nI (16 * p + t) := by rw [nI_16, nI_add]
        have ib : 16 * nI os.length + nI t = nI (16 * os.length + t) := by rw [nI_16, nI_add]
        have e53 : (upA S 22 (wrt (S.2 22) (16 * os.length) (d.1.take t))).1 53 = nI os.length := hO.1.1
        refine oM_itF (nI_ge c (by omega)) (oM_gR hM (oM_gI hM (oM_gR hM (oM_al (q := 11) hM ia hx2 ?_))))
        rw [e53]
        refine oM_as (q := 22) (i := 16 * os.length + t) hM ib ?_ ?_
        · show 16 * os.length + t < (wrt (S.2 22) (16 * os.length) (d.1.take t)).length
          omega
        · rw [nI_1, if_pos rfl]
          have e1 : x.toInt8.toInt32 = x := nrm_get hR.2.1.2.2 hx2
          rw [e1, upA_upA]
          have e2 : ((upA S 22 (wrt (S.2 22) (16 * os.length) (d.1.take t))).2 22).set (16 * os.length + t) x = wrt (S.2 22) (16 * os.length) (d.1.take (t + 1)) := wrt_step hx (by omega)
          rw [e2]
          exact ih (t + 1) (by omega) (by omega)
      · have et : t = d.1.length := by omega
        subst et
        rw [List.take_length]
        have e53 : S.1 53 = nI os.length := hO.1.1
        refine oM_itT (nI_le (Nat.le_refl _) (by omega)) (oM_gR hM (oM_gI hM (oM_gR hM (oM_al (q := 12) hM rfl a3 (oM_as (q := 23) (i := os.length) hM e53 ?_ ?_)))))
        · show os.length < (S.2 23).length
          omega
        refine oM_gR hM (oM_gI hM (oM_as (q := 24) (i := os.length) hM e53 ?_ ?_))
        · show os.length < (S.2 24).length
          omega
        refine oM_gR hM (oM_gI hM (oM_gR hM (oM_al (q := 15) hM rfl a6 (oM_as (q := 25) (i := os.length) hM e53 ?_ ?_))))
        · show os.length < (S.2 25).length
          omega
        refine oM_gR hM (oM_gI hM (oM_gR hM (oM_al (q := 16) hM rfl a7 (oM_as (q := 26) (i := os.length) hM e53 ?_ ?_))))
        · show os.length < (S.2 26).length
          omega
        refine oM_gI hM (oM_pI hM (oM_gR hM (oM_gI hM (oM_as (q := 13) (i := p) hM rfl ?_ ?_))))
        · show p < (S.2 13).length
          omega
        refine oM_gR hM (oM_as (q := 14) (i := p) hM rfl ?_ ?_)
        · show p < (S.2 14).length
          omega
        refine oM_pI hM (oM_pu ?_)
        refine hk _ ?_ ?_ ?_ ?_
        · exact repR_set2 hR hd rfl rfl rfl rfl rfl rfl rfl
        · exact repO_app hO hn a1 nd rfl rfl rfl rfl rfl rfl
        · exact nI_1 i
        · exact mfr_tr (mfr_tr (mfr_tr (mfr_tr (mfr_tr (mfr_tr (mfr_tr (mfr_tr (mfr_A (by decide)) (mfr_A (by decide))) (mfr_A (by decide))) (mfr_A (by decide))) (mfr_A (by decide))) (mfr_I (by decide))) (mfr_A (by decide))) (mfr_A (by decide))) (mfr_I (by decide))
  have : FU = 1000000 := rfl
  have q := loop FU 0 (by omega) (Nat.zero_le _)
  rw [List.take_zero, wrt_nil, upA_id] at q
  exact q
/-- the bytes of a row's record -/
def recOf (x : AF) (P n : Nat) : List Int32 := (x.2.2.1.drop P).take n
theorem m_c78 {i p P V : Nat} {d : AR} {x : AF} {out y : Int32} {sv : List Nat} {Q : Unit → MS → Prop} (hM : Mk m g) (hF : RepF S fs) (hS : SrtF fs) (hP : RepP S ps) (hR : RepR S rs) (hO : RepO S os) (hD : drOk S) (hd : rs[p]? = some d) (hf : rowFit fs d x P V) (hn : os.length + 1 < 1200) (h35 : S.1 35 = out) (hl : fs.length < 4000) (hps : ps.length < 4100) (ht : totF fs + (14 + d.1.length + V) ≤ 16384) (hy : y = nI (14 + d.1.length + V))
    (hk : ∀ S', RepF S' (appF out 0 (recOf x P (14 + d.1.length + V)) fs sv).1 → RepP S' (ps ++ [(out, 0, nI (14 + d.1.length + V))]) → RepR S' (telR p out (nI (szF out 0 fs)) d.2.2.2.1 d.2.2.2.2 rs) → RepO S' (os ++ [(d.1, out, nI (szF out 0 fs), d.2.2.2.1, d.2.2.2.2)]) → S'.1 37 = S.1 37 + nI (14 + d.1.length + V) → S'.1 43 = nI (i + 1) → drOk S' → mfr [4, 8, 12, 14, 37, 43, 53] [1, 2, 3, 4, 5, 6, 7, 8, 13, 14, 22, 23, 24, 25, 26] S S' → Q () S') : okM m g (X9_copies_b78 m (nI i) (nI p) y) S Q := by
  subst hy
  unfold X9_copies_b78
  obtain ⟨h1, h2, h3, h4, h5, h6⟩ := hf
  obtain ⟨q1, q2, q3⟩ := fndF_some h1
  have eT := totF_take q1
  have hT := hF.1.2.2.1
  have ld := hD.1
  have l1 := hF.2.1.1
  refine oM_gI hM (oM_ck hM ?_)
  rw [h35]
  refine m_sizeOf hM hF hS (oM_ck hM (m_recordAt hM hR hF hS hd ⟨h1, h2, h3, h4, h5, h6⟩ rfl (oM_pI hM ?_)))
  have lr : (recOf x P (14 + d.1.length + V)).length = 14 + d.1.length + V := by
    unfold recOf
    rw [List.length_take, List.length_drop]
    omega
  have nr : nrm (recOf x P (14 + d.1.length + V)) := by
    intro v hv
    unfold recOf at hv
    obtain ⟨j, hj⟩ := List.mem_iff_getElem?.mp (List.mem_of_mem_drop (List.mem_of_mem_take hv))
    exact nrm_get hF.2.2.2.2.2.2 (dsk_get hF q1 hj)
  have loop : ∀ (w t : Nat), 14 + d.1.length + V - t < w → t ≤ 14 + d.1.length + V → okM m g (X9_copies_b104 w m (nI i) (nI p) (nI (14 + d.1.length + V)) (nI (szF out 0 fs)) (nI (totF (fs.take (plF d.2.1 0 fs)) + P)) (nI t)) (dS S (wrt (S.2 8) 0 ((recOf x P (14 + d.1.length + V)).take t)) (14 + d.1.length + V)) Q := by
    intro w
    induction w with
    | zero => intro t h; omega
    | succ w ih =>
      intro t hw htl
      show okM m g (X9_copies_b104b (X9_copies_b104 w) m (nI i) (nI p) (nI (14 + d.1.length + V)) (nI (szF out 0 fs)) (nI (totF (fs.take (plF d.2.1 0 fs)) + P)) (nI t)) _ _
      unfold X9_copies_b104b
      have lt : ((recOf x P (14 + d.1.length + V)).take t).length = t := by rw [List.length_take]; omega
      have lw := wrt_len (A := S.2 8) (e := 0) (l := (recOf x P (14 + d.1.length + V)).take t) (by omega)
      by_cases c : t < 14 + d.1.length + V
      · obtain ⟨v, hv⟩ := some_of_lt (show t < (recOf x P (14 + d.1.length + V)).length by omega)
        have hv2 : x.2.2.1[P + t]? = some v := by
          unfold recOf at hv
          rw [dt_get c] at hv
          exact hv
        have hv3 := dsk_get hF q1 hv2
        rw [← Nat.add_assoc] at hv3
        refine oM_itF (nI_ge c (by omega)) (oM_gR hM (oM_gR hM (oM_al (q := 1) hM (nI_add _ _) hv3 (oM_as (q := 8) (i := t) hM rfl ?_ ?_))))
        · show t < (wrt (S.2 8) 0 ((recOf x P (14 + d.1.length + V)).take t)).length
          omega
        · rw [nI_1, if_pos rfl]
          have e1 : v.toInt8.toInt32 = v := nrm_get hF.2.2.2.2.2.2 hv3
          rw [e1]
          have e2 : ((dS S (wrt (S.2 8) 0 ((recOf x P (14 + d.1.length + V)).take t)) (14 + d.1.length + V)).2 8).set t v = wrt (S.2 8) 0 ((recOf x P (14 + d.1.length + V)).take (t + 1)) := by
            have := wrt_step (A := S.2 8) (e := 0) hv (by omega)
            rw [Nat.zero_add] at this
            exact this
          rw [e2]
          have e3 : upA (dS S (wrt (S.2 8) 0 ((recOf x P (14 + d.1.length + V)).take t)) (14 + d.1.length + V)) 8 (wrt (S.2 8) 0 ((recOf x P (14 + d.1.length + V)).take (t + 1))) = dS S (wrt (S.2 8) 0 ((recOf x P (14 + d.1.length + V)).take (t + 1))) (14 + d.1.length + V) := by
            unfold dS
            show (_, va_up (va_up S.2 8 _) 8 _) = _
            rw [va_va]
            rfl
          rw [e3]
          exact ih (t + 1) (by omega) (by omega)
      · have et : t = 14 + d.1.length + V := by omega
        rw [et, show (recOf x P (14 + d.1.length + V)).take (14 + d.1.length + V) = recOf x P (14 + d.1.length + V) from List.take_of_length_le (by omega)]
        have eDL : dS S (wrt (S.2 8) 0 (recOf x P (14 + d.1.length + V))) (14 + d.1.length + V) = DL S (S.2 8) (recOf x P (14 + d.1.length + V)) := by
          unfold DL
          rw [lr]
        rw [eDL]
        refine oM_itT (nI_le (Nat.le_refl _) (by omega)) (oM_gI hM (oM_ck hM ?_))
        have e35 : (DL S (S.2 8) (recOf x P (14 + d.1.length + V))).1 35 = out := h35
        rw [e35]
        refine m_bringL (sv := sv) hM hF hP hD nr hl hps (by omega) (fun S1 r1 r2 r3 r4 r5 => ?_)
        rw [lr] at r2 r3
        refine m_c145 hM (repR_fr hR r5 (by decide) (fun q u1 u2 => by simp only [List.mem_cons, List.not_mem_nil, or_false]; omega)) (repO_fr hO r5 (by decide) (by decide) (by decide) (by decide) (by decide) (by decide)) hd hn (fun S2 s1 s2 s3 s4 => ?_)
        rw [r5.1 35 (by decide), h35] at s1 s2
        refine hk S2 (repF_fr r1 s4 (by decide) (by decide) (by decide) (by decide) (by decide) (by decide)) (repP_fr r2 s4 (by decide) (by decide) (by decide) (by decide)) s1 s2 ?_ s3 (drOk_fr r4 s4 (by decide)) (mfr_tr (mfr_mono r5 (by decide) (by decide)) (mfr_mono s4 (by decide) (by decide)))
        rw [s4.1 37 (by decide)]
        exact r3
  have : FU = 1000000 := rfl
  have q := loop FU 0 (by omega) (Nat.zero_le _)
  have e0 : dS S (wrt (S.2 8) 0 ((recOf x P (14 + d.1.length + V)).take 0)) (14 + d.1.length + V) = upI S 14 (nI (14 + d.1.length + V)) := by
    rw [List.take_zero, wrt_nil]
    unfold dS
    rw [upA_id]
  rw [e0] at q
  exact q
/-- what a copy leaves -/
def Copied (S S' : MS) (fs : List AF) (ps : List AV) (rs os : List AR) (i p n : Nat) (out : Int32) (bs : List Int32) (d : AR) (sv : List Nat) : Prop := RepF S' (appF out 0 bs fs sv).1 ∧ RepP S' (ps ++ [(out, 0, nI n)]) ∧ RepR S' (telR p out (nI (szF out 0 fs)) d.2.2.2.1 d.2.2.2.2 rs) ∧ RepO S' (os ++ [(d.1, out, nI (szF out 0 fs), d.2.2.2.1, d.2.2.2.2)]) ∧ S'.1 43 = nI (i + 1) ∧ S'.1 35 = out ∧ drOk S' ∧ mfr [4, 8, 12, 14, 24, 35, 37, 43, 53] [1, 2, 3, 4, 5, 6, 7, 8, 13, 14, 22, 23, 24, 25, 26] S S'
theorem m_copies {i P V : Nat} {d r : AR} {x : AF} {z : Int32} {sv sv' : List Nat} {k : Unit → M α} {Q : α → MS → Prop} (hM : Mk m g) (hF : RepF S fs) (hS : SrtF fs) (hP : RepP S ps) (hR : RepR S rs) (hL : RepL S ms) (hO : S.1 35 ≠ -1 → RepO S os) (hoL : oLen S) (hD : drOk S) (hr : ms[i]? = some r) (hz : z = nI i) (hd : rs[plR r.1 rs]? = some d) (hf : rowFit fs d x P V)
    (hps : ps.length < 4000) (ho : os.length + 1 < 1200)
    (hA : ¬ S.1 35 = -1 → ¬ S.1 2 < nI (szF (S.1 35) 0 fs) + nI (14 + d.1.length + V) → fs.length < 4000 ∧ totF fs + (14 + d.1.length + V) ≤ 16384 ∧ ∀ S', S'.1 24 = S.1 24 → S'.1 37 = S.1 37 + nI (14 + d.1.length + V) → Copied S S' fs ps rs os i (plR r.1 rs) (14 + d.1.length + V) (S.1 35) (recOf x P (14 + d.1.length + V)) d sv → okM m g (k ()) S' Q)
    (hB : S.1 35 = -1 → ¬ S.1 24 = -1 ∧ fs.length < 4000 ∧ totF fs + (14 + d.1.length + V) ≤ 16384 ∧ ∀ S', S'.1 24 = S.1 24 + 1 → S'.1 37 = S.1 37 + nI (14 + d.1.length + V) → Copied S S' fs ps rs [] i (plR r.1 rs) (14 + d.1.length + V) (S.1 24) (recOf x P (14 + d.1.length + V)) d sv → okM m g (k ()) S' Q)
    (hC : ¬ S.1 35 = -1 → S.1 2 < nI (szF (S.1 35) 0 fs) + nI (14 + d.1.length + V) → ¬ S.1 24 = -1 ∧ (fs.length < 4000 ∧ totF fs + (hiC os).length ≤ 16384) ∧ (SrtF (appF (S.1 35) 1 (hiC os) fs sv').1 ∧ (appF (S.1 35) 1 (hiC os) fs sv').1.length < 4000 ∧ totF (appF (S.1 35) 1 (hiC os) fs sv').1 + (14 + d.1.length + V) ≤ 16384) ∧ ∃ x', rowFit (appF (S.1 35) 1 (hiC os) fs sv').1 d x' P V ∧ ∀ S', S'.1 24 = S.1 24 + 1 → S'.1 37 = (S.1 37 + nI (hiC os).length) + nI (14 + d.1.length + V) → Copied S S' (appF (S.1 35) 1 (hiC os) fs sv').1 (ps ++ [(S.1 35, 1, nI (hiC os).length)]) rs [] i (plR r.1 rs) (14 + d.1.length + V) (S.1 24) (recOf x' P (14 + d.1.length + V)) d sv → okM m g (k ()) S' Q) : okM m g (bd (X9_copies m z) k) S Q := by
  subst hz
  refine oM_bd ?_
  unfold X9_copies
  obtain ⟨e1, e2, e3⟩ := rcb_fit hF hf
  have fresh : ∀ (T : MS) (fs1 : List AF) (ps1 : List AV) (x' : AF), T.1 35 = -1 → T.1 24 = S.1 24 → ¬ S.1 24 = -1 → RepF T fs1 → SrtF fs1 → RepP T ps1 → ps1.length < 4100 → RepR T rs → drOk T → oLen T → fs1.length < 4000 → totF fs1 + (14 + d.1.length + V) ≤ 16384 → rowFit fs1 d x' P V → (∀ S', S'.1 24 = S.1 24 + 1 → S'.1 37 = T.1 37 + nI (14 + d.1.length + V) → Copied T S' fs1 ps1 rs [] i (plR r.1 rs) (14 + d.1.length + V) (S.1 24) (recOf x' P (14 + d.1.length + V)) d sv → okM m g (k ()) S' Q) → okM m g (X9_copies_b47 m (nI i) (nI (plR r.1 rs)) (nI (14 + d.1.length + V))) T (fun v S1 => okM m g (k v) S1 Q) := by
    intro T fs1 ps1 x' t35 t24 hne TF TS TP hpl TR TD TO hfl htt hfit hk
    unfold X9_copies_b47
    refine oM_gI hM (oM_itF (fun q => q t35) (oM_gI hM (oM_pI hM (oM_gI hM (oM_pI hM (oM_pI hM ?_))))))
    generalize hU : upI (upI (upI T 35 (T.1 24)) 24 ((upI T 35 (T.1 24)).1 24 + 1)) 53 0 = U
    have fU : mfr [24, 35, 53] [] T U := by
      rw [← hU]
      exact mfr_tr (mfr_tr (mfr_I (by decide)) (mfr_I (by decide))) (mfr_I (by decide))
    have U35 : U.1 35 = S.1 24 := by
      rw [← hU, ← t24]
      rfl
    have U24 : U.1 24 = S.1 24 + 1 := by
      rw [← hU, ← t24]
      rfl
    have U53 : U.1 53 = 0 := by
      rw [← hU]
      rfl
    have OU : RepO U [] := by
      refine ⟨⟨U53, by decide⟩, ?_, fun i r hr => by cases hr⟩
      unfold oLen
      rw [fU.2 22 (by decide), fU.2 23 (by decide), fU.2 24 (by decide), fU.2 25 (by decide), fU.2 26 (by decide)]
      exact TO
    refine m_c78 (sv := sv) hM (repF_fr TF fU (by decide) (by decide) (by decide) (by decide) (by decide) (by decide)) TS (repP_fr TP fU (by decide) (by decide) (by decide) (by decide)) (repR_fr TR fU (by decide) (fun q _ _ => List.not_mem_nil)) OU (drOk_fr TD fU (by decide)) hd hfit (by decide) U35 hfl hpl htt rfl (fun S' r1 r2 r3 r4 r5 r6 r7 r8 => hk S' ?_ ?_ ⟨r1, r2, r3, r4, r6, ?_, r7, mfr_tr (mfr_mono fU (by decide) (by decide)) (mfr_mono r8 (by decide) (by decide))⟩)
    · rw [r8.1 24 (by decide)]
      exact U24
    · rw [r5, fU.1 37 (by decide)]
    · rw [r8.1 35 (by decide)]
      exact U35
  refine oM_ck hM (m_entryOf hM hR hL hr rfl (oM_ck hM (m_recordBytes hM hR hd rfl (oM_gI hM ?_))))
  rw [e1]
  by_cases c : S.1 35 = -1
  · obtain ⟨b0, b1, b2, b3⟩ := hB c
    exact oM_itT c (fresh S fs ps x c rfl b0 hF hS hP (by omega) hR hD hoL b1 b2 hf b3)
  · refine oM_itF c (oM_gI hM (oM_ck hM (m_sizeOf hM hF hS (oM_gI hM ?_))))
    by_cases c2 : S.1 2 < nI (szF (S.1 35) 0 fs) + nI (14 + d.1.length + V)
    · obtain ⟨b0, ⟨b1, b2⟩, ⟨b3, b4, b5⟩, x', b6, b7⟩ := hC c c2
      refine oM_itF (Int32.not_le.mpr c2) (oM_ck hM (m_hints (sv := sv') hM hF hP (hO c) hD b1 (by omega) b2 (fun S1 r1 r2 r3 r4 r5 => oM_pI hM ?_)))
      have f6 : mfr [35] [] S1 (upI S1 35 (-1)) := mfr_I (by decide)
      have f7 : mfr [4, 8, 12, 14, 35, 37] [1, 2, 3, 4, 5, 6, 7, 8] S (upI S1 35 (-1)) := mfr_tr (mfr_mono r5 (by decide) (by decide)) (mfr_mono f6 (by decide) (by decide))
      have o6 : oLen (upI S1 35 (-1)) := by
        unfold oLen
        rw [f7.2 22 (by decide), f7.2 23 (by decide), f7.2 24 (by decide), f7.2 25 (by decide), f7.2 26 (by decide)]
        exact hoL
      refine fresh (upI S1 35 (-1)) _ _ x' rfl (f7.1 24 (by decide)) b0 (repF_fr r1 f6 (by decide) (by decide) (by decide) (by decide) (by decide) (by decide)) b3 (repP_fr r2 f6 (by decide) (by decide) (by decide) (by decide)) (by rw [List.length_append, List.length_singleton]; omega) (repR_fr hR f7 (by decide) (fun q u1 u2 => by simp only [List.mem_cons, List.not_mem_nil, or_false]; omega)) (drOk_fr r4 f6 (by decide)) o6 b4 b5 b6 (fun S' s1 s2 s3 => b7 S' s1 ?_ ?_)
      · rw [s2]
        show S1.1 37 + _ = _
        rw [r3]
      · obtain ⟨t1, t2, t3, t4, t5, t6, t7, t8⟩ := s3
        exact ⟨t1, t2, t3, t4, t5, t6, t7, mfr_tr (mfr_mono f7 (by decide) (by decide)) t8⟩
    · obtain ⟨b1, b2, b3⟩ := hA c c2
      refine oM_itT (Int32.not_lt.mp c2) ?_
      unfold X9_copies_b47
      refine oM_gI hM (oM_itT c ?_)
      exact m_c78 (sv := sv) hM hF hS hP hR (hO c) hD hd hf ho rfl b1 (by omega) b2 rfl (fun S' r1 r2 r3 r4 r5 r6 r7 r8 => b3 S' (r8.1 24 (by decide)) r5 ⟨r1, r2, r3, r4, r6, r8.1 35 (by decide), r7, mfr_mono r8 (by decide) (by decide)⟩)
end
