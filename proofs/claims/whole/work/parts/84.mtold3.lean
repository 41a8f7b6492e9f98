/-! the reference: a row is told -/
section
variable {m : Nat} {g : Gh} {S : MS} {α : Type} {rs : List AR}
theorem m_b60 {p q f : Nat} {t : List Int32} {a b c d : Int32} {Q : Unit → MS → Prop} (hM : Mk m g) (hL : dLen S) (hk : keyAt S q f t) (hnt : nrm t) (ht : t.length ≤ 16) (hp : p < 1200) (hq11 : q < 11 ∨ 16 < q) (h1 : 1 ≤ q) (h2 : q ≤ 26) (hq : knd q = 21) (h : ∀ S', S'.1 = S.1 → dLen S' → rowIs S' p (t, a, b, c, d) → (∀ i r, i ≠ p → rowIs S i r → rowIs S' i r) → mfr [] [11, 12, 13, 14, 15, 16] S S' → Q () S') : okM m g (X9_told_b60 m (m + q) (nI f) (nI t.length) a b c d (nI p)) S Q := by
  unfold X9_told_b60
  obtain ⟨l11, lq, hn⟩ := hL
  have hk1 := hk.1
  have loop : ∀ (w i : Nat), t.length - i < w → i ≤ t.length → okM m g (X9_told_b63 w m (m + q) (nI f) (nI t.length) a b c d (nI p) (nI i)) (upA S 11 (wrt (S.2 11) (16 * p) (t.take i))) Q := by
    intro w
    induction w with
    | zero => intro i h; omega
    | succ w ih =>
      intro i hw hi
      show okM m g (X9_told_b63b (X9_told_b63 w) m (m + q) (nI f) (nI t.length) a b c d (nI p) (nI i)) _ _
      unfold X9_told_b63b
      have lt : (t.take i).length = i := by rw [List.length_take]; omega
      have lw := wrt_len (A := S.2 11) (e := 16 * p) (l := t.take i) (by omega)
      by_cases e : i < t.length
      · obtain ⟨v, hv⟩ := some_of_lt e
        have hv2 : ((upA S 11 (wrt (S.2 11) (16 * p) (t.take i))).2 q)[f + i]? = some v := by
          have e3 : (upA S 11 (wrt (S.2 11) (16 * p) (t.take i))).2 q = S.2 q := vu_ne (by omega)
          rw [e3, ← dt_get e, hk.2.2]
          exact hv
        have ib : 16 * nI p + nI i = nI (16 * p + i) := by rw [nI_16, nI_add]
        refine oM_itF (nI_ge e (by omega)) (oM_gR hM (oM_al (q := q) hM (nI_add f i) hv2 (oM_as (q := 11) (i := 16 * p + i) hM ib ?_ ?_) h1 h2 hq))
        · show 16 * p + i < (wrt (S.2 11) (16 * p) (t.take i)).length
          omega
        · rw [nI_1, if_pos rfl]
          have e1 : v.toInt8.toInt32 = v := nrm_get hnt hv
          rw [e1]
          have e : upA (upA S 11 (wrt (S.2 11) (16 * p) (t.take i))) 11 (((upA S 11 (wrt (S.2 11) (16 * p) (t.take i))).2 11).set (16 * p + i) v) = upA S 11 (wrt (S.2 11) (16 * p) (t.take (i + 1))) := by
            show (S.1, va_up (va_up S.2 11 _) 11 ((wrt (S.2 11) (16 * p) (t.take i)).set (16 * p + i) v)) = _
            rw [va_va, wrt_step hv (by omega)]
            rfl
          rw [e]
          exact ih (i + 1) (by omega) (by omega)
      · have et : i = t.length := by omega
        subst et
        rw [List.take_length] at lw ⊢
        have B : ∀ q, 12 ≤ q → q ≤ 16 → p < (S.2 q).length := by
          intro q h1 h2
          have := lq q h1 h2
          omega
        have b12 := B 12 (by decide) (by decide)
        have b13 := B 13 (by decide) (by decide)
        have b14 := B 14 (by decide) (by decide)
        have b15 := B 15 (by decide) (by decide)
        have b16 := B 16 (by decide) (by decide)
        refine oM_itT (nI_le (Nat.le_refl _) (by omega)) (oM_gR hM (oM_as (q := 12) hM rfl b12 (oM_gR hM (oM_as (q := 13) hM rfl b13 (oM_gR hM (oM_as (q := 14) hM rfl b14 (oM_gR hM (oM_as (q := 15) hM rfl b15 (oM_gR hM (oM_as (q := 16) hM rfl b16 (oM_pu ?_)))))))))))
        have G : ∀ S', S' = upA (upA (upA (upA (upA (upA S 11 (wrt (S.2 11) (16 * p) t)) 12 ((S.2 12).set p (nI t.length))) 13 ((S.2 13).set p a)) 14 ((S.2 14).set p b)) 15 ((S.2 15).set p c)) 16 ((S.2 16).set p d) → Q () S' := by
          intro S' hS
          have x11 : S'.2 11 = wrt (S.2 11) (16 * p) t := by rw [hS]; rfl
          have x12 : S'.2 12 = (S.2 12).set p (nI t.length) := by rw [hS]; rfl
          have x13 : S'.2 13 = (S.2 13).set p a := by rw [hS]; rfl
          have x14 : S'.2 14 = (S.2 14).set p b := by rw [hS]; rfl
          have x15 : S'.2 15 = (S.2 15).set p c := by rw [hS]; rfl
          have x16 : S'.2 16 = (S.2 16).set p d := by rw [hS]; rfl
          have xq : ∀ q, 12 ≤ q → q ≤ 16 → ∃ v, S'.2 q = (S.2 q).set p v := by
            intro q q1 q2
            have : q = 12 ∨ q = 13 ∨ q = 14 ∨ q = 15 ∨ q = 16 := by omega
            rcases this with e | e | e | e | e
            · rw [e]; exact ⟨_, x12⟩
            · rw [e]; exact ⟨_, x13⟩
            · rw [e]; exact ⟨_, x14⟩
            · rw [e]; exact ⟨_, x15⟩
            · rw [e]; exact ⟨_, x16⟩
          refine h S' (by rw [hS]; rfl) ⟨?_, ?_, ?_⟩ ⟨ht, ?_, ?_, ?_, ?_, ?_, ?_⟩ ?_ ?_
          · rw [x11, lw, l11]
          · intro q q1 q2
            obtain ⟨v, hv⟩ := xq q q1 q2
            rw [hv, List.length_set]
            exact lq q q1 q2
          · rw [x11]
            exact nrm_wrt hn hnt
          · intro i x hx
            have hx : t[i]? = some x := hx
            have li := lt_of_some hx
            rw [x11, wrt_get (by omega), if_neg (by omega), if_pos (by omega), Nat.add_sub_cancel_left]
            exact hx
          · rw [x12, List.getElem?_set_self b12]
          · rw [x13, List.getElem?_set_self b13]
          · rw [x14, List.getElem?_set_self b14]
          · rw [x15, List.getElem?_set_self b15]
          · rw [x16, List.getElem?_set_self b16]
          · intro i r hip hr
            refine rowIs_up hr (fun s hs => ?_) (fun q q1 q2 => ?_)
            · rw [x11, wrt_get (by omega)]
              by_cases d1 : 16 * i + s < 16 * p
              · rw [if_pos d1]
              · rw [if_neg d1, if_neg (by omega)]
            · obtain ⟨v, hv⟩ := xq q q1 q2
              rw [hv, List.getElem?_set_ne (fun e => hip e.symm)]
          · rw [hS]
            exact mfr_tr (mfr_tr (mfr_tr (mfr_tr (mfr_tr (mfr_A (by decide)) (mfr_A (by decide))) (mfr_A (by decide))) (mfr_A (by decide))) (mfr_A (by decide))) (mfr_A (by decide))
        exact G _ rfl
  have : FU = 1000000 := rfl
  have q := loop FU 0 (by omega) (Nat.zero_le _)
  rw [List.take_zero, wrt_nil] at q
  have e0 : upA S 11 (S.2 11) = S := by
    show (S.1, va_up S.2 11 (S.2 11)) = S
    have : va_up S.2 11 (S.2 11) = S.2 := by
      funext j
      unfold va_up
      split
      · rename_i q
        rw [q]
      · rfl
    rw [this]
  rw [e0] at q
  exact q
theorem telR_some {t : List Int32} {a b c d : Int32} {r : AR} (h : lokR t rs = some r) : telR (plR t rs) a b c d (ensR t rs) = rs.set (plR t rs) (r.1, a, b, c, d) ∧ rs[plR t rs]? = some r ∧ csg r.1 t = 0 := by
  have h' := h
  unfold lokR at h
  have e : ensR t rs = rs := by
    unfold ensR
    rw [h]
  rw [e]
  obtain ⟨q1, q2⟩ := Option.filter_eq_some_iff.mp h
  unfold telR
  rw [q1]
  exact ⟨rfl, rfl, of_decide_eq_true q2⟩
theorem telR_none {t : List Int32} {a b c d : Int32} (h : lokR t rs = none) : telR (plR t rs) a b c d (ensR t rs) = rs.take (plR t rs) ++ (t, a, b, c, d) :: rs.drop (plR t rs) := by
  unfold lokR at h
  have e : ensR t rs = rs.take (plR t rs) ++ (t, 0, 0, 0, 0) :: rs.drop (plR t rs) := by
    unfold ensR
    rw [h]
  have hp := plR_le t rs
  have l1 : (rs.take (plR t rs)).length = plR t rs := by rw [List.length_take]; omega
  have e2 : (rs.take (plR t rs) ++ (t, 0, 0, 0, 0) :: rs.drop (plR t rs))[plR t rs]? = some (t, 0, 0, 0, 0) := by
    rw [List.getElem?_append_right (by omega), l1, Nat.sub_self]
    rfl
  rw [e]
  unfold telR
  rw [e2]
  show (rs.take (plR t rs) ++ (t, 0, 0, 0, 0) :: rs.drop (plR t rs)).set (plR t rs) (t, a, b, c, d) = _
  rw [List.set_append_right _ _ (by omega), l1, Nat.sub_self]
  rfl
theorem m_told {q f : Nat} {t : List Int32} {x y a b c d : Int32} {k : Unit → M α} {Q : α → MS → Prop} (hM : Mk m g) (hR : RepR S rs) (hk : keyAt S q f t) (hnt : nrm t) (ht : t.length ≤ 16) (hx : x = nI f) (hy : y = nI t.length) (hn : rs.length < 1199) (h : ∀ S', RepR S' (telR (plR t rs) a b c d (ensR t rs)) → mfr [33] [11, 12, 13, 14, 15, 16] S S' → okM m g (k ()) S' Q) (hq11 : q < 11 ∨ 16 < q := by decide) (h1 : 1 ≤ q := by decide) (h2 : q ≤ 26 := by decide) (hq : knd q = 21 := by rfl) : okM m g (bd (X9_told m (m + q) x y a b c d) k) S Q := by
  subst hx hy
  refine oM_bd ?_
  unfold X9_told
  have hp := plR_le t rs
  refine oM_ck hM (m_placeOf hM hR hk rfl rfl (oM_ck hM (m_isAt hM hR hk rfl rfl (fun hno => ?_) (fun r hr => ?_) h1 h2 hq)) h1 h2 hq)
  · rw [telR_none hno] at h
    refine oM_itF (by decide) (oM_gI hM ?_)
    rw [hR.1.1]
    have hL := hR.2.1
    have l1 : (rs.take (plR t rs)).length = plR t rs := by rw [List.length_take]; omega
    have loop : ∀ (w i : Nat), i < w → plR t rs ≤ i → i ≤ rs.length → okM m g (X9_told_b27 w m (m + q) (nI f) (nI t.length) a b c d (nI (plR t rs)) (nI i)) (shrS S i rs.length) (fun v S1 => okM m g (k v) S1 Q) := by
      intro w
      induction w with
      | zero => intro i h; omega
      | succ w ih =>
        intro i hw hi1 hi2
        show okM m g (X9_told_b27b (X9_told_b27 w) m (m + q) (nI f) (nI t.length) a b c d (nI (plR t rs)) (nI i)) _ _
        unfold X9_told_b27b
        by_cases e : i = plR t rs
        · refine oM_itT (nI_le (by omega) (by omega)) (oM_gI hM (oM_pI hM ?_))
          rw [← e] at h l1 ⊢
          have hL2 : dLen (shrS S i rs.length) := shrS_len hL hi2 (by omega)
          have hk2 : keyAt (shrS S i rs.length) q f t := by
            unfold keyAt
            have e3 : (shrS S i rs.length).2 q = S.2 q := up6_o hq11
            rw [e3]
            exact hk
          refine m_b60 (S := upI (shrS S i rs.length) 33 ((shrS S i rs.length).1 33 + 1)) hM hL2 hk2 hnt ht (by omega) hq11 h1 h2 hq (fun S' s1 s2 s3 s4 s5 => h S' ⟨⟨?_, ?_⟩, s2, ?_⟩ ?_)
          · rw [s1, List.length_append, List.length_cons, List.length_drop, l1]
            show S.1 33 + 1 = _
            rw [hR.1.1, nI_1]
            congr 1
            omega
          · rw [List.length_append, List.length_cons, List.length_drop, l1]
            omega
          · intro j r hj
            by_cases c1 : j < i
            · rw [List.getElem?_append_left (by omega), List.getElem?_take, if_pos c1] at hj
              exact s4 j r (by omega) (row_shr_lo hL hi2 (by omega) c1 (hR.2.2 j r hj))
            · rw [List.getElem?_append_right (by omega), l1] at hj
              by_cases c2 : j = i
              · rw [c2, Nat.sub_self, List.getElem?_cons_zero] at hj
                cases hj
                rw [c2]
                exact s3
              · obtain ⟨j', ej⟩ : ∃ j', j = j' + 1 := ⟨j - 1, by omega⟩
                rw [show j - i = (j' - i) + 1 by omega, List.getElem?_cons_succ, List.getElem?_drop, show i + (j' - i) = j' by omega] at hj
                have lj := lt_of_some hj
                rw [ej]
                exact s4 (j' + 1) r (by omega) (row_shr_hi hL (by omega) (by omega) lj (hR.2.2 j' r hj))
          · have f1 : mfr [33] [11, 12, 13, 14, 15, 16] S (shrS S i rs.length) := mfr_up6
            exact mfr_tr (mfr_tr f1 (mfr_I (by decide))) (mfr_mono s5 (fun j hj => absurd hj List.not_mem_nil) (fun j hj => hj))
        · obtain ⟨i', ei⟩ : ∃ i', i = i' + 1 := ⟨i - 1, by omega⟩
          subst ei
          have e1 : nI (i' + 1) - 1 = nI i' := nI_subN (a := i' + 1) (b := 1) (by omega)
          have e2 : nI (i' + 1) + (-1) = nI i' := by
            rw [← e1, Int32.sub_eq_add_neg]
          refine oM_itF (nI_ge (by omega) (by omega)) (oM_ck hM (m_moves (a := i') (b := i' + 1) hM (shrS_len hL hi2 (by omega)) e1 rfl (by omega) (by omega) (by omega) ?_))
          rw [shrS_step hL (by omega) (by omega), e2]
          exact ih i' (by omega) (by omega) (by omega)
    have : FU = 1000000 := rfl
    have q := loop FU rs.length (by omega) hp (Nat.le_refl _)
    have e0 : shrS S rs.length rs.length = S := up6_id shr_top (fun q _ _ => shr_top)
    rw [e0] at q
    exact q
  · obtain ⟨t1, t2, t3⟩ := telR_some (a := a) (b := b) (c := c) (d := d) hr
    rw [t1] at h
    have hpl := lt_of_some t2
    have er : r.1 = t := csg0_eq _ _ (row_nrm (hR.2.2 _ r t2) hR.2.1.2.2) hnt t3
    rw [er] at h
    refine oM_itT (by decide) (m_b60 hM hR.2.1 hk hnt ht (by omega) hq11 h1 h2 hq (fun S' s1 s2 s3 s4 s5 => h S' ⟨⟨?_, ?_⟩, s2, ?_⟩ ?_))
    · rw [s1, List.length_set]
      exact hR.1.1
    · rw [List.length_set]
      omega
    · intro j r' hj
      by_cases c2 : j = plR t rs
      · rw [c2, List.getElem?_set_self hpl] at hj
        cases hj
        rw [c2]
        exact s3
      · rw [List.getElem?_set_ne (fun e => c2 e.symm)] at hj
        exact s4 j r' c2 (hR.2.2 j r' hj)
    · exact mfr_mono s5 (fun j hj => absurd hj List.not_mem_nil) (fun j hj => hj)
end
