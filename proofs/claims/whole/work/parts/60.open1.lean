/-! an opening: what it reads off the bytes -/
def told (st ks vs : Int32) : Bool := decide (1 ≤ st ∧ st ≤ 1000000000 ∧ 1 ≤ ks ∧ ks ≤ 16 ∧ -1 ≤ vs ∧ vs ≤ 64)
def rsn (ks vs : Int32) : Nat := 14 + ks.toNatClampNeg + vs.toNatClampNeg
def gmk (l : List Int32) : Bool := decide (8 ≤ l.length) && decide (lg_cmp ((nI l.length).toInt64) ((4 * (bnm l 0).toInt64) + 8) = 0) && decide (bnm l (nI (l.length - 4)) = crcL (l.take (l.length - 4)))
def whl (l : List Int32) (i : Nat) : Bool := decide (i + 14 ≤ l.length) && told (bnm l (nI i + 4)) (bsh l (nI i + 8)) (bnm l (nI i + 10)) && decide (i + rsn (bsh l (nI i + 8)) (bnm l (nI i + 10)) ≤ l.length) && decide (bnm l (nI i) = crcL ((l.drop (i + 4)).take (rsn (bsh l (nI i + 8)) (bnm l (nI i + 10)) - 4)))
def gen (l : List Int32) (i en : Nat) (ds : Int32) : Bool := decide (i + 14 ≤ en) && told (bnm l (nI i)) (bsh l (nI i + 8)) (bnm l (nI i + 10)) && decide (i + 14 + (bsh l (nI i + 8)).toNatClampNeg ≤ en) && decide (¬ bnm l (nI i + 4) < 0) && decide (¬ ds - rsz (bsh l (nI i + 8)) (bnm l (nI i + 10)) < bnm l (nI i + 4))
def ghL (l : List Int32) (en : Nat) (ds : Int32) : Nat → Nat → Int32 → Bool
  | 0, _, _ => false
  | m + 1, i, c => if en ≤ i then decide (c = bnm l 0) else (gen l i en ds && ghL l en ds m (i + 14 + (bsh l (nI i + 8)).toNatClampNeg) (c + 1))
def ghi (l : List Int32) (ds : Int32) : Bool := decide (8 ≤ l.length) && decide (bnm l (nI (l.length - 4)) = crcL (l.take (l.length - 4))) && ghL l (l.length - 4) ds 20000 4 0
theorem liG : (1000000000 : Int32).toInt = 1000000000 := rfl
theorem told_d {st ks vs : Int32} (h : told st ks vs = true) : 1 ≤ ks.toNatClampNeg ∧ ks.toNatClampNeg ≤ 16 ∧ vs.toNatClampNeg ≤ 64 ∧ ks = nI ks.toNatClampNeg ∧ ¬ st < 1 ∧ ¬ vs < -1 := by
  have h := of_decide_eq_true h
  simp only [Int32.le_iff_toInt_le, li1, li16, li64, lim1, liG] at h
  have a : ks.toNatClampNeg = ks.toInt.toNat := rfl
  have b : vs.toNatClampNeg = vs.toInt.toNat := rfl
  refine ⟨by omega, by omega, by omega, nI_cl ?_, ?_, ?_⟩
  · rw [Int32.lt_iff_toInt_lt, Int32.toInt_zero]
    omega
  · rw [Int32.lt_iff_toInt_lt, li1]
    omega
  · rw [Int32.lt_iff_toInt_lt, lim1]
    omega
theorem rsz_told {st ks vs : Int32} (h : told st ks vs = true) : rsz ks vs = nI (rsn ks vs) := by
  have e := (told_d h).2.2.2.1
  have : rsz (nI ks.toNatClampNeg) vs = nI (14 + ks.toNatClampNeg + vs.toNatClampNeg) := rsz_nI
  rw [← e] at this
  exact this
section
variable {n : Nat} {g g' : Gh} {α : Type} {Q : α → Gh → Prop}
theorem k_told {st ks vs : Int32} {k : Int32 → M α} (hk : ok (k (bI (told st ks vs))) g Q) : ok (bd (X8_isTold st ks vs) k) g Q := by
  refine ok_bd ?_
  unfold X8_isTold
  unfold told at hk
  by_cases c1 : st < 1
  · rw [decide_eq_false (fun q => Int32.not_le.mpr c1 q.1)] at hk
    exact ok_itT c1 (ok_pu hk)
  refine ok_itF c1 ?_
  by_cases c2 : 1000000000 < st
  · rw [decide_eq_false (fun q => Int32.not_le.mpr c2 q.2.1)] at hk
    exact ok_itT c2 (ok_pu hk)
  refine ok_itF c2 ?_
  by_cases c3 : ks < 1
  · rw [decide_eq_false (fun q => Int32.not_le.mpr c3 q.2.2.1)] at hk
    exact ok_itT c3 (ok_pu hk)
  refine ok_itF c3 ?_
  by_cases c4 : 16 < ks
  · rw [decide_eq_false (fun q => Int32.not_le.mpr c4 q.2.2.2.1)] at hk
    exact ok_itT c4 (ok_pu hk)
  refine ok_itF c4 ?_
  by_cases c5 : vs < -1
  · rw [decide_eq_false (fun q => Int32.not_le.mpr c5 q.2.2.2.2.1)] at hk
    exact ok_itT c5 (ok_pu hk)
  refine ok_itF c5 ?_
  by_cases c6 : 64 < vs
  · rw [decide_eq_false (fun q => Int32.not_le.mpr c6 q.2.2.2.2.2)] at hk
    exact ok_itT c6 (ok_pu hk)
  rw [decide_eq_true ⟨Int32.not_lt.mp c1, Int32.not_lt.mp c2, Int32.not_lt.mp c3, Int32.not_lt.mp c4, Int32.not_lt.mp c5, Int32.not_lt.mp c6⟩] at hk
  exact ok_itF c6 (ok_pu hk)
theorem k_isGoodMark {c : Nat} {k : Int32 → M α} (hc : qk g c = 5) (hk : ok (k (bI (gmk (qB g c)))) g Q) : ok (bd (X6_isGoodMark c) k) g Q := by
  refine ok_lenB hc (fun hl => ok_bd ?_)
  unfold X6_isGoodMark
  refine ok_ck hc (ok_bsize hc (ok_bpu ?_))
  unfold gmk at hk
  by_cases c1 : 8 ≤ (qB g c).length
  · have e4 : nI (qB g c).length - 4 = nI ((qB g c).length - 4) := nI_subN (b := 4) (by omega)
    rw [e4]
    rw [decide_eq_true c1, Bool.true_and] at hk
    refine ok_itF (nI_nlt (b := 4) (by omega) (by omega)) (ok_ck hc (ok_bsize hc (ok_ck hc (ok_bnm hc ?_))))
    by_cases c2 : lg_cmp ((nI (qB g c).length).toInt64) ((4 * (bnm (qB g c) 0).toInt64) + 8) = 0
    · rw [decide_eq_true c2, Bool.true_and] at hk
      refine ok_itF (fun q => q c2) (ok_ck hc (ok_bnm hc (ok_ck hc (ok_bsum (f := 0) (t := (qB g c).length - 4) hc rfl rfl (Nat.zero_le _) (by omega) ?_))))
      rw [List.drop_zero, Nat.sub_zero]
      by_cases c3 : bnm (qB g c) (nI ((qB g c).length - 4)) = crcL ((qB g c).take ((qB g c).length - 4))
      · rw [decide_eq_true c3] at hk
        exact ok_itF (fun q => q c3) (ok_pu hk)
      · rw [decide_eq_false c3] at hk
        exact ok_itT c3 (ok_pu hk)
    · rw [decide_eq_false c2, Bool.false_and] at hk
      exact ok_itT c2 (ok_pu hk)
  · rw [decide_eq_false c1, Bool.false_and, Bool.false_and] at hk
    refine ok_itT ?_ (ok_pu hk)
    show nI (qB g c).length - nI 4 < nI 4
    rw [Int32.lt_iff_toInt_lt, nI_subI (by omega) (by omega), nI_toInt (by omega)]
    omega
theorem k_isWhole {c i : Nat} {k : Int32 → M α} (hc : qk g c = 5) (hi : i ≤ 60000) (hk : ok (k (bI (whl (qB g c) i))) g Q) : ok (bd (X6_isWhole c (nI i)) k) g Q := by
  refine ok_lenB hc (fun hl => ok_bd ?_)
  unfold X6_isWhole
  refine ok_ck hc (ok_bsize hc ?_)
  unfold whl at hk
  have e14 : nI i + 14 = nI (i + 14) := nI_add i 14
  rw [e14]
  by_cases c1 : i + 14 ≤ (qB g c).length
  · rw [decide_eq_true c1, Bool.true_and] at hk
    refine ok_itT (nI_le c1 (by omega)) (ok_ck hc (ok_bsh hc (ok_ck hc (ok_bnm hc (ok_ck hc (ok_bnm hc (k_told ?_)))))))
    cases ht : told (bnm (qB g c) (nI i + 4)) (bsh (qB g c) (nI i + 8)) (bnm (qB g c) (nI i + 10)) with
    | false =>
      rw [ht, Bool.false_and, Bool.false_and] at hk
      exact ok_itF (fun q => q rfl) (ok_pu hk)
    | true =>
      rw [ht, Bool.true_and] at hk
      have er := rsz_told ht
      obtain ⟨t1, t2, t3, t4⟩ := told_d ht
      refine ok_itT (by decide) (ok_bpu (ok_bpu (ok_ck hc (ok_bsize hc ?_))))
      show ok (it (nI (qB g c).length < nI i + rsz (bsh (qB g c) (nI i + 8)) (bnm (qB g c) (nI i + 10))) _ _) g _
      rw [er, nI_add]
      have hN : rsn (bsh (qB g c) (nI i + 8)) (bnm (qB g c) (nI i + 10)) ≤ 94 ∧ 15 ≤ rsn (bsh (qB g c) (nI i + 8)) (bnm (qB g c) (nI i + 10)) := by
        unfold rsn
        omega
      have eE : nI i + (14 + bsh (qB g c) (nI i + 8) + imx (bnm (qB g c) (nI i + 10)) 0) = nI (i + rsn (bsh (qB g c) (nI i + 8)) (bnm (qB g c) (nI i + 10))) := by
        have q := er
        unfold rsz at q
        rw [q, nI_add]
      generalize rsn (bsh (qB g c) (nI i + 8)) (bnm (qB g c) (nI i + 10)) = N at *
      by_cases c2 : i + N ≤ (qB g c).length
      · rw [decide_eq_true c2, Bool.true_and] at hk
        refine ok_itF (nI_nlt c2 (by omega)) (ok_ck hc (ok_bnm hc (ok_ck hc (ok_bsum (f := i + 4) (t := i + N) hc (nI_add i 4) eE (by omega) c2 ?_))))
        rw [show i + N - (i + 4) = N - 4 by omega]
        by_cases c3 : bnm (qB g c) (nI i) = crcL (((qB g c).drop (i + 4)).take (N - 4))
        · rw [decide_eq_true c3] at hk
          exact ok_itF (fun q => q c3) (ok_pu hk)
        · rw [decide_eq_false c3] at hk
          exact ok_itT c3 (ok_pu hk)
      · rw [decide_eq_false c2, Bool.false_and] at hk
        exact ok_itT (nI_lt (by omega) (by omega)) (ok_pu hk)
  · rw [decide_eq_false c1, Bool.false_and, Bool.false_and, Bool.false_and] at hk
    exact ok_itF (nI_ge (by omega) (by omega)) (ok_pu hk)
theorem k_isGoodEntry {c i en : Nat} {ds : Int32} {k : Int32 → M α} (hc : qk g c = 5) (hi : i ≤ 60000) (he : en ≤ 60000) (hk : ok (k (bI (gen (qB g c) i en ds))) g Q) : ok (bd (X6_isGoodEntry c (nI i) (nI en) ds) k) g Q := by
  refine ok_bd ?_
  unfold X6_isGoodEntry
  unfold gen at hk
  have e14 : nI i + 14 = nI (i + 14) := nI_add i 14
  rw [e14]
  by_cases c1 : i + 14 ≤ en
  · rw [decide_eq_true c1, Bool.true_and] at hk
    refine ok_itT (nI_le c1 (by omega)) (ok_ck hc (ok_bnm hc (ok_ck hc (ok_bsh hc (ok_ck hc (ok_bnm hc (ok_ck hc (ok_bnm hc (k_told ?_)))))))))
    cases ht : told (bnm (qB g c) (nI i)) (bsh (qB g c) (nI i + 8)) (bnm (qB g c) (nI i + 10)) with
    | false =>
      rw [ht] at hk
      simp only [Bool.false_and] at hk
      exact ok_itT rfl (ok_pu hk)
    | true =>
      rw [ht, Bool.true_and] at hk
      obtain ⟨t1, t2, t3, t4, -⟩ := told_d ht
      refine ok_itF (by decide) ?_
      have ek : nI (i + 14) + bsh (qB g c) (nI i + 8) = nI (i + 14 + (bsh (qB g c) (nI i + 8)).toNatClampNeg) := by
        exact (congrArg (fun x => nI (i + 14) + x) t4).trans (nI_add _ _)
      rw [ek]
      by_cases c2 : i + 14 + (bsh (qB g c) (nI i + 8)).toNatClampNeg ≤ en
      · rw [decide_eq_true c2, Bool.true_and] at hk
        refine ok_itF (nI_nlt c2 (by omega)) ?_
        by_cases c3 : bnm (qB g c) (nI i + 4) < 0
        · rw [decide_eq_false (fun q => q c3), Bool.false_and] at hk
          exact ok_itT c3 (ok_pu hk)
        · rw [decide_eq_true c3, Bool.true_and] at hk
          refine ok_itF c3 (ok_bpu ?_)
          show ok (it (ds - rsz (bsh (qB g c) (nI i + 8)) (bnm (qB g c) (nI i + 10)) < bnm (qB g c) (nI i + 4)) _ _) g _
          by_cases c4 : ds - rsz (bsh (qB g c) (nI i + 8)) (bnm (qB g c) (nI i + 10)) < bnm (qB g c) (nI i + 4)
          · rw [decide_eq_false (fun q => q c4)] at hk
            exact ok_itT c4 (ok_pu hk)
          · rw [decide_eq_true c4] at hk
            exact ok_itF c4 (ok_pu hk)
      · rw [decide_eq_false c2] at hk
        simp only [Bool.false_and] at hk
        exact ok_itT (nI_lt (by omega) (by omega)) (ok_pu hk)
  · rw [decide_eq_false c1] at hk
    simp only [Bool.false_and] at hk
    exact ok_itF (nI_ge (by omega) (by omega)) (ok_pu hk)
theorem gh_loop {c en : Nat} {ds : Int32} {Q : Int32 → Gh → Prop} (hc : qk g c = 5) (he : en ≤ 60000) : ∀ (m w i : Nat) (ct : Int32), w < m → 0 < w → en < i + w → i ≤ 60000 → Q (bI (ghL (qB g c) en ds w i ct)) g → ok (X6_isGoodHint_b33 m c ds (nI en) ct (nI i)) g Q := by
  intro m
  induction m with
  | zero => intro w i ct h; omega
  | succ m ih =>
    intro w i ct hw h0 hf hi hq
    show ok (X6_isGoodHint_b33b (X6_isGoodHint_b33 m) c ds (nI en) ct (nI i)) g Q
    unfold X6_isGoodHint_b33b
    cases w with
    | zero => omega
    | succ w =>
      unfold ghL at hq
      by_cases c1 : en ≤ i
      · rw [if_pos c1] at hq
        refine ok_itT (nI_le c1 (by omega)) (ok_ck hc (ok_bnm hc ?_))
        by_cases c2 : ct = bnm (qB g c) 0
        · rw [decide_eq_true c2] at hq
          exact ok_itF (fun q => q c2) (ok_pu hq)
        · rw [decide_eq_false c2] at hq
          exact ok_itT c2 (ok_pu hq)
      · rw [if_neg c1] at hq
        refine ok_itF (nI_ge (by omega) (by omega)) (k_isGoodEntry hc hi he ?_)
        cases hg : gen (qB g c) i en ds with
        | false =>
          rw [hg, Bool.false_and] at hq
          exact ok_itF (fun q => q rfl) (ok_pu hq)
        | true =>
          rw [hg, Bool.true_and] at hq
          have hg2 := hg
          unfold gen at hg2
          simp only [Bool.and_eq_true] at hg2
          have ht := hg2.1.1.1.2
          have h2 := of_decide_eq_true hg2.1.1.2
          obtain ⟨t1, t2, t3, t4, -⟩ := told_d ht
          refine ok_itT (by decide) (ok_ck hc (ok_bsh hc (ok_bpu ?_)))
          have ek : nI i + (14 + bsh (qB g c) (nI i + 8)) = nI (i + 14 + (bsh (qB g c) (nI i + 8)).toNatClampNeg) := by
            rw [Nat.add_assoc, ← nI_add, ← nI_add]
            exact congrArg (fun x => nI i + (14 + x)) t4
          rw [ek]
          exact ih w _ _ (by omega) (by omega) (by omega) (by omega) hq
theorem k_isGoodHint {c : Nat} {ds : Int32} {k : Int32 → M α} (hc : qk g c = 5) (hl2 : (qB g c).length ≤ 19000) (hk : ok (k (bI (ghi (qB g c) ds))) g Q) : ok (bd (X6_isGoodHint c ds) k) g Q := by
  refine ok_bd ?_
  unfold X6_isGoodHint
  refine ok_ck hc (ok_bsize hc (ok_bpu ?_))
  unfold ghi at hk
  by_cases c1 : 8 ≤ (qB g c).length
  · have e4 : nI (qB g c).length - 4 = nI ((qB g c).length - 4) := nI_subN (b := 4) (by omega)
    rw [e4]
    rw [decide_eq_true c1, Bool.true_and] at hk
    refine ok_itF (nI_nlt (b := 4) (by omega) (by omega)) (ok_ck hc (ok_bnm hc (ok_ck hc (ok_bsum (f := 0) (t := (qB g c).length - 4) hc rfl rfl (Nat.zero_le _) (by omega) ?_))))
    rw [List.drop_zero, Nat.sub_zero]
    by_cases c3 : bnm (qB g c) (nI ((qB g c).length - 4)) = crcL ((qB g c).take ((qB g c).length - 4))
    · rw [decide_eq_true c3, Bool.true_and] at hk
      have : FU = 1000000 := rfl
      exact ok_itT c3 (gh_loop hc (by omega) FU 20000 4 0 (by omega) (by omega) (by omega) (by omega) hk)
    · rw [decide_eq_false c3, Bool.false_and] at hk
      exact ok_itF c3 (ok_pu hk)
  · rw [decide_eq_false c1, Bool.false_and, Bool.false_and] at hk
    refine ok_itT ?_ (ok_pu hk)
    show nI (qB g c).length - nI 4 < nI 4
    rw [Int32.lt_iff_toInt_lt, nI_subI (by omega) (by omega), nI_toInt (by omega)]
    omega
end
