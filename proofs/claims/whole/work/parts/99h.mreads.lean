/-! the reference: hints are looked at, and read -/
def N2 (l : List Int32) (j : Nat) : Int32 := n2 (l.getD j 0) (l.getD (j + 1) 0)
theorem bsh_at {l : List Int32} {j : Nat} (h : j + 1 < l.length) (hl : l.length < 2 ^ 31) : bsh l (nI j) = ((l.getD j 0 &&& 255) <<< ((8 : Int32) &&& 31)) ||| (l.getD (j + 1) 0 &&& 255) := by
  unfold bsh
  have e1 : nI j + 1 = nI (j + 1) := nI_1 j
  rw [e1, bat_lt (by omega) hl, bat_lt (by omega) hl, and255, and255]
theorem N2_k {l : List Int32} {j k : Nat} (h : j + 1 < l.length) (hl : l.length < 2 ^ 31) (hk : k ≤ 16) : N2 l j = nI k ↔ bsh l (nI j) = nI k := by
  rw [bsh_at h hl]
  exact n2_eq hk
theorem N2_told {l : List Int32} {j : Nat} {st vs : Int32} (h : j + 1 < l.length) (hl : l.length < 2 ^ 31) : told st (N2 l j) vs = told st (bsh l (nI j)) vs ∧ (told st (bsh l (nI j)) vs = true → N2 l j = bsh l (nI j)) := by
  have e1 : told st (N2 l j) vs = true → N2 l j = bsh l (nI j) := by
    intro q
    obtain ⟨a1, a2, a3, a4, _⟩ := told_d q
    exact a4.trans ((N2_k h hl a2).mp a4).symm
  have e2 : told st (bsh l (nI j)) vs = true → N2 l j = bsh l (nI j) := by
    intro q
    obtain ⟨a1, a2, a3, a4, _⟩ := told_d q
    exact ((N2_k h hl a2).mpr a4).trans a4.symm
  refine ⟨?_, e2⟩
  cases c1 : told st (N2 l j) vs with
  | true =>
    have := e1 c1
    rw [this] at c1
    exact c1.symm
  | false =>
    cases c2 : told st (bsh l (nI j)) vs with
    | false => rfl
    | true =>
      have := e2 c2
      rw [this, c2] at c1
      cases c1
/-- the rows, once an entry is counted -/
def opR (t : List Int32) (a b c d : Int32) (rs : List AR) : List AR := match (ensR t rs)[plR t rs]? with
  | some r => if d < r.2.2.2.2 then ensR t rs else telR (plR t rs) a b c d (ensR t rs)
  | none => ensR t rs
theorem opRd_eq {t : List Int32} {a b c d : Int32} {V : VC} : opRd t a b c d V = si906 (imx V.2.2.2.1.2.2.2.2 d) (sRr (opR t a b c d V.2.1) V) := rfl
theorem opR_some {t : List Int32} {a b c d : Int32} {rs : List AR} {r : AR} (h : lokR t rs = some r) : opR t a b c d rs = if d < r.2.2.2.2 then rs else telR (plR t rs) a b c d (ensR t rs) := by
  have e : ensR t rs = rs := by
    unfold lokR at h
    unfold ensR
    rw [h]
  unfold opR
  rw [e, (Option.filter_eq_some_iff.mp h).1]
theorem opR_none {t : List Int32} {a b c d : Int32} {rs : List AR} (h : lokR t rs = none) (hd : ¬ d < 0) : opR t a b c d rs = telR (plR t rs) a b c d (ensR t rs) := by
  have e : ensR t rs = rs.take (plR t rs) ++ (t, 0, 0, 0, 0) :: rs.drop (plR t rs) := by
    unfold lokR at h
    unfold ensR
    rw [h]
  have e2 : (ensR t rs)[plR t rs]? = some (t, 0, 0, 0, 0) := by
    rw [e, insA_get (plR_le t rs), if_neg (Nat.lt_irrefl _), if_pos rfl]
  unfold opR
  rw [e2]
  dsimp only
  rw [if_neg hd]
section
variable {m : Nat} {g : Gh} {S : MS} {α : Type} {rs : List AR} {fs : List AF} {ps : List AV} {V : VC}
theorem m_isTold {st ks vs : Int32} {k : Int32 → M α} {Q : α → MS → Prop} (hk : okM m g (k (bI (told st ks vs))) S Q) : okM m g (bd (X9_isTold st ks vs) k) S Q := by
  refine oM_bd ?_
  unfold X9_isTold
  unfold told at hk
  by_cases c1 : st < 1
  · rw [decide_eq_false (fun q => Int32.not_le.mpr c1 q.1)] at hk
    exact oM_itT c1 (oM_pu hk)
  refine oM_itF c1 ?_
  by_cases c2 : 1000000000 < st
  · rw [decide_eq_false (fun q => Int32.not_le.mpr c2 q.2.1)] at hk
    exact oM_itT c2 (oM_pu hk)
  refine oM_itF c2 ?_
  by_cases c3 : ks < 1
  · rw [decide_eq_false (fun q => Int32.not_le.mpr c3 q.2.2.1)] at hk
    exact oM_itT c3 (oM_pu hk)
  refine oM_itF c3 ?_
  by_cases c4 : 16 < ks
  · rw [decide_eq_false (fun q => Int32.not_le.mpr c4 q.2.2.2.1)] at hk
    exact oM_itT c4 (oM_pu hk)
  refine oM_itF c4 ?_
  by_cases c5 : vs < -1
  · rw [decide_eq_false (fun q => Int32.not_le.mpr c5 q.2.2.2.2.1)] at hk
    exact oM_itT c5 (oM_pu hk)
  refine oM_itF c5 ?_
  by_cases c6 : 64 < vs
  · rw [decide_eq_false (fun q => Int32.not_le.mpr c6 q.2.2.2.2.2)] at hk
    exact oM_itT c6 (oM_pu hk)
  rw [decide_eq_true ⟨Int32.not_lt.mp c1, Int32.not_lt.mp c2, Int32.not_lt.mp c3, Int32.not_lt.mp c4, Int32.not_lt.mp c5, Int32.not_lt.mp c6⟩] at hk
  exact oM_itF c6 (oM_pu hk)
theorem m_counts {q f : Nat} {t : List Int32} {x y a b c d : Int32} {k : Unit → M α} {Q : α → MS → Prop} (hM : Mk m g) (hR : RepR S rs) (hk : keyAt S q f t) (hnt : nrm t) (ht : t.length ≤ 16) (hx : x = nI f) (hy : y = nI t.length) (hn : rs.length < 1199) (hd : ¬ d < 0) (h : ∀ S', RepR S' (opR t a b c d rs) → mfr [33] [11, 12, 13, 14, 15, 16] S S' → okM m g (k ()) S' Q) (hq11 : q < 11 ∨ 16 < q := by decide) (h1 : 1 ≤ q := by decide) (h2 : q ≤ 26 := by decide) (hq : knd q = 21 := by rfl) : okM m g (bd (X9_counts m (m + q) x y a b c d) k) S Q := by
  refine oM_bd ?_
  unfold X9_counts X9_counts_b34
  refine oM_ck hM (m_placeOf hM hR hk hx hy (oM_ck hM (m_isAt hM hR hk hx hy (fun e => ?_) (fun r e => ?_) h1 h2 hq)) h1 h2 hq)
  · rw [opR_none e hd] at h
    exact oM_itT rfl (oM_ck hM (m_told hM hR hk hnt ht hx hy hn (fun S' r1 r2 => oM_pu (h S' r1 r2)) hq11 h1 h2 hq))
  · rw [opR_some e] at h
    obtain ⟨b1, b2, b3, b4, b5, b6, b7⟩ := hR.2.2 _ r (Option.filter_eq_some_iff.mp e).1
    refine oM_itF (by decide) (oM_gR hM (oM_al (q := 16) hM rfl b7 ?_))
    by_cases c1 : d < r.2.2.2.2
    · rw [if_pos c1] at h
      exact oM_itF (Int32.not_le.mpr c1) (oM_pu (h S hR mfr_refl))
    · rw [if_neg c1] at h
      exact oM_itT (Int32.not_lt.mp c1) (oM_ck hM (m_told hM hR hk hnt ht hx hy hn (fun S' r1 r2 => oM_pu (h S' r1 r2)) hq11 h1 h2 hq))
theorem m_num2f {Q : α → MS → Prop} {f j : Nat} {x : AF} {y : Int32} {k : Int32 → M α} (hM : Mk m g) (hR : RepF S fs) (hf : fs[f]? = some x) (hj : j + 1 < x.2.2.1.length) (hy : y = nI (totF (fs.take f) + j)) (h : okM m g (k (N2 x.2.2.1 j)) S Q) : okM m g (bd (X9_number2 (m + 1) y) k) S Q := by
  have gd : ∀ i, i < x.2.2.1.length → (S.2 1)[totF (fs.take f) + i]? = some (x.2.2.1.getD i 0) := by
    intro i hi
    refine dsk_get hR hf ?_
    rw [List.getD_eq_getElem?_getD, List.getElem?_eq_getElem hi]
    rfl
  exact m_number2 (q := 1) hM hy (gd j (by omega)) (gd (j + 1) (by omega)) h
theorem bI_0 {b : Bool} : bI b = 0 ↔ b = false := by
  cases b
  · exact ⟨fun _ => rfl, fun _ => rfl⟩
  · exact ⟨fun h => absurd h (by decide), fun h => by cases h⟩
/-- the place that a hint tells, in longs -/
theorem lg_place {p b d : Int32} (hb : 0 ≤ b.toInt ∧ b.toInt ≤ 100) (hd : 0 ≤ d.toInt ∧ d.toInt ≤ 20000) (hp : ¬ p < 0) : lg_cmp (p.toInt64 + b.toInt64) d.toInt64 ≤ 0 ↔ ¬ d - b < p := by
  have p1 : p.toInt < 2 ^ 31 := Int32.toInt_lt _
  rw [Int32.lt_iff_toInt_lt, Int32.toInt_zero] at hp
  rw [lg_cmp_le, Int64.le_iff_toInt_le, Int64.toInt_add, Int32.toInt_toInt64, Int32.toInt_toInt64, Int32.toInt_toInt64, Int.bmod_eq_of_le (by omega) (by omega), Int32.lt_iff_toInt_lt, Int32.toInt_sub, Int.bmod_eq_of_le (by omega) (by omega)]
  omega
theorem m_isGoodHint {i D : Nat} {x : AF} {y z : Int32} {k : Int32 → M α} {Q : α → MS → Prop} (hM : Mk m g) (hF : RepF S fs) (hf : fs[i]? = some x) (hy : y = nI i) (hz : z = nI D) (hD : D ≤ 20000) (h : okM m g (k (if ghi x.2.2.1 (nI D) = true then 1 else 0)) S Q) : okM m g (bd (X9_isGoodHint m y z) k) S Q := by
  subst hy hz
  refine oM_bd ?_
  unfold X9_isGoodHint
  have hi := lt_of_some hf
  obtain ⟨n1, n2', n3⟩ := rf_n hF hf
  have eT := totF_take hf
  have hT := hF.1.2.2.1
  have : FU = 1000000 := rfl
  unfold ghi at h
  refine oM_ck hM (m_startOf hM hF rfl (by omega) (oM_gR hM (oM_al (q := 4) hM rfl n3 (oM_bpu (oM_gR hM (oM_al (q := 4) hM rfl n3 ?_))))))
  by_cases c1 : 8 ≤ x.2.2.1.length
  · rw [decide_eq_true c1, Bool.true_and] at h
    have e4 : nI (totF (fs.take i)) + nI x.2.2.1.length - 4 = nI (totF (fs.take i) + (x.2.2.1.length - 4)) := by
      rw [nI_add]
      have := nI_subN (a := totF (fs.take i) + x.2.2.1.length) (b := 4) (by omega)
      rw [show totF (fs.take i) + x.2.2.1.length - 4 = totF (fs.take i) + (x.2.2.1.length - 4) by omega] at this
      exact this
    rw [e4]
    refine oM_itF (nI_nlt (b := 8) c1 (by omega)) (oM_gR hM (m_num4f hM hF hf (by omega) rfl (oM_gR hM (m_sumf (a := 0) hM hF hf (Nat.zero_le _) (by omega) rfl rfl ?_))))
    rw [Nat.sub_zero, List.drop_zero]
    by_cases c3 : bnm x.2.2.1 (nI (x.2.2.1.length - 4)) = crcL (x.2.2.1.take (x.2.2.1.length - 4))
    · rw [decide_eq_true c3, Bool.true_and] at h
      refine oM_itT c3 (oM_bpu ?_)
      have loop : ∀ (u w j : Nat) (c : Int32), 0 < u → u < w → x.2.2.1.length < j + u → 4 ≤ j → j ≤ 40000 → okM m g (k (if ghL x.2.2.1 (x.2.2.1.length - 4) (nI D) u j c = true then 1 else 0)) S Q → okM m g (X9_isGoodHint_b61 w m (nI D) (nI (totF (fs.take i))) (nI (totF (fs.take i) + (x.2.2.1.length - 4))) (nI (totF (fs.take i) + j)) c) S (fun v S1 => okM m g (k v) S1 Q) := by
        intro u
        induction u with
        | zero =>
          intro w j c h0
          omega
        | succ u ih =>
          intro w j c h0 hw hj h4 h5 hq
          obtain ⟨w, rfl⟩ : ∃ w', w = w' + 1 := ⟨w - 1, by omega⟩
          show okM m g (X9_isGoodHint_b61b (X9_isGoodHint_b61 w) m (nI D) (nI (totF (fs.take i))) (nI (totF (fs.take i) + (x.2.2.1.length - 4))) (nI (totF (fs.take i) + j)) c) S _
          unfold X9_isGoodHint_b61b
          unfold ghL at hq
          by_cases ce : x.2.2.1.length - 4 ≤ j
          · rw [if_pos ce] at hq
            refine oM_itT (nI_le (by omega) (by omega)) (oM_gR hM (m_num4f hM hF hf (j := 0) (by omega) rfl ?_))
            by_cases cq : c = bnm x.2.2.1 0
            · rw [if_pos (decide_eq_true cq)] at hq
              exact oM_itF (fun q => q cq) (oM_pu hq)
            · rw [if_neg (fun q => cq (of_decide_eq_true q))] at hq
              exact oM_itT cq (oM_pu hq)
          · rw [if_neg ce] at hq
            have es : nI (totF (fs.take i) + (x.2.2.1.length - 4)) - nI (totF (fs.take i) + j) = nI (x.2.2.1.length - 4 - j) := by
              rw [nI_subN (by omega)]
              congr 1
              omega
            rw [es]
            refine oM_itF (nI_ge (by omega) (by omega)) ?_
            unfold gen at hq
            by_cases c14 : j + 14 ≤ x.2.2.1.length - 4
            · rw [decide_eq_true c14, Bool.true_and] at hq
              have ex : ∀ s, nI (totF (fs.take i) + j) + nI s = nI (totF (fs.take i) + (j + s)) := by
                intro s
                rw [nI_add, Nat.add_assoc]
              have ej : ∀ s, nI j + nI s = nI (j + s) := fun s => nI_add j s
              rw [show nI j + 8 = nI (j + 8) from ej 8, show nI j + 10 = nI (j + 10) from ej 10, show nI j + 4 = nI (j + 4) from ej 4] at hq
              refine oM_itT (nI_le (a := 14) (by omega) (by omega)) (oM_gR hM (m_num2f hM hF hf (by omega) (ex 8) (oM_gR hM (m_num4f hM hF hf (by omega) (ex 10) (oM_gR hM (m_num4f hM hF hf (by omega) (ex 4) (oM_gR hM (m_num4f hM hF hf (by omega) rfl (m_isTold ?_)))))))))
              obtain ⟨t1, t2⟩ := N2_told (l := x.2.2.1) (j := j + 8) (st := bnm x.2.2.1 (nI j)) (vs := bnm x.2.2.1 (nI (j + 10))) (by omega) (by omega)
              rw [t1]
              cases ct : told (bnm x.2.2.1 (nI j)) (bsh x.2.2.1 (nI (j + 8))) (bnm x.2.2.1 (nI (j + 10))) with
              | false =>
                rw [ct, Bool.false_and, Bool.false_and, Bool.false_and, Bool.false_and, if_neg (by decide)] at hq
                exact oM_itT rfl (oM_pu hq)
              | true =>
                rw [ct, Bool.true_and] at hq
                obtain ⟨d1, d2, d3, d4, d5, d6⟩ := told_d ct
                have en := t2 ct
                have ez := rsz_told ct
                generalize hK : (bsh x.2.2.1 (nI (j + 8))).toNatClampNeg = K at *
                rw [en, d4]
                refine oM_itF (by decide) ?_
                have e14 : (14 : Int32) + nI K = nI (14 + K) := nI_add 14 K
                rw [e14]
                by_cases cl : j + 14 + K ≤ x.2.2.1.length - 4
                · rw [decide_eq_true cl, Bool.true_and] at hq
                  refine oM_itT (nI_le (by omega) (by omega)) ?_
                  by_cases cp : bnm x.2.2.1 (nI (j + 4)) < 0
                  · rw [decide_eq_false (fun q => q cp), Bool.false_and, Bool.false_and, if_neg (by decide)] at hq
                    exact oM_itT cp (oM_pu hq)
                  · rw [decide_eq_true cp, Bool.true_and] at hq
                    refine oM_itF cp ?_
                    unfold X9_bytesOf
                    refine oM_bpu ?_
                    have er : (14 + nI K) + imx (bnm x.2.2.1 (nI (j + 10))) 0 = rsz (bsh x.2.2.1 (nI (j + 8))) (bnm x.2.2.1 (nI (j + 10))) := by
                      rw [d4]
                      rfl
                    rw [er]
                    have rb : rsn (bsh x.2.2.1 (nI (j + 8))) (bnm x.2.2.1 (nI (j + 10))) ≤ 94 := by
                      unfold rsn
                      rw [hK]
                      omega
                    have lgp := lg_place (p := bnm x.2.2.1 (nI (j + 4))) (b := rsz (bsh x.2.2.1 (nI (j + 8))) (bnm x.2.2.1 (nI (j + 10)))) (d := nI D) (by rw [ez, nI_toInt (by omega)]; omega) (by rw [nI_toInt (by omega)]; omega) cp
                    by_cases cz : nI D - rsz (bsh x.2.2.1 (nI (j + 8))) (bnm x.2.2.1 (nI (j + 10))) < bnm x.2.2.1 (nI (j + 4))
                    · rw [decide_eq_false (fun q => q cz), Bool.false_and, if_neg (by decide)] at hq
                      exact oM_itF (fun q => lgp.mp q cz) (oM_pu hq)
                    · rw [decide_eq_true cz, Bool.true_and] at hq
                      refine oM_itT (lgp.mpr cz) (oM_bpu ?_)
                      rw [ex (14 + K), show j + (14 + K) = j + 14 + K by omega]
                      exact ih w (j + 14 + K) (c + 1) (by omega) (by omega) (by omega) (by omega) (by omega) hq
                · rw [decide_eq_false cl, Bool.false_and, Bool.false_and, Bool.false_and, if_neg (by decide)] at hq
                  exact oM_itF (nI_ge (by omega) (by omega)) (oM_pu hq)
            · rw [decide_eq_false c14, Bool.false_and, Bool.false_and, Bool.false_and, Bool.false_and, Bool.false_and, if_neg (by decide)] at hq
              exact oM_itF (nI_ge (b := 14) (by omega) (by omega)) (oM_pu hq)
      rw [show nI (totF (fs.take i)) + 4 = nI (totF (fs.take i) + 4) from nI_add _ 4]
      exact loop 20000 FU 4 0 (by omega) (by omega) (by omega) (by omega) (by omega) h
    · rw [decide_eq_false c3, Bool.false_and, if_neg (by decide)] at h
      exact oM_itF c3 (oM_pu h)
  · rw [decide_eq_false c1, Bool.false_and, Bool.false_and, if_neg (by decide)] at h
    exact oM_itT (nI_lt (b := 8) (by omega) (by omega)) (oM_pu h)
end
