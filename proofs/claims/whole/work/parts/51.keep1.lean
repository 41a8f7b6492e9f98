/-! the object's own small calls -/
def rcn (r : AR) : Nat := 14 + r.1.length + r.2.2.2.1.toNatClampNeg
theorem clamp_neg {v : Int32} (h : v < 0) : v.toNatClampNeg = 0 := by
  have h2 : v.toNatClampNeg = v.toInt.toNat := rfl
  rw [Int32.lt_iff_toInt_lt, Int32.toInt_zero] at h
  omega
theorem imx0 (v : Int32) : imx v 0 = nI v.toNatClampNeg := by
  unfold imx
  by_cases h : v < 0
  · rw [if_pos h, clamp_neg h]
    rfl
  · rw [if_neg h]
    exact nI_cl h
theorem rsz_nI {k : Nat} {v : Int32} : rsz (nI k) v = nI (14 + k + v.toNatClampNeg) := by
  unfold rsz
  rw [imx0, show (14 : Int32) = nI 14 from rfl, nI_add, nI_add]
theorem rcb_nI (r : AR) : rcb r = nI (rcn r) := rsz_nI
/-- what a record is -/
def recB (st ks vs : Int32) (tk : List Int32) : List Int32 := be4 (crcL (be4 st ++ be2 ks ++ be4 vs ++ tk)) ++ (be4 st ++ be2 ks ++ be4 vs ++ tk)
theorem be4_len (v : Int32) : (be4 v).length = 4 := rfl
theorem be2_len (v : Int32) : (be2 v).length = 2 := rfl
theorem recB_len {st ks vs : Int32} {tk : List Int32} : (recB st ks vs tk).length = 14 + tk.length := by
  unfold recB
  simp only [List.length_append, be4_len, be2_len]
  omega
def szF (a b : Int32) (fs : List AF) : Nat := match fndF a b fs with
  | some f => f.2.2.1.length
  | none => 0
/-- whether a row's record is bad -/
def badR (r : AR) (l : List Int32) : Bool := decide (l.length < r.2.2.1.toNatClampNeg + rcn r) || decide (¬ bnm l r.2.2.1 = crcL ((l.drop (r.2.2.1.toNatClampNeg + 4)).take (rcn r - 4))) || decide (¬ bnm l (r.2.2.1 + 4) = r.2.2.2.2) || decide (¬ bsh l (r.2.2.1 + 8) = nI r.1.length) || decide (¬ bnm l (r.2.2.1 + 10) = r.2.2.2.1) || decide (¬ cmpL r.1 ((l.drop (r.2.2.1.toNatClampNeg + 14)).take r.1.length) = 0)
def fullV (V : VC) (s : Int32) : Bool := decide (froom V.1.2.2.2.1 V.1.1 - V.2.2.1.2.2.2.2.2.1 < s ∨ 1000000000 < V.2.2.2.2.1.2.2.1)
def wrNew (V : VC) (m : Nat) : Prop := V.2.2.2.2.1.2.1 = -1 ∨ V.1.2.2.2.2.1 < nI (szF V.2.2.2.2.1.2.1 0 V.1.1) + nI m
section
variable {n : Nat} {g g' : Gh} {α : Type} {Q : α → Gh → Prop}
theorem szO_F {a b : Int32} : szO n g a b = szF a b (FV n g) := by
  unfold szO szF
  cases h : fnd n g a b with
  | none => rw [fnd_N h]
  | some d => rw [fnd_F h]; rfl
theorem k_takeTape {k : Unit → M α} (h : CI n g) (hl : (qB g (n + 1)).length ≤ 80) (hk : ∀ g', Cp n g g' 0 → CV n g' = sB1 [] (sB3 (qB g (n + 1)) (CV n g)) → ok (k ()) g' Q) : ok (bd (X8_takeTape n) k) g Q := by
  refine ok_bd ?_
  unfold X8_takeTape
  have hC := ci_C h
  refine ok_xtaken hC (ok_ck (cs_taken hC) (st_clr3 h (fun g1 p1 e1 b1 => ?_)))
  have h1 := p1.2.2
  have hC1 := ci_C h1
  have t1 : qB g1 (n + 1) = qB g (n + 1) := b1 _ (by omega)
  have t3 : qB g1 (n + 3) = [] := congrArg (fun V : VC => V.2.2.2.2.2.1) e1
  refine ok_xtaken hC1 (ok_xtape hC1 (ok_xtape hC1 (ok_ck (cs_tape hC1) (ok_bsize (cs_tape hC1) (ok_ck (cs_taken hC1) (st_part3 (f := 0) (m := (qB g1 (n + 1)).length) h1 (cs_tape hC1) (by omega) rfl rfl (by omega) (by rw [t1, t3]; simp; omega) (fun g2 p2 e2 b2 => ?_)))))))
  have h2 := p2.2.2
  have hC2 := ci_C h2
  refine ok_xtape hC2 (ok_ck (cs_tape hC2) (st_clr1 h2 (fun g3 p3 e3 b3 => ok_pu (hk g3 (cp_trans0 (cp_trans0 p1 p2) p3) ?_))))
  rw [e3, e2, e1, t3, t1, List.drop_zero, List.take_length, List.nil_append]
  rfl
theorem k_isFull {s : Int32} {k : Int32 → M α} (h : CI n g) (hk : ok (k (bI (fullV (CV n g) s))) g Q) : ok (bd (X8_isFull n s) k) g Q := by
  refine ok_bd ?_
  unfold X8_isFull X8_isFull_b29
  have hC := ci_C h
  refine ok_xd hC (ok_ck (cs_disk hC) (ok_room hC (ci_D h) (ok_xm hC (ok_gI (cs_mg hC) rfl ?_))))
  have e : fullV (CV n g) s = decide (froom (qi g 604 (n + 9)) (FV n g) - qi g 809 (n + 16) < s ∨ 1000000000 < qi g 1110 n) := rfl
  rw [e] at hk
  by_cases c1 : froom (qi g 604 (n + 9)) (FV n g) - qi g 809 (n + 16) < s
  · rw [decide_eq_true (Or.inl c1)] at hk
    exact ok_itT c1 (ok_pu hk)
  · refine ok_itF c1 (ok_gI (cs_x hC) rfl ?_)
    by_cases c2 : 1000000000 < qi g 1110 n
    · rw [decide_eq_true (Or.inr c2)] at hk
      exact ok_itF (Int32.not_le.mpr c2) (ok_pu hk)
    · rw [decide_eq_false (by rintro (q | q); exact c1 q; exact c2 q)] at hk
      exact ok_itT (Int32.not_lt.mp c2) (ok_pu hk)
theorem k_isBad {r c : Nat} {k : Int32 → M α} (hr : rOk n g r) (hc : qk g c = 5) (hp : ¬ qi g 1002 r < 0) (hp2 : (qi g 1002 r).toNatClampNeg ≤ 30000) (hv : (qi g 1003 r).toNatClampNeg ≤ 64) (hk : ok (k (bI (badR (rvw g r) (qB g c)))) g Q) : ok (bd (X8_isBad r c) k) g Q := by
  refine ok_lenB hc (fun hcl => ok_lenB hr.2.2.1 (fun hrl => ok_bd ?_))
  unfold X8_isBad X8_isBad_b121
  refine ok_gI hr.1 rfl (ok_ck hr.1 (ok_rcb hr (ok_bpu (ok_ck hc (ok_bsize hc ?_)))))
  rw [rcb_nI]
  show ok (it (nI (qB g c).length < qi g 1002 r + nI (rcn (rvw g r))) _ _) g _
  have eN : rcn (rvw g r) = 14 + (qB g (r + 1)).length + (qi g 1003 r).toNatClampNeg := rfl
  have eb : badR (rvw g r) (qB g c) = (decide ((qB g c).length < (qi g 1002 r).toNatClampNeg + rcn (rvw g r)) || decide (¬ bnm (qB g c) (qi g 1002 r) = crcL (((qB g c).drop ((qi g 1002 r).toNatClampNeg + 4)).take (rcn (rvw g r) - 4))) || decide (¬ bnm (qB g c) (qi g 1002 r + 4) = qi g 1004 r) || decide (¬ bsh (qB g c) (qi g 1002 r + 8) = nI (qB g (r + 1)).length) || decide (¬ bnm (qB g c) (qi g 1002 r + 10) = qi g 1003 r) || decide (¬ cmpL (qB g (r + 1)) (((qB g c).drop ((qi g 1002 r).toNatClampNeg + 14)).take (qB g (r + 1)).length) = 0)) := rfl
  rw [eb] at hk
  have epl : qi g 1002 r = nI (qi g 1002 r).toNatClampNeg := nI_cl hp
  generalize hP : (qi g 1002 r).toNatClampNeg = P at *
  have ee : qi g 1002 r + nI (rcn (rvw g r)) = nI (P + rcn (rvw g r)) := by rw [epl, nI_add]
  rw [ee]
  by_cases c1 : (qB g c).length < P + rcn (rvw g r)
  · rw [decide_eq_true c1] at hk
    simp only [Bool.true_or] at hk
    exact ok_itT (nI_lt c1 (by omega)) (ok_pu hk)
  · rw [decide_eq_false c1, Bool.false_or] at hk
    refine ok_itF (nI_nlt (by omega) (by omega)) (ok_gI hr.1 rfl (ok_ck hc (ok_bnm hc (ok_gI hr.1 rfl (ok_ck hc (ok_bsum (f := P + 4) (t := P + rcn (rvw g r)) hc (by show qi g 1002 r + 4 = _; rw [epl]; exact nI_add P 4) rfl (by omega) (by omega) ?_))))))
    rw [show P + rcn (rvw g r) - (P + 4) = rcn (rvw g r) - 4 by omega]
    show ok (it (¬ bnm (qB g c) (qi g 1002 r) = crcL (((qB g c).drop (P + 4)).take (rcn (rvw g r) - 4))) _ _) g _
    by_cases c2 : bnm (qB g c) (qi g 1002 r) = crcL (((qB g c).drop (P + 4)).take (rcn (rvw g r) - 4))
    · rw [decide_eq_false (fun q => q c2), Bool.false_or] at hk
      refine ok_itF (fun q => q c2) (ok_gI hr.1 rfl (ok_ck hc (ok_bnm hc (ok_gI hr.1 rfl ?_))))
      show ok (it (¬ bnm (qB g c) (qi g 1002 r + 4) = qi g 1004 r) _ _) g _
      by_cases c3 : bnm (qB g c) (qi g 1002 r + 4) = qi g 1004 r
      · rw [decide_eq_false (fun q => q c3), Bool.false_or] at hk
        refine ok_itF (fun q => q c3) (ok_gI hr.1 rfl (ok_ck hc (ok_bsh hc (ok_rbs hr ?_))))
        show ok (it (¬ bsh (qB g c) (qi g 1002 r + 8) = nI (qB g (r + 1)).length) _ _) g _
        by_cases c4 : bsh (qB g c) (qi g 1002 r + 8) = nI (qB g (r + 1)).length
        · rw [decide_eq_false (fun q => q c4), Bool.false_or] at hk
          refine ok_itF (fun q => q c4) (ok_gI hr.1 rfl (ok_ck hc (ok_bnm hc (ok_gI hr.1 rfl ?_))))
          show ok (it (¬ bnm (qB g c) (qi g 1002 r + 10) = qi g 1003 r) _ _) g _
          by_cases c5 : bnm (qB g c) (qi g 1002 r + 10) = qi g 1003 r
          · rw [decide_eq_false (fun q => q c5), Bool.false_or] at hk
            refine ok_itF (fun q => q c5) (ok_rby hr (ok_gI hr.1 rfl (ok_rbs hr (ok_ck hr.2.2.1 (ok_bcmp (f := P + 14) (n := (qB g (r + 1)).length) hr.2.2.1 hc (by show qi g 1002 r + 14 = _; rw [epl]; exact nI_add P 14) rfl (by omega) ?_)))))
            by_cases c6 : cmpL (qB g (r + 1)) (((qB g c).drop (P + 14)).take (qB g (r + 1)).length) = 0
            · rw [decide_eq_false (fun q => q c6)] at hk
              exact ok_itT c6 (ok_pu hk)
            · rw [decide_eq_true c6] at hk
              exact ok_itF c6 (ok_pu hk)
          · rw [decide_eq_true c5, Bool.true_or] at hk
            exact ok_itT c5 (ok_pu hk)
        · rw [decide_eq_true c4, Bool.true_or, Bool.true_or] at hk
          exact ok_itT c4 (ok_pu hk)
      · rw [decide_eq_true c3, Bool.true_or, Bool.true_or, Bool.true_or] at hk
        exact ok_itT c3 (ok_pu hk)
    · rw [decide_eq_true c2, Bool.true_or, Bool.true_or, Bool.true_or, Bool.true_or] at hk
      exact ok_itT c2 (ok_pu hk)
end
