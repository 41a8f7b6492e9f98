/-! copying, finishing, removing -/
def cpW (R : AR) (V : VC) : Bool := decide (V.2.2.1.2.2.1 = -1 ∨ V.1.2.2.2.2.1 < nI (szF V.2.2.1.2.2.1 0 V.1.1) + rcb R)
def tak6 (V : VC) : VC := si806 V.1.2.2.2.2.2 (sDd (V.1.1, V.1.2.1, V.1.2.2.1, V.1.2.2.2.1, V.1.2.2.2.2.1, V.1.2.2.2.2.2 + 1) V)
def cpA (R : AR) (V : VC) : VC × Nat := match cpW R V with
  | true => (tak6 (whV V).1, (whV V).2)
  | false => (V, 0)
def cpP (R : AR) (V : VC) : Int32 := match cpW R V with
  | true => 0
  | false => nI (szF V.2.2.1.2.2.1 0 V.1.1)
def cpB (R : AR) (f : AF) (A : VC) : VC := si809 (A.2.2.1.2.2.2.2.2.1 - rcb R) (sDd (vApp A.2.2.1.2.2.1 0 ((f.2.2.1.drop R.2.2.1.toNatClampNeg).take (rcn R)) A.1) A)
def cpV (p : Nat) (R : AR) (V : VC) : VC × Nat := match fndF R.2.1 0 (cpA R V).1.1.1 with
  | none => (V, 0)
  | some f => (nhV (R.1, (cpA R V).1.2.2.1.2.2.1, cpP R V, R.2.2.2.1, R.2.2.2.2) (sRr (telR p (cpA R V).1.2.2.1.2.2.1 (cpP R V) R.2.2.2.1 R.2.2.2.2 V.2.1) (cpB R f (cpA R V).1)), (cpA R V).2 + (appF (cpA R V).1.2.2.1.2.2.1 0 ((f.2.2.1.drop R.2.2.1.toNatClampNeg).take (rcn R)) (cpA R V).1.1.1 (cpA R V).1.1.2.1).2.2)
theorem wh_rows (V : VC) : (whV V).1.2.1 = V.2.1 := by
  unfold whV
  split <;> rfl
theorem wh_hint (V : VC) : (whV V).1.2.2.1.2.2.2.2.2.2 = V.2.2.1.2.2.2.2.2.2 ∨ (whV V).1.2.2.1.2.2.2.2.2.2 = hinC V := by
  unfold whV
  split
  · exact Or.inl rfl
  · exact Or.inr rfl
theorem cpA_rows (R : AR) (V : VC) : (cpA R V).1.2.1 = V.2.1 := by
  unfold cpA
  cases cpW R V
  · rfl
  · exact wh_rows V
section
variable {n : Nat} {g g' : Gh} {α : Type} {Q : α → Gh → Prop}
theorem fnd_of {a b : Int32} {f : AF} (h : fndF a b (FV n g) = some f) : ∃ d, fnd n g a b = some d ∧ fvw g d = f := by
  cases hd : fnd n g a b with
  | none =>
    rw [fnd_N hd] at h
    cases h
  | some d =>
    rw [fnd_F hd] at h
    exact ⟨d, rfl, Option.some.inj h⟩
theorem k_b107 {r p : Nat} {i : Int32} {Q : Unit → Gh → Prop} (h : CI n g) (hr : (qL g (n + 14))[p]? = some r) (hkl : (qB g (r + 1)).length ≤ 16) (hh : (qB g (n + 17)).length ≤ 9000) (hk : ∀ g', Cp n g g' 0 → CV n g' = nhV (qB g (r + 1), qi g 806 (n + 16), i, qi g 1003 r, qi g 1004 r) (sRr (telR p (qi g 806 (n + 16)) i (qi g 1003 r) (qi g 1004 r) (RV n g)) (CV n g)) → Q () g') : ok (X5_copy_b107 (n + 16) r i) g Q := by
  have hC := ci_C h
  have hrk := ri_at (ci_R h) hr
  unfold X5_copy_b107
  refine ok_gI (cs_mg hC) rfl (ok_gI hrk.1 rfl (ok_gI hrk.1 rfl (ok_ck hrk.1 (cl_tell h hr (fun g1 p1 e1 b1 l1 => ?_)))))
  have hC1 := ci_C p1.2.2
  have hr1 : (qL g1 (n + 14))[p]? = some r := by rw [l1]; exact hr
  have et : telR p (qi g 806 (n + 16)) i (qi g 1003 r) (qi g 1004 r) (RV n g) = (RV n g).set p (qB g (r + 1), qi g 806 (n + 16), i, qi g 1003 r, qi g 1004 r) := telR_set (rv_at hr)
  have e1' : CV n g1 = sRr (telR p (qi g 806 (n + 16)) i (qi g 1003 r) (qi g 1004 r) (RV n g)) (CV n g) := by
    rw [e1, et]
    rfl
  have rv1 : rvw g1 r = (qB g (r + 1), qi g 806 (n + 16), i, qi g 1003 r, qi g 1004 r) := by
    have a := rv_at hr1
    have b : RV n g1 = _ := congrArg (fun V : VC => V.2.1) e1
    rw [b, List.getElem?_set, if_pos rfl, if_pos (by rw [rv_len]; exact lt_of_some hr)] at a
    exact (Option.some.inj a).symm
  refine ok_ck (cs_mg hC1) (k_note p1.2.2 hr1 (by rw [b1]; exact hkl) (by rw [b1]; exact hh) (fun g2 p2 e2 => ok_pu (hk g2 (cp_trans0 p1 p2) ?_)))
  rw [e2, rv1, e1']
theorem k_b56 {r p : Nat} {i : Int32} {f : AF} {Q : Unit → Gh → Prop} (h : CI n g) (hG : GI (CV n g)) (hr : (qL g (n + 14))[p]? = some r) (hkl : (qB g (r + 1)).length ≤ 16) (hh : (qB g (n + 17)).length ≤ 9000) (hf : fndF (qi g 1001 r) 0 (FV n g) = some f) (hp0 : ¬ qi g 1002 r < 0) (hv : (qi g 1003 r).toNatClampNeg ≤ 64) (hfl : (qi g 1002 r).toNatClampNeg + rcn (rvw g r) ≤ f.2.2.1.length) (hne : qi g 1001 r ≠ qi g 806 (n + 16))
    (hk : ∀ g', Cp n g g' (appF (qi g 806 (n + 16)) 0 ((f.2.2.1.drop (qi g 1002 r).toNatClampNeg).take (rcn (rvw g r))) (FV n g) (SV n g)).2.2 → CV n g' = nhV (qB g (r + 1), qi g 806 (n + 16), i, qi g 1003 r, qi g 1004 r) (sRr (telR p (qi g 806 (n + 16)) i (qi g 1003 r) (qi g 1004 r) (RV n g)) (cpB (rvw g r) f (CV n g))) → Q () g') : ok (X5_copy_b56 (n + 16) r (rcb (rvw g r)) i) g Q := by
  obtain ⟨⟨hS, h6, hF, hV⟩, -, -⟩ := hG
  have hC := ci_C h
  have hD := ci_D h
  have hrk := ri_at (ci_R h) hr
  obtain ⟨d, hd, hdf⟩ := fnd_of hf
  have hdk := fnd_ok hD hd
  obtain ⟨d1, d2, d3⟩ := fnd_some hd
  have hdm : d ∈ qL g (n + 10) := List.mem_of_getElem? d1
  have hfb : f.2.2.1 = qB g (d + 1) := by rw [← hdf]; rfl
  unfold X5_copy_b56
  refine ok_md hC (ok_gI hrk.1 rfl (ok_ck (cs_disk hC) (ok_find hC hD ?_)))
  show ok (co (fnd n g (qi g 1001 r) 0) _ _) g Q
  rw [hd]
  show ok (bd (gR 8 0 (n + 16)) _) g Q
  have hrn : rcn (rvw g r) = 14 + (qB g (r + 1)).length + (qi g 1003 r).toNatClampNeg := rfl
  refine ok_md hC (ok_gI (cs_mg hC) rfl (ok_dby hdk (ok_gI hrk.1 rfl (ok_ck (cs_disk hC) (cl_append (f := (qi g 1002 r).toNatClampNeg) (m := rcn (rvw g r)) h hS hdk.2.2.1 (fun e he q => ?_) (fun e he q => ?_) (nI_cl hp0) (rcb_nI _) (by rw [← hfb]; exact hfl) (fun v hv => by have := h6 v hv; omega) (by omega) hF hV (fun g1 p1 e1 b1 => ?_))))))
  · have : d = e := by omega
    subst this
    exact (List.nodup_append.mp hD.2).2.2 d hdm d he rfl
  · have : d = e := by omega
    subst this
    obtain ⟨f1, f2, f3⟩ := fnd_some he
    exact hne (d2.symm.trans f2)
  · have h1 := p1.2.2
    have hC1 := ci_C h1
    rw [← hfb] at e1 p1
    have hr1 : (qL g1 (n + 14))[p]? = some r := by rw [b1.2]; exact hr
    have re1 : qi g1 809 (n + 16) = qi g 809 (n + 16) := congrArg (fun V : VC => V.2.2.1.2.2.2.2.2.1) e1
    have rv1 : rvw g1 r = rvw g r := by
      have a := rv_at hr1
      have b : RV n g1 = RV n g := congrArg (fun V : VC => V.2.1) e1
      rw [b, rv_at hr] at a
      exact (Option.some.inj a).symm
    refine ok_gI (cs_mg hC1) re1 (sq_i809 h1 (fun g2 p2 e2 b2 l2 i2 => ?_))
    have h2 := p2.2.2
    have hr2 : (qL g2 (n + 14))[p]? = some r := by rw [l2]; exact hr1
    have rv2 : rvw g2 r = rvw g r := by
      have a := rv_at hr2
      have b : RV n g2 = RV n g1 := congrArg (fun V : VC => V.2.1) e2
      rw [b, rv_at hr1] at a
      exact (Option.some.inj a).symm.trans rv1
    have E2 : CV n g2 = cpB (rvw g r) f (CV n g) := by
      rw [e2, e1]
      rfl
    have hB2 : qB g2 (r + 1) = qB g (r + 1) := congrArg (fun v : AR => v.1) rv2
    have hv2 : qi g2 1003 r = qi g 1003 r := congrArg (fun v : AR => v.2.2.2.1) rv2
    have hs2 : qi g2 1004 r = qi g 1004 r := congrArg (fun v : AR => v.2.2.2.2) rv2
    have ho2 : qi g2 806 (n + 16) = qi g 806 (n + 16) := congrArg (fun V : VC => V.2.2.1.2.2.1) E2
    have hr2' : RV n g2 = RV n g := congrArg (fun V : VC => V.2.1) E2
    have hh2 : qB g2 (n + 17) = qB g (n + 17) := congrArg (fun V : VC => V.2.2.1.2.2.2.2.2.2) E2
    refine k_b107 h2 hr2 (by rw [hB2]; exact hkl) (by rw [hh2]; exact hh) (fun g' p' e' => hk g' ?_ ?_)
    · have := cp_trans (cp_trans p1 p2) p'
      exact this
    · rw [e', hB2, hv2, hs2, ho2, hr2', E2]
theorem k_copy {r p : Nat} {f : AF} {k : Unit → M α} (h : CI n g) (hG : GI (CV n g)) (hr : (qL g (n + 14))[p]? = some r) (hG2 : GI (cpA (rvw g r) (CV n g)).1) (hh : qi g 806 (n + 16) ≠ -1 → 4 ≤ (qB g (n + 17)).length) (hh2 : (qB g (n + 17)).length ≤ 8900) (hf : fndF (qi g 1001 r) 0 (cpA (rvw g r) (CV n g)).1.1.1 = some f) (hfl : (qi g 1002 r).toNatClampNeg + rcn (rvw g r) ≤ f.2.2.1.length) (hne : qi g 1001 r ≠ (cpA (rvw g r) (CV n g)).1.2.2.1.2.2.1)
    (hk : ∀ g', Cp n g g' (cpV p (rvw g r) (CV n g)).2 → CV n g' = (cpV p (rvw g r) (CV n g)).1 → ok (k ()) g' Q) : ok (bd (X5_copy (n + 16) r) k) g Q := by
  have hC := ci_C h
  have hrk := ri_at (ci_R h) hr
  obtain ⟨q1, q2, q3, q4⟩ := hG.2.1.2.2 (rvw g r) (List.mem_of_getElem? (rv_at hr))
  have q1 : (qB g (r + 1)).length ≤ 16 := q1
  have q2 : ¬ qi g 1002 r < 0 := q2
  have q4 : (qi g 1003 r).toNatClampNeg ≤ 64 := q4
  refine ok_bd ?_
  unfold X5_copy X5_copy_b39
  refine ok_ck hrk.1 (ok_rcb hrk (ok_md hC (ok_gI (cs_mg hC) rfl (ok_ck (cs_disk hC) (ok_sizeOf hC (ci_D h) (ok_gI (cs_mg hC) rfl ?_))))))
  rw [szO_F]
  have eW : cpW (rvw g r) (CV n g) = decide (qi g 806 (n + 16) = -1 ∨ qi g 605 (n + 9) < nI (szF (qi g 806 (n + 16)) 0 (FV n g)) + rcb (rvw g r)) := rfl
  have eV : cpV p (rvw g r) (CV n g) = match fndF (qi g 1001 r) 0 (cpA (rvw g r) (CV n g)).1.1.1 with
    | none => (CV n g, 0)
    | some f => (nhV (qB g (r + 1), (cpA (rvw g r) (CV n g)).1.2.2.1.2.2.1, cpP (rvw g r) (CV n g), qi g 1003 r, qi g 1004 r) (sRr (telR p (cpA (rvw g r) (CV n g)).1.2.2.1.2.2.1 (cpP (rvw g r) (CV n g)) (qi g 1003 r) (qi g 1004 r) (RV n g)) (cpB (rvw g r) f (cpA (rvw g r) (CV n g)).1)), (cpA (rvw g r) (CV n g)).2 + (appF (cpA (rvw g r) (CV n g)).1.2.2.1.2.2.1 0 ((f.2.2.1.drop (qi g 1002 r).toNatClampNeg).take (rcn (rvw g r))) (cpA (rvw g r) (CV n g)).1.1.1 (cpA (rvw g r) (CV n g)).1.1.2.1).2.2) := rfl
  rw [eV, hf] at hk
  dsimp only at hk
  have new : cpW (rvw g r) (CV n g) = true → ok (bd (ck 8 (n + 16)) (fun _ => bd (X5_writeHint (n + 16)) (fun _ => bd (gR 8 0 (n + 16)) (fun y1 => bd (ck 6 y1) (fun _ => bd (X3_takeNumber y1) (fun x2 => bd (pV 8 6 (n + 16) (.int x2)) (fun _ => X5_copy_b56 (n + 16) r (rcb (rvw g r)) 0))))))) g (fun v g1 => ok (k v) g1 Q) := by
    intro hw
    have eA : cpA (rvw g r) (CV n g) = (tak6 (whV (CV n g)).1, (whV (CV n g)).2) := by
      unfold cpA
      rw [hw]
    have eP : cpP (rvw g r) (CV n g) = 0 := by
      unfold cpP
      rw [hw]
    rw [eA, eP] at hk
    rw [eA] at hf hne hG2
    refine ok_ck (cs_mg hC) (k_writeHint h hG (fun q => ⟨hh q, by omega⟩) (fun g1 p1 e1 l1 => ?_))
    have h1 := p1.2.2
    have hC1 := ci_C h1
    refine ok_md hC1 (ok_ck (cs_disk hC1) (cl_takeNumber2 h1 (fun g2 p2 e2 l2 => sq_i806 p2.2.2 (fun g3 p3 e3 b3 l3 i3 => ?_))))
    have h3 := p3.2.2
    have E3 : CV n g3 = tak6 (whV (CV n g)).1 := by
      rw [e3, e2, ← e1]
      rfl
    have hr3 : (qL g3 (n + 14))[p]? = some r := by rw [l3, l2, l1]; exact hr
    have rv3 : rvw g3 r = rvw g r := by
      have a := rv_at hr3
      have b : RV n g3 = RV n g := (congrArg (fun V : VC => V.2.1) E3).trans (wh_rows (CV n g))
      rw [b, rv_at hr] at a
      exact (Option.some.inj a).symm
    have c0 : qB g3 (r + 1) = qB g (r + 1) := congrArg (fun v : AR => v.1) rv3
    have c1 : qi g3 1001 r = qi g 1001 r := congrArg (fun v : AR => v.2.1) rv3
    have c2 : qi g3 1002 r = qi g 1002 r := congrArg (fun v : AR => v.2.2.1) rv3
    have c3 : qi g3 1003 r = qi g 1003 r := congrArg (fun v : AR => v.2.2.2.1) rv3
    have c4 : qi g3 1004 r = qi g 1004 r := congrArg (fun v : AR => v.2.2.2.2) rv3
    have fv3 : FV n g3 = (tak6 (whV (CV n g)).1).1.1 := congrArg (fun V : VC => V.1.1) E3
    have sv3 : SV n g3 = (tak6 (whV (CV n g)).1).1.2.1 := congrArg (fun V : VC => V.1.2.1) E3
    have ou3 : qi g3 806 (n + 16) = (tak6 (whV (CV n g)).1).2.2.1.2.2.1 := congrArg (fun V : VC => V.2.2.1.2.2.1) E3
    have rr3 : RV n g3 = RV n g := (congrArg (fun V : VC => V.2.1) E3).trans (wh_rows (CV n g))
    have hb3 : (qB g3 (n + 17)).length ≤ 9000 := by
      have a : qB g3 (n + 17) = (whV (CV n g)).1.2.2.1.2.2.2.2.2.2 := congrArg (fun V : VC => V.2.2.1.2.2.2.2.2.2) E3
      rw [a]
      rcases wh_hint (CV n g) with q | q
      · rw [q]
        exact Nat.le_trans hh2 (by decide)
      · rw [q]
        unfold hinC hinB
        simp only [List.length_append, be4_len, List.length_drop]
        have : (CV n g).2.2.1.2.2.2.2.2.2.length ≤ 8900 := hh2
        omega
    have := k_b56 (Q := fun v g1 => ok (k v) g1 Q) (i := 0) (f := f) h3 (by rw [E3]; exact hG2) hr3 (by rw [c0]; exact q1) hb3 (by rw [c1, fv3]; exact hf) (by rw [c2]; exact q2) (by rw [c3]; exact q4) (by rw [c2, rv3]; exact hfl) (by rw [c1, ou3]; exact hne) (fun g' p' e' => hk g' ?_ ?_)
    · rw [rv3] at this
      exact this
    · rw [c2, rv3, ou3, fv3, sv3] at p'
      exact cp_trans (cp_trans (cp_trans p1 p2) p3) p'
    · rw [c0, c3, c4, ou3, rr3, rv3, E3] at e'
      exact e'
  by_cases c1 : qi g 806 (n + 16) = -1
  · exact ok_itT c1 (new (by rw [eW]; exact decide_eq_true (Or.inl c1)))
  · refine ok_itF c1 (ok_md hC (ok_gI (cs_disk hC) rfl ?_))
    by_cases c2 : qi g 605 (n + 9) < nI (szF (qi g 806 (n + 16)) 0 (FV n g)) + rcb (rvw g r)
    · exact ok_itF (Int32.not_le.mpr c2) (new (by rw [eW]; exact decide_eq_true (Or.inr c2)))
    · have hw : cpW (rvw g r) (CV n g) = false := by
        rw [eW]
        exact decide_eq_false (by rintro (q | q); exact c1 q; exact c2 q)
      have eA : cpA (rvw g r) (CV n g) = (CV n g, 0) := by
        unfold cpA
        rw [hw]
      have eP : cpP (rvw g r) (CV n g) = nI (szF (qi g 806 (n + 16)) 0 (FV n g)) := by
        unfold cpP
        rw [hw]
        rfl
      rw [eA, eP] at hk
      rw [eA] at hf hne
      refine ok_itT (Int32.not_lt.mp c2) (k_b56 (f := f) h hG hr q1 (by omega) hf q2 q4 hfl hne (fun g' p' e' => hk g' ?_ e'))
      rw [Nat.zero_add]
      exact p'
end
