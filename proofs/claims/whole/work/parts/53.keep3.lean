/-! the calls: what each does to the object -/
def telR (p : Nat) (a b c d : Int32) (rs : List AR) : List AR := match rs[p]? with
  | some r => rs.set p (r.1, a, b, c, d)
  | none => rs
def sPut (ks : Int32) (V : VC) : (Nat ⊕ Int32) × VC × Nat :=
  let V1 := sB1 [] (sB3 V.2.2.2.2.1.2.2.2.1 V)
  let vs := nI V.2.2.2.2.1.2.2.2.1.length - ks
  if V.2.2.2.2.1.1 = 0 then (.inl 1, V1, 0)
  else if ks < 1 ∨ 16 < ks ∨ vs < 0 ∨ 64 < vs then (.inl 0, V1, 0)
  else match fullV V1 (rsz ks vs) with
    | true => (.inl 2, V1, 0)
    | false =>
      let w := wrV ks vs V1
      let t := V.2.2.2.2.1.2.2.2.1.take ks.toNatClampNeg
      (.inr V.2.2.2.2.1.2.2.1, sRr (telR (plR t V.2.1) w.2.1.2.2.2.2.1.2.1 w.1 vs V.2.2.2.2.1.2.2.1 (ensR t V.2.1)) w.2.1, w.2.2)
def sRem (V : VC) : (Nat ⊕ Int32) × VC × Nat :=
  let V1 := sB1 [] (sB3 V.2.2.2.2.1.2.2.2.1 V)
  let t := V.2.2.2.2.1.2.2.2.1
  if V.2.2.2.2.1.1 = 0 then (.inl 1, V1, 0)
  else if t.length < 1 ∨ 16 < t.length then (.inl 0, V1, 0)
  else match (V.2.1[plR t V.2.1]?).filter (isR t) with
    | none => (.inr 0, V1, 0)
    | some _ => match fullV V1 (rsz (nI t.length) (-1)) with
      | true => (.inl 2, V1, 0)
      | false =>
        let w := wrV (nI t.length) (-1) V1
        (.inr 1, sRr (V.2.1.eraseIdx (plR t V.2.1)) w.2.1, w.2.2)
theorem li1 : (1 : Int32).toInt = 1 := rfl
theorem li16 : (16 : Int32).toInt = 16 := rfl
theorem li64 : (64 : Int32).toInt = 64 := rfl
theorem lim1 : (-1 : Int32).toInt = -1 := rfl
theorem li80 : (80 : Int32).toInt = 80 := rfl
section
variable {n : Nat} {g g' : Gh} {α : Type}
/-- what the calls need of the object -/
def GI (V : VC) : Prop := (SrtF V.1.1 ∧ (∀ v, v ∈ V.1.1 → v.2.2.1.length ≤ 20000) ∧ V.1.1.length ≤ 2200 ∧ V.1.2.2.1.length ≤ 2100) ∧ (SrtR V.2.1 ∧ V.2.1.length ≤ 1200 ∧ ∀ r, r ∈ V.2.1 → r.1.length ≤ 16 ∧ ¬ r.2.2.1 < 0 ∧ r.2.2.1.toNatClampNeg ≤ 20000 ∧ r.2.2.2.1.toNatClampNeg ≤ 64) ∧ V.2.2.2.2.1.2.2.2.1.length ≤ 80
theorem not_ownR_fix (h : CI n g) {k : Nat} (hk : fixA k) : ¬ ownR n g (n + k) := (fix_no h hk).2
theorem telR_set {p : Nat} {rs : List AR} {r : AR} {a b c d : Int32} (h : rs[p]? = some r) : telR p a b c d rs = rs.set p (r.1, a, b, c, d) := by
  unfold telR
  rw [h]
theorem c_put {ks : Int32} {Q : Nat ⊕ Int32 → Gh → Prop} (h : CI n g) (hG : GI (CV n g)) (hk : ∀ g1, Cp n g g1 (sPut ks (CV n g)).2.2 → CV n g1 = (sPut ks (CV n g)).2.1 → Q (sPut ks (CV n g)).1 (fin (sPut ks (CV n g)).1 g1)) : ok (X8_put n ks) g Q := by
  obtain ⟨⟨hS, h6, hF, hV⟩, ⟨hSR, hRl, hRr⟩, hT⟩ := hG
  have hT : (qB g (n + 1)).length ≤ 80 := hT
  unfold X8_put X8_put_b52
  refine ok_ck (cs_x (ci_C h)) (k_takeTape h hT (fun g1 p1 e1 => ?_))
  have h1 := p1.2.2
  have hC1 := ci_C h1
  have io : qi g1 1108 n = qi g 1108 n := congrArg (fun V : VC => V.2.2.2.2.1.1) e1
  have st : qi g1 1110 n = qi g 1110 n := congrArg (fun V : VC => V.2.2.2.2.1.2.2.1) e1
  have tk : qB g1 (n + 3) = qB g (n + 1) := congrArg (fun V : VC => V.2.2.2.2.2.1) e1
  have fv : FV n g1 = FV n g := congrArg (fun V : VC => V.1.1) e1
  have ai : AIV n g1 = AIV n g := congrArg (fun V : VC => V.1.2.2.1) e1
  have rv : RV n g1 = RV n g := congrArg (fun V : VC => V.2.1) e1
  have eS : sPut ks (CV n g) = (if qi g 1108 n = 0 then (.inl 1, CV n g1, 0)
    else if ks < 1 ∨ 16 < ks ∨ nI (qB g (n + 1)).length - ks < 0 ∨ 64 < nI (qB g (n + 1)).length - ks then (.inl 0, CV n g1, 0)
    else match fullV (CV n g1) (rsz ks (nI (qB g (n + 1)).length - ks)) with
    | true => (.inl 2, CV n g1, 0)
    | false => (.inr (qi g 1110 n), sRr (telR (plR ((qB g (n + 1)).take ks.toNatClampNeg) (RV n g)) (wrV ks (nI (qB g (n + 1)).length - ks) (CV n g1)).2.1.2.2.2.2.1.2.1 (wrV ks (nI (qB g (n + 1)).length - ks) (CV n g1)).1 (nI (qB g (n + 1)).length - ks) (qi g 1110 n) (ensR ((qB g (n + 1)).take ks.toNatClampNeg) (RV n g))) (wrV ks (nI (qB g (n + 1)).length - ks) (CV n g1)).2.1, (wrV ks (nI (qB g (n + 1)).length - ks) (CV n g1)).2.2)) := by
    rw [e1]
    rfl
  rw [eS] at hk
  refine ok_gI (cs_x hC1) io ?_
  by_cases c0 : qi g 1108 n = 0
  · rw [if_pos c0] at hk
    exact ok_itF (fun q => q c0) (ok_th (hk g1 p1 rfl))
  rw [if_neg c0] at hk
  refine ok_itT c0 (ok_xtaken hC1 (ok_ck (cs_taken hC1) (ok_bsize (cs_taken hC1) (ok_bpu ?_))))
  rw [tk]
  generalize hvs : nI (qB g (n + 1)).length - ks = vs at *
  by_cases c1 : ks < 1
  · rw [if_pos (Or.inl c1)] at hk
    exact ok_itT c1 (ok_th (hk g1 p1 rfl))
  refine ok_itF c1 ?_
  by_cases c2 : 16 < ks
  · rw [if_pos (Or.inr (Or.inl c2))] at hk
    exact ok_itT c2 (ok_th (hk g1 p1 rfl))
  refine ok_itF c2 ?_
  by_cases c3 : vs < 0
  · rw [if_pos (Or.inr (Or.inr (Or.inl c3)))] at hk
    exact ok_itT c3 (ok_th (hk g1 p1 rfl))
  refine ok_itF c3 ?_
  by_cases c4 : 64 < vs
  · rw [if_pos (Or.inr (Or.inr (Or.inr c4)))] at hk
    exact ok_itF (Int32.not_le.mpr c4) (ok_th (hk g1 p1 rfl))
  rw [if_neg (by rintro (q | q | q | q); exact c1 q; exact c2 q; exact c3 q; exact c4 q)] at hk
  refine ok_itT (Int32.not_lt.mp c4) (ok_bpu (ok_ck (cs_x hC1) (k_isFull h1 ?_)))
  show ok (it (bI (fullV (CV n g1) (rsz ks vs)) = 0) _ _) g1 Q
  cases hful : fullV (CV n g1) (rsz ks vs) with
  | true =>
    rw [hful] at hk
    exact ok_itF (by decide) (ok_th (hk g1 p1 rfl))
  | false =>
    rw [hful] at hk
    refine ok_itT rfl (ok_gI (cs_x hC1) st (ok_ck (cs_x hC1) (k_write h1 (by rw [fv]; exact hS) (by rw [tk]; exact hT) (by rw [fv]; exact h6) (by rw [fv]; exact hF) (by rw [ai]; exact hV) (fun g2 p2 e2 => ?_))))
    have h2 := p2.2.2
    have hC2 := ci_C h2
    have hks : ks = nI ks.toNatClampNeg := nI_cl (by simp only [Int32.lt_iff_toInt_lt, li1, Int32.toInt_zero] at *; omega)
    have hk16 : ks.toNatClampNeg ≤ 16 ∧ 1 ≤ ks.toNatClampNeg := by
      have a : ks.toNatClampNeg = ks.toInt.toNat := rfl
      simp only [Int32.lt_iff_toInt_lt] at c1 c2
      have q1 : (1 : Int32).toInt = 1 := rfl
      have q2 : (16 : Int32).toInt = 16 := rfl
      omega
    have hkl : ks.toNatClampNeg ≤ (qB g (n + 1)).length := by
      rw [hks] at hvs
      have q : vs.toInt = ((qB g (n + 1)).length : Int) - (ks.toNatClampNeg : Int) := by
        rw [← hvs, nI_subI (by omega) (by omega)]
      simp only [Int32.lt_iff_toInt_lt, Int32.toInt_zero] at c3
      omega
    have wt : ∀ V : VC, (wrV ks vs V).2.1.2.2.2.2.2.1 = V.2.2.2.2.2.1 := fun V => by
      unfold wrV
      simp only
      cases isNew V _ <;> rfl
    have wr : ∀ V : VC, (wrV ks vs V).2.1.2.1 = V.2.1 := fun V => by
      unfold wrV
      simp only
      cases isNew V _ <;> rfl
    have tk2 : qB g2 (n + 3) = qB g (n + 1) := by
      have a : qB g2 (n + 3) = _ := congrArg (fun V : VC => V.2.2.2.2.2.1) e2
      rw [a]
      exact (wt _).trans tk
    have rv2 : RV n g2 = RV n g := by
      have a : RV n g2 = _ := congrArg (fun V : VC => V.2.1) e2
      rw [a]
      exact (wr _).trans rv
    refine ok_xr hC2 (ok_xtaken hC2 (ok_ck (cs_dir hC2) (cl_rowFor (f := 0) (m := ks.toNatClampNeg) h2 (by rw [rv2]; exact hSR) (cs_taken hC2) (not_ownR_fix h2 (by unfold fixA; omega)) rfl hks (by rw [tk2]; omega) hk16.1 (by rw [rv2]; exact hRl) (fun g3 r p3 e3 hr3 b3 => ?_))))
    have h3 := p3.2.2
    have hC3 := ci_C h3
    rw [tk2, rv2, List.drop_zero] at e3 hr3
    have ac3 : qi g3 1109 n = (wrV ks vs (CV n g1)).2.1.2.2.2.2.1.2.1 := by
      have a : qi g3 1109 n = qi g2 1109 n := congrArg (fun V : VC => V.2.2.2.2.1.2.1) e3
      have b : qi g2 1109 n = _ := congrArg (fun V : VC => V.2.2.2.2.1.2.1) e2
      exact a.trans b
    have rv3 : RV n g3 = ensR ((qB g (n + 1)).take ks.toNatClampNeg) (RV n g) := congrArg (fun V : VC => V.2.1) e3
    refine ok_gI (cs_x hC3) ac3 (ok_ck (ri_at (ci_R h3) hr3).1 (cl_tell h3 hr3 (fun g4 p4 e4 b4 l4 => ok_pu (hk g4 ?_ ?_))))
    · have := cp_trans (cp_trans (cp_trans p1 p2) p3) p4
      rw [Nat.zero_add] at this
      exact this
    · rw [e4]
      have hrv := rv_at hr3
      have e5 := telR_set (a := (wrV ks vs (CV n g1)).2.1.2.2.2.2.1.2.1) (b := (wrV ks vs (CV n g1)).1) (c := vs) (d := qi g 1110 n) hrv
      rw [rv3] at e5
      rw [e5, rv3]
      have vd3 : vD n g3 = (wrV ks vs (CV n g1)).2.1.1 := by
        have a : vD n g3 = vD n g2 := congrArg (fun V : VC => V.1) e3
        have b : vD n g2 = _ := congrArg (fun V : VC => V.1) e2
        exact a.trans b
      have vr3 : (CV n g3).2.2 = (wrV ks vs (CV n g1)).2.1.2.2 := by
        have a : (CV n g3).2.2 = (CV n g2).2.2 := by rw [e3]
        have b : (CV n g2).2.2 = _ := congrArg (fun V : VC => V.2.2) e2
        exact a.trans b
      rw [vd3, vr3]
      rfl
end
