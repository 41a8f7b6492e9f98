/-! the parts' calls, over the whole object -/
/-- of two heaps: all but the lists is the same -/
def dsm (g g' : Gh) : Prop := qi g' = qi g ∧ qk g' = qk g ∧ qr g' = qr g ∧ qB g' = qB g
def fndF (a b : Int32) (fs : List AF) : Option AF := (fs[plF a b fs]?).filter (isF a b)
def vApp (a b : Int32) (part : List Int32) (D : VD) : VD := ((appF a b part D.1 D.2.1).1, (appF a b part D.1 D.2.1).2.1, noteA a b (nI part.length) D.2.2.1, D.2.2.2)
def vDis (a b : Int32) (D : VD) : VD := match fndF a b D.1 with
  | some f => (D.1.eraseIdx (plF a b D.1), D.2.1 ++ [f.2.2.2.1], D.2.2)
  | none => D
def ensR (t : List Int32) (rs : List AR) : List AR := match (rs[plR t rs]?).filter (isR t) with
  | some _ => rs
  | none => rs.take (plR t rs) ++ (t, 0, 0, 0, 0) :: rs.drop (plR t rs)
theorem appF_len {a b : Int32} {part : List Int32} {fs : List AF} {sv : List Nat} : (appF a b part fs sv).1.length + (appF a b part fs sv).2.1.length ≤ max (fs.length + sv.length) (fs.length + 1) ∧ (appF a b part fs sv).1.length ≤ fs.length + 1 := by
  unfold appF insF
  split
  · simp only [List.length_set]
    omega
  · simp only [List.length_append, List.length_cons, List.length_take, List.length_drop, List.length_dropLast]
    have := plF_le a b fs
    omega
section
variable {n : Nat} {g g' : Gh} {α : Type} {Q : α → Gh → Prop}
theorem aiv_len (hA : AvI n g) : (AIV n g).length = acn n g := by
  unfold AIV
  rw [List.length_map, List.length_take]
  have := hA.2.1
  omega
theorem sv_len : (SV n g).length = (qL g (n + 11)).length := List.length_map ..
theorem fnd_F {a b : Int32} {d : Nat} (h : fnd n g a b = some d) : fndF a b (FV n g) = some (fvw g d) := by
  obtain ⟨h1, h2, h3⟩ := fnd_some h
  unfold fndF
  rw [fv_at h1]
  simp only [Option.filter_some]
  rw [if_pos]
  unfold isF fvw
  simpa using ⟨h2, h3⟩
theorem fnd_N {a b : Int32} (h : fnd n g a b = none) : fndF a b (FV n g) = none := by
  cases hw : fndF a b (FV n g) with
  | none => rfl
  | some w =>
    obtain ⟨h1, h2⟩ := Option.filter_eq_some_iff.mp hw
    have hlt := lt_of_some h1
    rw [fv_len] at hlt
    obtain ⟨d, hd⟩ := some_of_lt hlt
    rw [fv_at hd] at h1
    cases h1
    unfold fnd at h
    rw [hd] at h
    simp only at h
    have h3 : qi g 701 d = a ∧ qi g 702 d = b := of_decide_eq_true h2
    rw [if_pos h3] at h
    cases h
theorem cl_append {a b : Int32} {c f m : Nat} {x y : Int32} {k : Unit → M α} (h : CI n g) (hS : SrtF (FV n g)) (hc : qk g c = 5) (hc1 : ∀ d, d ∈ qL g (n + 11) → c ≠ d + 1) (hc2 : ∀ d, fnd n g a b = some d → c ≠ d + 1) (hx : x = nI f) (hy : y = nI m) (hl : f + m ≤ (qB g c).length) (h6 : ∀ v, v ∈ FV n g → v.2.2.1.length + m ≤ 30000) (h7 : m ≤ 30000) (hF : (FV n g).length ≤ 2200) (hV : (AIV n g).length ≤ 2100)
    (hk : ∀ g', Cp n g g' (appF a b (((qB g c).drop f).take m) (FV n g) (SV n g)).2.2 → CV n g' = (vApp a b (((qB g c).drop f).take m) (vD n g), (CV n g).2) → ((∀ e, qk g e = 5 → ¬ ownD n g e → qB g' e = qB g e) ∧ qL g' (n + 14) = qL g (n + 14)) → ok (k ()) g' Q) : ok (bd (X3_append (n + 9) a b c x y) k) g Q := by
  refine ok_nz (fun hz => ?_)
  have hfl := fv_len (n := n) (g := g)
  have hsl := sv_len (n := n) (g := g)
  have hal := aiv_len (ci_A h)
  have hpl : (((qB g c).drop f).take m).length = m := by rw [List.length_take, List.length_drop]; omega
  refine ok_append (ci_C h) (ci_D h) (ci_A h) hS hc hc1 hc2 hx hy hl h6 h7 (by omega) (by have := h.2.2.1; omega) (fun g' ha => ?_)
  obtain ⟨a1, a2, a3, a4, a5, a6, a7⟩ := ha
  have hb := appF_len (a := a) (b := b) (part := ((qB g c).drop f).take m) (fs := FV n g) (sv := SV n g)
  have hfl' := fv_len (n := n) (g := g')
  have hsl' := sv_len (n := n) (g := g')
  rw [a3] at hfl'
  rw [a4] at hsl'
  have h9 := h.2.2
  obtain ⟨l1, l2⟩ := lift_D h hz a1 a2 (by omega) (by omega)
  refine hk g' l1 ?_ ⟨fun e he hne => (a1.1.2.2.2 e (hz e (by omega)) hne).2.2.1.1, (keepR (ci_C h) (ci_R h) a1.1 hz (fun a ha q => ownDR (ci_C h) q ha)).2.2.1⟩
  rw [l2]
  unfold vApp vD
  rw [a3, a4, a5, a6, hpl]
def erF (n : Nat) (g : Gh) (a b : Int32) : List Nat := match fndF a b (FV n g) with
  | some _ => (qL g (n + 10)).eraseIdx (plF a b (FV n g))
  | none => qL g (n + 10)
theorem cl_discard {a b : Int32} {k : Int32 → M α} (h : CI n g) (hV : ∀ w, w ∈ AIV n g → ¬ (w.1 = a ∧ w.2.1 = b)) (hk : ∀ g', Cp n g g' 0 → CV n g' = (vDis a b (vD n g), (CV n g).2) → (dsm g g' ∧ qL g' (n + 10) = erF n g a b) → ok (k (bI (fndF a b (FV n g)).isSome)) g' Q) : ok (bd (X3_discard (n + 9) a b) k) g Q := by
  refine ok_nz (fun hz => ?_)
  have h9 := h.2.2
  refine ok_discard (ci_C h) (ci_D h) (by omega) (fun hn => ?_) (fun d hd hp => ?_)
  · have e := fnd_N hn
    have := hk g (cp_refl h) (by unfold vDis vD CV; simp only [e]; rfl) ⟨⟨rfl, rfl, rfl, rfl⟩, by unfold erF; rw [e]⟩
    rw [e] at this
    exact this
  · have e := fnd_F hd
    obtain ⟨f1, f2, f3⟩ := fnd_some hd
    have l10 := dsc_L10 (n := n) (g := g) (p := plF a b (FV n g)) (d := d)
    have l11 := dsc_L11 (n := n) (g := g) (p := plF a b (FV n g)) (d := d)
    have l12 := dsc_L12 (n := n) (g := g) (p := plF a b (FV n g)) (d := d)
    have hA := ci_A h
    have hac : acn n (dsc n g (plF a b (FV n g)) d) = acn n g := rfl
    have hA2 : AvI n (dsc n g (plF a b (FV n g)) d) := by
      refine ⟨hA.1, by rw [l12]; exact hA.2.1, by rw [l12]; exact hA.2.2.1, by rw [l12]; exact hA.2.2.2.1, fun v hv => ?_⟩
      rw [hac, l12] at hv
      have hm := hA.2.2.2.2 v hv
      have hne : qr g 300 v ≠ d := by
        intro q
        refine hV (avw g v) (List.mem_map.mpr ⟨v, hv, rfl⟩) ?_
        unfold avw
        rw [q]
        exact ⟨f2, f3⟩
      rw [l10]
      show qr g 300 v ∈ _
      have : qL g (n + 10) = (qL g (n + 10)).take (plF a b (FV n g)) ++ d :: (qL g (n + 10)).drop (plF a b (FV n g) + 1) := by
        rw [← drop_cons f1, List.take_append_drop]
      rw [List.eraseIdx_eq_take_drop_succ]
      rw [this, List.mem_append, List.mem_cons] at hm
      rw [List.mem_append]
      rcases hm with q | q | q
      · exact Or.inl q
      · exact absurd q hne
      · exact Or.inr q
    have hp1 := lt_of_some f1
    obtain ⟨m1, m2⟩ := lift_D h hz hp hA2 (by rw [l12]; omega) (by rw [l10, l11, List.length_eraseIdx_of_lt hp1]; simp; omega)
    have := hk _ m1 ?_ ⟨⟨rfl, rfl, rfl, rfl⟩, by unfold erF; rw [e]; exact dsc_L10⟩
    · rw [e] at this
      exact this
    · rw [m2]
      unfold vDis vD
      simp only [e]
      rw [dsc_FV, dsc_SV]
      have : AIV n (dsc n g (plF a b (FV n g)) d) = AIV n g := by
        unfold AIV
        rw [hac, l12]
        rfl
      rw [this]
      rfl
theorem cl_settle {k : Unit → M α} (h : CI n g) (hk : ∀ g', Cp n g g' 0 → CV n g' = (((FV n g).map (fun f => (f.1, f.2.1, f.2.2.1, f.2.2.2.1, 0)), SV n g, [], DSC n g), (CV n g).2) → ok (k ()) g' Q) : ok (bd (X3_settle (n + 9)) k) g Q := by
  refine ok_nz (fun hz => ok_settle (ci_C h) (ci_D h) ?_)
  have hA := ci_A h
  have hf := settle_fra (ci_D h)
  have hfv := settle_FV (n := n) (g := g)
  generalize hg : wI (wF g (stF n g (qL g (n + 10)).length)) 603 (n + 9) 0 = g2 at *
  have hac : acn n g2 = 0 := by
    rw [← hg, acn, p_qi_wI, u2_eq]
    rfl
  have hL : qL g2 = qL g := by rw [← hg]; rfl
  have hkk : qk g2 = qk g := by rw [← hg]; rfl
  have hA2 : AvI n g2 := by
    refine ⟨?_, by omega, by rw [hL, hkk]; exact hA.2.2.1, by rw [hL]; exact hA.2.2.2.1, fun v hv => ?_⟩
    · rw [hac, ← hg, p_qi_wI, u2_eq]
      rfl
    · rw [hac] at hv
      simp at hv
  have h9 := h.2.2
  have hD0 := ci_D h
  have hD2 : DI n g2 := by rw [← hg]; exact hD0
  have hac2 : acc n g g2 0 := by rw [← hg]; exact ⟨⟨Nat.le_refl _, Nat.le_refl _⟩, fun h => h⟩
  obtain ⟨m1, m2⟩ := lift_D h hz ⟨hf, hac2, hD2⟩ hA2 (by rw [hL]; omega) (by rw [hL]; omega)
  refine hk g2 m1 ?_
  rw [m2]
  unfold vD
  have e1 : SV n g2 = SV n g := by rw [← hg]; rfl
  have e2 : AIV n g2 = [] := by
    unfold AIV
    rw [hac]
    rfl
  have e3 : DSC n g2 = DSC n g := by
    rw [← hg]
    unfold DSC
    rw [p_qi_wI, u2_ne (by omega), u2_ne (by omega), u2_ne (by omega), p_qi_wF]
    unfold stF
    rw [if_neg (by omega), if_neg (by omega), if_neg (by omega)]
  rw [hfv, e1, e2, e3]
theorem fra9 {P : Nat → Prop} {j : Nat} {v : Int32} (hP : P (n + 9)) : fra P g (wI g j (n + 9) v) := fra_wI hP
theorem cl_clear {c f : Int32} {k : Unit → M α} (h : CI n g) (hk : ∀ g', Cp n g g' 0 → CV n g' = (([], SV n g ++ (FV n g).reverse.map (fun f => f.2.2.2.1), [], c, f, 1), (CV n g).2) → ok (k ()) g' Q) : ok (bd (X3_clear (n + 9) c f) k) g Q := by
  refine ok_nz (fun hz => ?_)
  have h9 := h.2.2
  refine ok_clear (ci_C h) (ci_D h) (by omega) (fun g1 hp h10 hsv h12 => ?_)
  have hA := ci_A h
  generalize hg : wI (wI (wI (wI g1 603 (n + 9) 0) 604 (n + 9) c) 605 (n + 9) f) 606 (n + 9) 1 = g2
  have hq : qi g2 = u2 (u2 (u2 (u2 (qi g1) 603 (n + 9) 0) 604 (n + 9) c) 605 (n + 9) f) 606 (n + 9) 1 := by rw [← hg]; rfl
  have o9 : ownD n g1 (n + 9) := Or.inr (Or.inr (Or.inr (Or.inl rfl)))
  have hf1 : fra (ownD n g1) g1 g2 := by
    rw [← hg]
    exact fra_trans (P' := ownD n g1) (fra_trans (P' := ownD n g1) (fra_trans (P' := ownD n g1) (fra_wI o9) (fra_wI o9) (fun _ _ h => h)) (fra_wI o9) (fun _ _ h => h)) (fra_wI o9) (fun _ _ h => h)
  have hL : qL g2 = qL g1 := by rw [← hg]; rfl
  have hD2 : DI n g2 := by rw [← hg]; exact hp.2.2
  have hac2 : acc n g1 g2 0 := by rw [← hg]; exact ⟨⟨Nat.le_refl _, Nat.le_refl _⟩, fun h => h⟩
  have hac : acn n g2 = 0 := by
    rw [acn, hq, u2_ne (by omega), u2_ne (by omega), u2_ne (by omega), u2_eq]
    rfl
  have hp2 : Dp n g g2 0 := ⟨frD_trans hp.1 hf1, acc_trans hp.2.1 hac2, hD2⟩
  have hA2 : AvI n g2 := by
    refine ⟨?_, by omega, ?_, by rw [hL, h12]; exact hA.2.2.2.1, fun v hv => ?_⟩
    · rw [hac, hq, u2_ne (by omega), u2_ne (by omega), u2_ne (by omega), u2_eq]
      rfl
    · intro v hv
      rw [hL, h12] at hv
      exact fra_k hp2.1 hz (hA.2.2.1 v hv) (by decide)
    · rw [hac] at hv
      simp at hv
  have hsl := sv_len (n := n) (g := g1)
  rw [hsv] at hsl
  simp only [List.length_append, List.length_map, List.length_reverse] at hsl
  rw [sv_len, fv_len] at hsl
  obtain ⟨m1, m2⟩ := lift_D h hz hp2 hA2 (by rw [hL, h12]; omega) (by rw [hL, h10]; simp; omega)
  refine hk g2 m1 ?_
  rw [m2]
  unfold vD
  have e1 : SV n g2 = SV n g1 := by rw [← hg]; rfl
  have e2 : AIV n g2 = [] := by
    unfold AIV
    rw [hac]
    rfl
  have e3 : DSC n g2 = (c, f, 1) := by
    unfold DSC
    rw [hq, u2_ne (by omega), u2_ne (by omega), u2_eq, u2_ne (by omega), u2_eq, u2_eq]
  have e4 : FV n g2 = [] := by
    unfold FV
    rw [hL, h10]
    rfl
  rw [e1, e2, e3, e4, hsv]
/-- one of the disk's own numbers -/
theorem lift_nn {v : Int32} (h : CI n g) (hz : ∀ a, qk g a ≠ 0 → a < qn g) : Cp n g (wI g 606 (n + 9) v) 0 ∧ CV n (wI g 606 (n + 9) v) = ((FV n g, SV n g, AIV n g, (DSC n g).1, (DSC n g).2.1, v), (CV n g).2) := by
  have hA := ci_A h
  have h9 := h.2.2
  have hq : qi (wI g 606 (n + 9) v) = u2 (qi g) 606 (n + 9) v := rfl
  have hac : acn n (wI g 606 (n + 9) v) = acn n g := by
    rw [acn, hq, u2_ne (by omega)]
    rfl
  have hA2 : AvI n (wI g 606 (n + 9) v) := ⟨by rw [hac, hq, u2_ne (by omega)]; exact hA.1, by rw [hac]; exact hA.2.1, hA.2.2.1, hA.2.2.2.1, by rw [hac]; exact hA.2.2.2.2⟩
  obtain ⟨m1, m2⟩ := lift_D h hz (z := 0) ⟨fra_wI (j := 606) (v := v) (Or.inr (Or.inr (Or.inr (Or.inl rfl)))), ⟨⟨Nat.le_refl _, Nat.le_refl _⟩, fun h => h⟩, ci_D h⟩ hA2 h9.1 h9.2.2
  refine ⟨m1, ?_⟩
  rw [m2]
  have e1 : FV n (wI g 606 (n + 9) v) = FV n g := by
    unfold FV
    apply List.map_congr_left
    intro d _
    unfold fvw
    rw [hq, u2_ne (by omega), u2_ne (by omega), u2_ne (by omega)]
    rfl
  have e2 : AIV n (wI g 606 (n + 9) v) = AIV n g := by
    unfold AIV
    rw [hac]
    apply List.map_congr_left
    intro w _
    unfold avw
    rw [hq, u2_ne (by omega), u2_ne (by omega), u2_ne (by omega)]
    rfl
  have e3 : DSC n (wI g 606 (n + 9) v) = ((DSC n g).1, (DSC n g).2.1, v) := by
    unfold DSC
    rw [hq, u2_ne (by omega), u2_ne (by omega), u2_eq]
  unfold vD
  rw [e1, e2, e3]
  rfl
theorem cl_takeNumber {k : Int32 → M α} (h : CI n g) (hk : ∀ g', Cp n g g' 0 → CV n g' = ((FV n g, SV n g, AIV n g, (DSC n g).1, (DSC n g).2.1, (DSC n g).2.2 + 1), (CV n g).2) → ok (k (DSC n g).2.2) g' Q) : ok (bd (X3_takeNumber (n + 9)) k) g Q := by
  refine ok_nz (fun hz => ok_takeNumber (ci_C h) ?_)
  obtain ⟨m1, m2⟩ := lift_nn (v := qi g 606 (n + 9) + 1) h hz
  exact hk _ m1 m2
theorem cl_takeNumber2 {k : Int32 → M α} (h : CI n g) (hk : ∀ g', Cp n g g' 0 → CV n g' = ((FV n g, SV n g, AIV n g, (DSC n g).1, (DSC n g).2.1, (DSC n g).2.2 + 1), (CV n g).2) → qL g' = qL g → ok (k (DSC n g).2.2) g' Q) : ok (bd (X3_takeNumber (n + 9)) k) g Q := by
  refine ok_nz (fun hz => ok_takeNumber (ci_C h) ?_)
  obtain ⟨m1, m2⟩ := lift_nn (v := qi g 606 (n + 9) + 1) h hz
  exact hk _ m1 m2 rfl
theorem cl_countNumbers {k : Unit → M α} (h : CI n g) (hk : ∀ g', Cp n g g' 0 → CV n g' = ((FV n g, SV n g, AIV n g, (DSC n g).1, (DSC n g).2.1, nxN (FV n g)), (CV n g).2) → ok (k ()) g' Q) : ok (bd (X3_countNumbers (n + 9)) k) g Q := by
  refine ok_nz (fun hz => ok_countNumbers (ci_C h) (ci_D h) ?_)
  obtain ⟨m1, m2⟩ := lift_nn (v := nxN (FV n g)) h hz
  exact hk _ m1 m2
theorem cl_rowFor {c f m : Nat} {x y : Int32} {k : Nat → M α} (h : CI n g) (hS : SrtR (RV n g)) (hc : qk g c = 5) (hco : ¬ ownR n g c) (hx : x = nI f) (hy : y = nI m) (hl : f + m ≤ (qB g c).length) (hm : m ≤ 16) (hR : (RV n g).length ≤ 1200)
    (hk : ∀ gi r, Cp n g gi 0 → CV n gi = (vD n g, ensR (((qB g c).drop f).take m) (RV n g), (CV n g).2.2) → (qL gi (n + 14))[plR (((qB g c).drop f).take m) (RV n g)]? = some r → fra (ownR n g) g gi → ok (k r) gi Q) : ok (bd (X2_rowFor (n + 13) c x y) k) g Q := by
  refine ok_nz (fun hz => ?_)
  have h9 := h.2.2
  have hrl := rv_len (n := n) (g := g)
  refine ok_rowFor (ci_C h) (ci_R h) hS hc hco hx hy hl hm (by omega) (fun r hr h0 => ?_) (fun gi r hno hi => ?_)
  · refine hk g r (cp_refl h) ?_ hr fra_refl
    unfold ensR
    rw [rv_at hr]
    simp only [Option.filter_some]
    rw [if_pos (show isR _ (rvw g r) = true from decide_eq_true h0)]
    rfl
  · obtain ⟨i1, i2, i3, i4, i5⟩ := hi
    have hp := plR_le (((qB g c).drop f).take m) (RV n g)
    rw [rv_len] at hp
    have hlen : (qL gi (n + 14)).length = (qL g (n + 14)).length + 1 := by
      rw [i2]
      simp only [List.length_append, List.length_cons, List.length_take, List.length_drop]
      omega
    obtain ⟨m1, m2⟩ := lift_R h hz i1 (by omega)
    refine hk gi r m1 ?_ ?_ i1.1
    · rw [m2, i3]
      unfold ensR
      have en : ((RV n g)[plR (((qB g c).drop f).take m) (RV n g)]?).filter (isR (((qB g c).drop f).take m)) = none := by
        cases hw : (RV n g)[plR (((qB g c).drop f).take m) (RV n g)]? with
        | none => rfl
        | some w =>
          simp only [Option.filter_some]
          rw [if_neg]
          intro q
          exact hno w hw (of_decide_eq_true q)
      rw [en]
    · rw [i2, List.getElem?_append_right (by rw [List.length_take]; omega), List.length_take]
      rw [show plR (((qB g c).drop f).take m) (RV n g) - min (plR (((qB g c).drop f).take m) (RV n g)) (qL g (n + 14)).length = 0 by omega]
      rfl
theorem cl_tell {p r : Nat} {a b c d : Int32} {k : Unit → M α} (h : CI n g) (hp : (qL g (n + 14))[p]? = some r) (hk : ∀ g', Cp n g g' 0 → CV n g' = (vD n g, (RV n g).set p (qB g (r + 1), a, b, c, d), (CV n g).2.2) → (∀ e, qB g' e = qB g e) → qL g' = qL g → ok (k ()) g' Q) : ok (bd (X7_tell r a b c d) k) g Q := by
  refine ok_nz (fun hz => ok_tell (ri_at (ci_R h) hp) ?_)
  obtain ⟨t1, t2⟩ := tel_Rp (a := a) (b := b) (c := c) (d := d) (ci_R h) hp
  obtain ⟨m1, m2⟩ := lift_R h hz t1 h.2.2.2.1
  exact hk _ m1 (by rw [m2, t2]) (fun _ => rfl) rfl
theorem cl_tell2 {p r : Nat} {a b c d : Int32} {k : Unit → M α} (h : CI n g) (hp : (qL g (n + 14))[p]? = some r) (hk : ∀ g', Cp n g g' 0 → CV n g' = (vD n g, (RV n g).set p (qB g (r + 1), a, b, c, d), (CV n g).2.2) → fra (ownR n g) g g' → ok (k ()) g' Q) : ok (bd (X7_tell r a b c d) k) g Q := by
  refine ok_nz (fun hz => ok_tell (ri_at (ci_R h) hp) ?_)
  obtain ⟨t1, t2⟩ := tel_Rp (a := a) (b := b) (c := c) (d := d) (ci_R h) hp
  obtain ⟨m1, m2⟩ := lift_R h hz t1 h.2.2.2.1
  exact hk _ m1 (by rw [m2, t2]) t1.1
theorem cl_drop {p : Nat} {x : Int32} {k : Unit → M α} (h : CI n g) (hx : x = nI p) (hp : p < (RV n g).length) (hk : ∀ g', Cp n g g' 0 → CV n g' = (vD n g, (RV n g).eraseIdx p, (CV n g).2.2) → ok (k ()) g' Q) : ok (bd (X2_drop (n + 13) x) k) g Q := by
  refine ok_nz (fun hz => ?_)
  have h9 := h.2.2
  rw [rv_len] at hp
  obtain ⟨r, hr⟩ := some_of_lt hp
  refine ok_drop (ci_C h) (ci_R h) hx hr (by omega) (fun hq => ?_)
  obtain ⟨m1, m2⟩ := lift_R h hz hq (by rw [dro_L14, dro_L15, List.length_eraseIdx_of_lt hp]; simp; omega)
  exact hk _ m1 (by rw [m2, dro_RV])
theorem cl_rclear {k : Unit → M α} (h : CI n g) (hk : ∀ g', Cp n g g' 0 → CV n g' = (vD n g, [], (CV n g).2.2) → ok (k ()) g' Q) : ok (bd (X2_clear (n + 13)) k) g Q := by
  refine ok_nz (fun hz => ?_)
  have h9 := h.2.2
  refine ok_rclear (ci_C h) (ci_R h) (by omega) (fun g' hp h14 h15 => ?_)
  obtain ⟨m1, m2⟩ := lift_R h hz hp (by rw [h14]; simp; omega)
  refine hk _ m1 ?_
  rw [m2]
  unfold RV
  rw [h14]
  rfl
theorem cl_dropRemovals {k : Unit → M α} (h : CI n g) (hk : ∀ g', Cp n g g' 0 → CV n g' = (vD n g, (RV n g).filter (fun r => decide (r.2.2.2.1 ≠ -1)), (CV n g).2.2) → ok (k ()) g' Q) : ok (bd (X2_dropRemovals (n + 13)) k) g Q := by
  refine ok_nz (fun hz => ?_)
  have h9 := h.2.2
  refine ok_dropRemovals (ci_C h) (ci_R h) (by omega) (fun g' hp h14 h15 => ?_)
  obtain ⟨m1, m2⟩ := lift_R h hz hp (by omega)
  refine hk _ m1 ?_
  rw [m2, h14]
end
