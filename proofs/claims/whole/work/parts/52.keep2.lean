/-! throwing -/
def wE (g : Gh) : Gh := (qn g + 1, qs g + 6, qk g, qi g, qr g, qB g, qC g, qL g, qE g, qA g, qW g)
def fin {ρ : Type} (r : Nat ⊕ ρ) (g : Gh) : Gh := match r with
  | .inl _ => wE g
  | .inr _ => g
theorem ok_th {ρ : Type} {k : Nat} {g : Gh} {Q : Nat ⊕ ρ → Gh → Prop} (hq : Q (.inl k) (wE g)) : ok (th k) g Q := by
  intro h ha
  obtain ⟨w, A⟩ := ha
  have kz := A.1.2.2
  refine ⟨.inl k, nX h, wE g, rfl, abs_ext (w' := w) A ?_ ?_ ?_ (fun a _ => ⟨rfl, rfl, fun _ => rfl, rfl, rfl, rfl, rfl⟩) (fun a _ => ⟨rfl, fun _ => rfl, fun _ => rfl, rfl, rfl, rfl, rfl, rfl, rfl⟩) (fun a ha hk => ?_), hq⟩
  · show hn h + 1 = qn g + 1
    rw [A.1.1]
  · show sl h + 6 = qs g + 6
    rw [A.1.2.1]
  · exact Nat.le_succ _
  · have := (kz a hk).2
    omega
theorem ci_wE {n : Nat} {g : Gh} (h : CI n g) : CI n (wE g) := h
theorem cv_wE {n : Nat} {g : Gh} : CV n (wE g) = CV n g := rfl
/-! a write -/
def isNew (V : VC) (m : Nat) : Bool := decide (V.2.2.2.2.1.2.1 = -1 ∨ V.1.2.2.2.2.1 < nI (szF V.2.2.2.2.1.2.1 0 V.1.1) + nI m)
def takN (V : VC) : VC := si1109 V.1.2.2.2.2.2 (sDd (V.1.1, V.1.2.1, V.1.2.2.1, V.1.2.2.2.1, V.1.2.2.2.2.1, V.1.2.2.2.2.2 + 1) V)
def wrV (ks vs : Int32) (V : VC) : Int32 × VC × Nat :=
  let r := recB V.2.2.2.2.1.2.2.1 ks vs V.2.2.2.2.2.1
  let V2 := si1110 (V.2.2.2.2.1.2.2.1 + 1) (sB7 r V)
  let V3 := match isNew V r.length with
    | true => takN V2
    | false => V2
  (match isNew V r.length with
    | true => 0
    | false => nI (szF V.2.2.2.2.1.2.1 0 V.1.1), sDd (vApp V3.2.2.2.2.1.2.1 0 r V3.1) V3, (appF V3.2.2.2.2.1.2.1 0 r V3.1.1 V3.1.2.1).2.2)
section
variable {n : Nat} {g g' : Gh} {α : Type} {Q : α → Gh → Prop}
theorem k_b147 {Q : Int32 → Gh → Prop} {i : Int32} (h : CI n g) (hS : SrtF (FV n g)) (hd : (qB g (n + 7)).length ≤ 120) (h6 : ∀ v, v ∈ FV n g → v.2.2.1.length ≤ 20000) (hF : (FV n g).length ≤ 2200) (hV : (AIV n g).length ≤ 2100)
    (hk : ∀ g', Cp n g g' (appF (qi g 1109 n) 0 (qB g (n + 7)) (FV n g) (SV n g)).2.2 → CV n g' = sDd (vApp (qi g 1109 n) 0 (qB g (n + 7)) (vD n g)) (CV n g) → Q i g') : ok (X8_write_b147 n i) g Q := by
  unfold X8_write_b147
  have hC := ci_C h
  refine ok_xd hC (ok_gI (cs_x hC) rfl (ok_xdraft hC (ok_xdraft hC (ok_ck (cs_draft hC) (ok_bsize (cs_draft hC) (ok_ck (cs_disk hC) (cl_append (f := 0) (m := (qB g (n + 7)).length) h hS (cs_draft hC) (fun d hd e => ?_) (fun d hd e => ?_) rfl rfl (by omega) (fun v hv => by have := h6 v hv; omega) (by omega) hF hV (fun g' p e _ => ok_pu (hk g' ?_ ?_)))))))))
  · have := ((ci_D h).1 d (List.mem_append_right _ hd)).2.2.2
    omega
  · have := (fnd_ok (ci_D h) hd).2.2.2
    omega
  · rw [List.drop_zero, List.take_length] at p
    exact p
  · rw [List.drop_zero, List.take_length] at e
    exact e
theorem k_write {ks vs : Int32} {k : Int32 → M α} (h : CI n g) (hS : SrtF (FV n g)) (hd : (qB g (n + 3)).length ≤ 80) (h6 : ∀ v, v ∈ FV n g → v.2.2.1.length ≤ 20000) (hF : (FV n g).length ≤ 2200) (hV : (AIV n g).length ≤ 2100)
    (hk : ∀ g', Cp n g g' (wrV ks vs (CV n g)).2.2 → CV n g' = (wrV ks vs (CV n g)).2.1 → ok (k (wrV ks vs (CV n g)).1) g' Q) : ok (bd (X8_write n ks vs) k) g Q := by
  refine ok_lenB (cs_draft (ci_C h)) (fun _ => ok_bd ?_)
  unfold X8_write
  have hC := ci_C h
  refine ok_xdraft hC (ok_ck (cs_draft hC) (st_clr7 h (fun g1 p1 e1 b1 => ?_)))
  have h1 := p1.2.2
  have hC1 := ci_C h1
  have d1 : qB g1 (n + 7) = [] := congrArg (fun V : VC => V.2.2.2.2.2.2.1) e1
  refine ok_xdraft hC1 (ok_ck (cs_draft hC1) (st_four7 h1 (by rw [d1]; simp) (fun g2 p2 e2 b2 => ?_)))
  have h2 := p2.2.2
  have hC2 := ci_C h2
  have d2 : qB g2 (n + 7) = be4 0 := by
    have := congrArg (fun V : VC => V.2.2.2.2.2.2.1) e2
    rw [d1] at this
    exact this
  have st2 : qi g2 1110 n = qi g 1110 n := by
    have a := congrArg (fun V : VC => V.2.2.2.2.1.2.2.1) e2
    have b := congrArg (fun V : VC => V.2.2.2.2.1.2.2.1) e1
    exact a.trans b
  refine ok_xdraft hC2 (ok_gI (cs_x hC2) st2 (ok_ck (cs_draft hC2) (st_four7 h2 (by rw [d2]; decide) (fun g3 p3 e3 b3 => ?_))))
  have h3 := p3.2.2
  have hC3 := ci_C h3
  have d3 : qB g3 (n + 7) = be4 0 ++ be4 (qi g 1110 n) := by
    have := congrArg (fun V : VC => V.2.2.2.2.2.2.1) e3
    rw [d2] at this
    exact this
  refine ok_xdraft hC3 (ok_ck (cs_draft hC3) (st_two7 h3 (by rw [d3]; simp [be4_len]) (fun g4 p4 e4 b4 => ?_)))
  have h4 := p4.2.2
  have hC4 := ci_C h4
  have d4 : qB g4 (n + 7) = be4 0 ++ be4 (qi g 1110 n) ++ be2 ks := by
    have := congrArg (fun V : VC => V.2.2.2.2.2.2.1) e4
    rw [d3] at this
    exact this
  refine ok_xdraft hC4 (ok_ck (cs_draft hC4) (st_four7 h4 (by rw [d4]; simp [be4_len, be2_len]) (fun g5 p5 e5 b5 => ?_)))
  have h5 := p5.2.2
  have hC5 := ci_C h5
  have d5 : qB g5 (n + 7) = be4 0 ++ be4 (qi g 1110 n) ++ be2 ks ++ be4 vs := by
    have := congrArg (fun V : VC => V.2.2.2.2.2.2.1) e5
    rw [d4] at this
    exact this
  have tk5 : qB g5 (n + 3) = qB g (n + 3) := by rw [b5 _ (by omega), b4 _ (by omega), b3 _ (by omega), b2 _ (by omega), b1 _ (by omega)]
  refine ok_xdraft hC5 (ok_xtaken hC5 (ok_xtaken hC5 (ok_ck (cs_taken hC5) (ok_bsize (cs_taken hC5) (ok_ck (cs_draft hC5) (st_part7 (f := 0) (m := (qB g5 (n + 3)).length) h5 (cs_taken hC5) (by omega) rfl rfl (by omega) (by rw [d5, tk5]; simp [be4_len, be2_len]; omega) (fun g6 p6 e6 b6 => ?_)))))))
  have h6' := p6.2.2
  have hC6 := ci_C h6'
  have d6 : qB g6 (n + 7) = be4 0 ++ (be4 (qi g 1110 n) ++ be2 ks ++ be4 vs ++ qB g (n + 3)) := by
    have := congrArg (fun V : VC => V.2.2.2.2.2.2.1) e6
    rw [d5, tk5, List.drop_zero, List.take_length] at this
    simp only [List.append_assoc] at this ⊢
    exact this
  generalize hb : be4 (qi g 1110 n) ++ be2 ks ++ be4 vs ++ qB g (n + 3) = body at d6
  have hbl : body.length = 10 + (qB g (n + 3)).length := by
    rw [← hb]
    simp only [List.length_append, be4_len, be2_len]
  have d6l : (qB g6 (n + 7)).length = 4 + body.length := by rw [d6, List.length_append, be4_len]
  refine ok_xdraft hC6 (ok_xdraft hC6 (ok_xdraft hC6 (ok_ck (cs_draft hC6) (ok_bsize (cs_draft hC6) (ok_ck (cs_draft hC6) (ok_bsum (f := 4) (t := (qB g6 (n + 7)).length) (cs_draft hC6) rfl rfl (by omega) (Nat.le_refl _) (ok_ck (cs_draft hC6) (st_chg7 h6' (by omega) (fun g7 p7 e7 b7 => ?_)))))))))
  have h7 := p7.2.2
  have hC7 := ci_C h7
  have hsum : ((qB g6 (n + 7)).drop 4).take ((qB g6 (n + 7)).length - 4) = body := by
    rw [d6l, d6, List.drop_append_of_le_length (by rw [be4_len]; omega), show (be4 0).drop 4 = [] from rfl, List.nil_append, Nat.add_sub_cancel_left, List.take_length]
  have d7 : qB g7 (n + 7) = recB (qi g 1110 n) ks vs (qB g (n + 3)) := by
    have := congrArg (fun V : VC => V.2.2.2.2.2.2.1) e7
    rw [hsum, d6, List.drop_append_of_le_length (by rw [be4_len]; omega), show (be4 0).drop 4 = [] from rfl, List.nil_append] at this
    unfold recB
    rw [hb]
    exact this
  have hdr : ∀ (l l' : List Int32) (V : VC), sB7 l (sB7 l' V) = sB7 l V := fun _ _ _ => rfl
  have E7 : CV n g7 = sB7 (recB (qi g 1110 n) ks vs (qB g (n + 3))) (CV n g) := by
    rw [← d7]
    have : CV n g7 = sB7 (qB g7 (n + 7)) (CV n g6) := by
      have q := congrArg (fun V : VC => V.2.2.2.2.2.2.1) e7
      have q2 : qB g7 (n + 7) = _ := q
      rw [q2]
      exact e7
    rw [this, e6, hdr, e5, hdr, e4, hdr, e3, hdr, e2, hdr, e1, hdr]
  have P7 : Cp n g g7 0 := cp_trans0 (cp_trans0 (cp_trans0 (cp_trans0 (cp_trans0 (cp_trans0 p1 p2) p3) p4) p5) p6) p7
  have st7 : qi g7 1110 n = qi g 1110 n := congrArg (fun V : VC => V.2.2.2.2.1.2.2.1) E7
  refine ok_gI (cs_x hC7) st7 (st_i1110 h7 (fun g8 p8 e8 b8 l8 => ?_))
  have h8 := p8.2.2
  have hC8 := ci_C h8
  rw [E7] at e8
  have P8 : Cp n g g8 0 := cp_trans0 P7 p8
  generalize hr : recB (qi g 1110 n) ks vs (qB g (n + 3)) = r at *
  have hrl : r.length = 14 + (qB g (n + 3)).length := by rw [← hr, recB_len]
  have dr8 : qB g8 (n + 7) = r := congrArg (fun V : VC => V.2.2.2.2.2.2.1) e8
  have fv8 : FV n g8 = FV n g := congrArg (fun V : VC => V.1.1) e8
  have sv8 : SV n g8 = SV n g := congrArg (fun V : VC => V.1.2.1) e8
  have ai8 : AIV n g8 = AIV n g := congrArg (fun V : VC => V.1.2.2.1) e8
  have ac8 : qi g8 1109 n = qi g 1109 n := congrArg (fun V : VC => V.2.2.2.2.1.2.1) e8
  have fm8 : qi g8 605 (n + 9) = qi g 605 (n + 9) := congrArg (fun V : VC => V.1.2.2.2.2.1) e8
  refine ok_xd hC8 (ok_gI (cs_x hC8) ac8 (ok_ck (cs_disk hC8) (ok_sizeOf hC8 (ci_D h8) (ok_gI (cs_x hC8) ac8 ?_))))
  rw [szO_F, fv8]
  have eN : isNew (CV n g) r.length = decide (qi g 1109 n = -1 ∨ qi g 605 (n + 9) < nI (szF (qi g 1109 n) 0 (FV n g)) + nI r.length) := rfl
  have hwr : wrV ks vs (CV n g) = (match isNew (CV n g) r.length with
      | true => 0
      | false => nI (szF (qi g 1109 n) 0 (FV n g)), sDd (vApp (match isNew (CV n g) r.length with
      | true => takN (si1110 (qi g 1110 n + 1) (sB7 r (CV n g)))
      | false => si1110 (qi g 1110 n + 1) (sB7 r (CV n g))).2.2.2.2.1.2.1 0 r (match isNew (CV n g) r.length with
      | true => takN (si1110 (qi g 1110 n + 1) (sB7 r (CV n g)))
      | false => si1110 (qi g 1110 n + 1) (sB7 r (CV n g))).1) (match isNew (CV n g) r.length with
      | true => takN (si1110 (qi g 1110 n + 1) (sB7 r (CV n g)))
      | false => si1110 (qi g 1110 n + 1) (sB7 r (CV n g))), (appF (match isNew (CV n g) r.length with
      | true => takN (si1110 (qi g 1110 n + 1) (sB7 r (CV n g)))
      | false => si1110 (qi g 1110 n + 1) (sB7 r (CV n g))).2.2.2.2.1.2.1 0 r (match isNew (CV n g) r.length with
      | true => takN (si1110 (qi g 1110 n + 1) (sB7 r (CV n g)))
      | false => si1110 (qi g 1110 n + 1) (sB7 r (CV n g))).1.1 (match isNew (CV n g) r.length with
      | true => takN (si1110 (qi g 1110 n + 1) (sB7 r (CV n g)))
      | false => si1110 (qi g 1110 n + 1) (sB7 r (CV n g))).1.2.1).2.2) := by
    rw [← hr]
    rfl
  rw [hwr] at hk
  have b134 : isNew (CV n g) r.length = true → ok (X8_write_b134 n) g8 (fun v g1 => ok (k v) g1 Q) := by
    intro hnw
    rw [hnw] at hk
    unfold X8_write_b134
    refine ok_xd hC8 (ok_ck (cs_disk hC8) (cl_takeNumber h8 (fun g9 p9 e9 => ?_)))
    have h9 := p9.2.2
    refine st_i1109 h9 (fun g10 p10 e10 b10 l10 => ?_)
    have h10 := p10.2.2
    have e11 : CV n g10 = takN (si1110 (qi g 1110 n + 1) (sB7 r (CV n g))) := by
      rw [e10, e9]
      unfold takN
      rw [← e8]
      rfl
    have dr10 : qB g10 (n + 7) = r := congrArg (fun V : VC => V.2.2.2.2.2.2.1) e11
    have fv10 : FV n g10 = FV n g := congrArg (fun V : VC => V.1.1) e11
    have sv10 : SV n g10 = SV n g := congrArg (fun V : VC => V.1.2.1) e11
    have ai10 : AIV n g10 = AIV n g := congrArg (fun V : VC => V.1.2.2.1) e11
    have ac10 : qi g10 1109 n = qi g 606 (n + 9) := congrArg (fun V : VC => V.2.2.2.2.1.2.1) e11
    have vd10 : vD n g10 = (takN (si1110 (qi g 1110 n + 1) (sB7 r (CV n g)))).1 := congrArg (fun V : VC => V.1) e11
    refine k_b147 h10 (by rw [fv10]; exact hS) (by rw [dr10]; omega) (by rw [fv10]; exact h6) (by rw [fv10]; exact hF) (by rw [ai10]; exact hV) (fun g' p e => hk g' ?_ ?_)
    · rw [dr10, fv10, sv10, ac10] at p
      exact cp_trans0 (cp_trans0 (cp_trans0 P8 p9) p10) p
    · rw [dr10, ac10, vd10, e11] at e
      exact e
  by_cases c1 : qi g 1109 n = -1
  · exact ok_itT c1 (b134 (by rw [eN]; exact decide_eq_true (Or.inl c1)))
  · refine ok_itF c1 (ok_xdraft hC8 (ok_ck (cs_draft hC8) (ok_bsize (cs_draft hC8) (ok_xd hC8 (ok_gI (cs_disk hC8) fm8 ?_)))))
    rw [dr8]
    by_cases c2 : qi g 605 (n + 9) < nI (szF (qi g 1109 n) 0 (FV n g)) + nI r.length
    · exact ok_itF (Int32.not_le.mpr c2) (b134 (by rw [eN]; exact decide_eq_true (Or.inr c2)))
    · have hnw : isNew (CV n g) r.length = false := by
        rw [eN]
        exact decide_eq_false (by rintro (q | q); exact c1 q; exact c2 q)
      rw [hnw] at hk
      have vd8 : vD n g8 = (si1110 (qi g 1110 n + 1) (sB7 r (CV n g))).1 := congrArg (fun V : VC => V.1) e8
      refine ok_itT (Int32.not_lt.mp c2) (k_b147 h8 (by rw [fv8]; exact hS) (by rw [dr8]; omega) (by rw [fv8]; exact h6) (by rw [fv8]; exact hF) (by rw [ai8]; exact hV) (fun g' p e => hk g' ?_ ?_))
      · rw [dr8, fv8, sv8, ac8] at p
        exact cp_trans0 P8 p
      · rw [dr8, ac8, vd8, e8] at e
        exact e
end
