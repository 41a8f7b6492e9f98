/-! a merge's pieces -/
def nedL (rs : List AR) (fm al : Int32) : Nat → Int32 → Int32 → Option Nat → Int32
  | 0, nd, _, _ => nd
  | t + 1, nd, fl, o => match (nxB rs al o).bind (fun j => (rs[j]?).map (fun r => (j, r))) with
    | none => nd
    | some jr => match decide (fl = 0 ∨ fm < fl + rcb jr.2) with
      | true => nedL rs fm al t (nd + 8 + ((rcb jr.2 + 14) + nI jr.2.1.length)) (0 + rcb jr.2) (some jr.1)
      | false => nedL rs fm al t (nd + ((rcb jr.2 + 14) + nI jr.2.1.length)) (fl + rcb jr.2) (some jr.1)
def nedV (V : VC) : Int32 := nedL V.2.1 V.1.2.2.2.2.1 V.1.2.2.2.2.2 V.2.1.length (8 + 4 * fcnt V.1.2.2.2.2.2 0 V.1.1) 0 none
def sStart (nd : Int32) (V : VC) : VC := si809 nd (si805 V.1.2.2.2.2.2 (si804 1 (sStop V)))
def hinB (V : VC) : List Int32 := be4 V.2.2.1.2.2.2.2.1 ++ V.2.2.1.2.2.2.2.2.2.drop 4
def hinC (V : VC) : List Int32 := hinB V ++ be4 (crcL (hinB V))
def whV (V : VC) : VC × Nat := if V.2.2.1.2.2.1 = -1 then (V, 0) else (si809 (V.2.2.1.2.2.2.2.2.1 - nI (hinC V).length) (sDd (vApp V.2.2.1.2.2.1 1 (hinC V) V.1) (sB17 (hinC V) V)), (appF V.2.2.1.2.2.1 1 (hinC V) V.1.1 V.1.2.1).2.2)
def entB (r : AR) : List Int32 := be4 r.2.2.2.2 ++ be4 r.2.2.1 ++ be2 (nI r.1.length) ++ be4 r.2.2.2.1 ++ r.1
def nhV (r : AR) (V : VC) : VC := if r.2.2.1 = 0 then si808 (0 + 1) (sB17 (be4 0 ++ entB r) V) else si808 (V.2.2.1.2.2.2.2.1 + 1) (sB17 (V.2.2.1.2.2.2.2.2.2 ++ entB r) V)
section
variable {n : Nat} {g g' : Gh} {α : Type} {Q : α → Gh → Prop}
theorem need_loop {al : Int32} {Q : Int32 → Gh → Prop} (h : CI n g) (h60 : (qL g (n + 14)).length ≤ 60000) : ∀ (m t : Nat) (nd fl : Int32) (o : Option Nat), t < m → t ≤ 60000 → (∀ j, o = some j → j < (RV n g).length) → Q (nedL (RV n g) (qi g 605 (n + 9)) al t nd fl o) g → ok (X5_need_b36 m (n + 16) al nd fl (oI o) (nI t)) g Q := by
  intro m
  have hC := ci_C h
  have hlen := rv_len (n := n) (g := g)
  induction m with
  | zero => intro t nd fl o h; omega
  | succ m ih =>
    intro t nd fl o hm ht ho hq
    show ok (X5_need_b36b (X5_need_b36 m) (n + 16) al nd fl (oI o) (nI t)) g Q
    unfold X5_need_b36b X5_need_b96 X5_need_b101
    cases t with
    | zero => exact ok_itT (by decide) (ok_pu hq)
    | succ t =>
      refine ok_itF (nI_ge (a := 0) (b := t + 1) (by omega) (by omega)) (ok_mr hC (ok_ck (cs_dir hC) (ok_nextBelow hC (ci_R h) rfl ho (ok_mr hC (ok_ck (cs_dir hC) (ok_row hC (ci_R h) ?_))))))
      have et : nI (t + 1) + -1 = nI t := by
        have := nI_subN (a := t + 1) (b := 1) (by omega)
        rw [Int32.sub_eq_add_neg, Nat.add_sub_cancel] at this
        exact this
      unfold nedL at hq
      cases hx : nxB (RV n g) al o with
      | none =>
        rw [hx] at hq
        rw [show oI none = -1 from rfl, oat_neg (by decide)]
        exact ok_pu hq
      | some j =>
        have hj := nxB_lt hx
        obtain ⟨d, hd⟩ := some_of_lt (show j < (qL g (n + 14)).length by omega)
        have hrv := rv_at hd
        have hdk := ri_at (ci_R h) hd
        rw [hx] at hq
        simp only [Option.bind_some, hrv, Option.map_some] at hq
        rw [show oI (some j) = nI j from rfl, oat_nI (by omega), hd]
        show ok (bd (ck 10 d) _) g Q
        refine ok_ck hdk.1 (ok_rcb hdk ?_)
        have tail : ∀ nd2 fl2 : Int32, Q (nedL (RV n g) (qi g 605 (n + 9)) al t (nd2 + ((rcb (rvw g d) + 14) + nI (rvw g d).1.length)) (fl2 + rcb (rvw g d)) (some j)) g → ok (bd (pu (fl2 + rcb (rvw g d))) (fun x1 => nn (some d) (fun y2 => bd (gR 10 0 y2) (fun y3 => bd (ck 4 y3) (fun _ => bd (X1_size y3) (fun x4 => bd (pu (nd2 + ((rcb (rvw g d) + 14) + x4))) (fun x5 => X5_need_b36 m (n + 16) al x5 x1 (nI j) (nI (t + 1) + -1)))))))) g Q := by
          intro nd2 fl2 hq2
          refine ok_bpu ?_
          show ok (bd (gR 10 0 d) _) g Q
          refine ok_rbs hdk (ok_bpu ?_)
          rw [et]
          exact ih t _ _ (some j) (by omega) (by omega) (fun j' q => by cases q; exact hj) hq2
        by_cases c1 : fl = 0
        · rw [decide_eq_true (Or.inl c1)] at hq
          exact ok_itT c1 (tail (nd + 8) 0 hq)
        · refine ok_itF c1 (ok_md hC (ok_gI (cs_disk hC) rfl ?_))
          by_cases c2 : qi g 605 (n + 9) < fl + rcb (rvw g d)
          · rw [decide_eq_true (Or.inr c2)] at hq
            exact ok_itF (Int32.not_le.mpr c2) (tail (nd + 8) 0 hq)
          · rw [decide_eq_false (by rintro (q | q); exact c1 q; exact c2 q)] at hq
            exact ok_itT (Int32.not_lt.mp c2) (tail nd fl hq)
theorem k_need {k : Int32 → M α} (h : CI n g) (hk : ok (k (nedV (CV n g))) g Q) : ok (bd (X5_need (n + 16)) k) g Q := by
  have hC := ci_C h
  refine ok_rlen hC (fun h60 => ok_bd ?_)
  unfold X5_need
  refine ok_md hC (ok_gI (cs_disk hC) rfl (ok_md hC (ok_ck (cs_disk hC) (ok_countData hC (ci_D h) (ok_bpu (ok_bpu (ok_mr hC (ok_ck (cs_dir hC) (ok_rcount hC ?_)))))))))
  have hlen := rv_len (n := n) (g := g)
  have : FU = 1000000 := rfl
  exact need_loop h h60 FU (RV n g).length _ 0 none (by omega) (by omega) (fun j q => by cases q) hk
theorem start_eq {nd : Int32} {V : VC} (h1 : V.2.2.1.2.2.1 = -1) (h2 : V.2.2.1.2.2.2.1 = -1) : si809 nd (si805 V.1.2.2.2.2.2 (si804 1 V)) = sStart nd V := by
  obtain ⟨d, r, ⟨a, b, c, e, f⟩, o⟩ := V
  have h1 : c = -1 := h1
  have h2 : e = -1 := h2
  subst h1 h2
  rfl
theorem k_start {nd : Int32} {k : Unit → M α} (h : CI n g) (hz : qi g 806 (n + 16) = -1 ∧ qi g 807 (n + 16) = -1) (hk : ∀ g', Cp n g g' 0 → CV n g' = sStart nd (CV n g) → ok (k ()) g' Q) : ok (bd (X5_start (n + 16) nd) k) g Q := by
  refine ok_bd ?_
  unfold X5_start
  refine st_z804 h (Or.inr rfl) (fun g2 p2 e2 _ _ => ?_)
  have hC2 := ci_C p2.2.2
  have nn2 : qi g2 606 (n + 9) = qi g 606 (n + 9) := congrArg (fun V : VC => V.1.2.2.2.2.2) e2
  refine ok_md hC2 (ok_gI (cs_disk hC2) nn2 (st_i805 p2.2.2 (fun g3 p3 e3 _ _ => st_i809 p3.2.2 (fun g4 p4 e4 _ _ => ok_pu (hk g4 (cp_trans0 (cp_trans0 p2 p3) p4) ?_)))))
  rw [e4, e3, e2]
  exact start_eq hz.1 hz.2
theorem k_writeHint {k : Unit → M α} (h : CI n g) (hG : GI (CV n g)) (hh : qi g 806 (n + 16) ≠ -1 → 4 ≤ (qB g (n + 17)).length ∧ (qB g (n + 17)).length ≤ 9000) (hk : ∀ g', Cp n g g' (whV (CV n g)).2 → CV n g' = (whV (CV n g)).1 → qL g' (n + 14) = qL g (n + 14) → ok (k ()) g' Q) : ok (bd (X5_writeHint (n + 16)) k) g Q := by
  obtain ⟨⟨hS, h6, hF, hV⟩, -, -⟩ := hG
  refine ok_bd ?_
  unfold X5_writeHint
  have hC := ci_C h
  have eS : whV (CV n g) = if qi g 806 (n + 16) = -1 then (CV n g, 0) else (si809 (qi g 809 (n + 16) - nI (hinC (CV n g)).length) (sDd (vApp (qi g 806 (n + 16)) 1 (hinC (CV n g)) (vD n g)) (sB17 (hinC (CV n g)) (CV n g))), (appF (qi g 806 (n + 16)) 1 (hinC (CV n g)) (FV n g) (SV n g)).2.2) := rfl
  rw [eS] at hk
  refine ok_gI (cs_mg hC) rfl ?_
  by_cases c0 : qi g 806 (n + 16) = -1
  · rw [if_pos c0] at hk
    exact ok_itF (fun q => q c0) (ok_pu (hk g (cp_refl h) rfl rfl))
  rw [if_neg c0] at hk
  obtain ⟨hl1, hl2⟩ := hh c0
  refine ok_itT c0 (ok_mh hC (ok_gI (cs_mg hC) rfl (ok_ck (cs_hint hC) (sq_chg17 h hl1 (fun g1 p1 e1 m1 => ?_)))))
  have h1 := p1.2.2
  have hC1 := ci_C h1
  have hb1 : qB g1 (n + 17) = hinB (CV n g) := congrArg (fun V : VC => V.2.2.1.2.2.2.2.2.2) e1
  have hbl : (hinB (CV n g)).length = (qB g (n + 17)).length := by
    show (be4 _ ++ (qB g (n + 17)).drop 4).length = _
    rw [List.length_append, be4_len, List.length_drop]
    omega
  have hcl : (hinC (CV n g)).length = (qB g (n + 17)).length + 4 := by
    unfold hinC
    rw [List.length_append, be4_len, hbl]
  refine ok_mh hC1 (ok_mh hC1 (ok_mh hC1 (ok_ck (cs_hint hC1) (ok_bsize (cs_hint hC1) (ok_ck (cs_hint hC1) (ok_bsum (f := 0) (t := (qB g1 (n + 17)).length) (cs_hint hC1) rfl rfl (Nat.zero_le _) (Nat.le_refl _) (ok_ck (cs_hint hC1) (sq_four17 h1 (by rw [hb1, hbl]; omega) (fun g2 p2 e2 m2 => ?_)))))))))
  have h2 := p2.2.2
  have hC2 := ci_C h2
  rw [Nat.sub_zero, List.drop_zero, List.take_length, hb1] at e2
  have E2 : CV n g2 = sB17 (hinC (CV n g)) (CV n g) := by
    rw [e2, e1]
    rfl
  have hb2 : qB g2 (n + 17) = hinC (CV n g) := congrArg (fun V : VC => V.2.2.1.2.2.2.2.2.2) E2
  have fv2 : FV n g2 = FV n g := congrArg (fun V : VC => V.1.1) E2
  have sv2 : SV n g2 = SV n g := congrArg (fun V : VC => V.1.2.1) E2
  have ai2 : AIV n g2 = AIV n g := congrArg (fun V : VC => V.1.2.2.1) E2
  have vd2 : vD n g2 = vD n g := congrArg (fun V : VC => V.1) E2
  have ou2 : qi g2 806 (n + 16) = qi g 806 (n + 16) := congrArg (fun V : VC => V.2.2.1.2.2.1) E2
  have hS2 : SrtF (FV n g2) := by rw [fv2]; exact hS
  refine ok_md hC2 (ok_gI (cs_mg hC2) ou2 (ok_mh hC2 (ok_mh hC2 (ok_ck (cs_hint hC2) (ok_bsize (cs_hint hC2) (ok_ck (cs_disk hC2) (cl_append (f := 0) (m := (qB g2 (n + 17)).length) h2 hS2 (cs_hint hC2) (fun d hd e => ?_) (fun d hd e => ?_) rfl rfl (by omega) (fun v hv => ?_) (by rw [hb2, hcl]; omega) (by rw [fv2]; exact hF) (by rw [ai2]; exact hV) (fun g3 p3 e3 b3 => ?_))))))))
  · have := ((ci_D h2).1 d (List.mem_append_right _ hd)).2.2.2
    omega
  · have := (fnd_ok (ci_D h2) hd).2.2.2
    omega
  · rw [fv2] at hv
    have := h6 v hv
    rw [hb2, hcl]
    omega
  · have h3 := p3.2.2
    have hC3 := ci_C h3
    rw [List.drop_zero, List.take_length, hb2] at p3 e3
    rw [vd2, E2] at e3
    rw [fv2, sv2] at p3
    have re3 : qi g3 809 (n + 16) = qi g 809 (n + 16) := congrArg (fun V : VC => V.2.2.1.2.2.2.2.2.1) e3
    have hb3 : qB g3 (n + 17) = hinC (CV n g) := congrArg (fun V : VC => V.2.2.1.2.2.2.2.2.2) e3
    refine ok_gI (cs_mg hC3) re3 (ok_mh hC3 (ok_ck (cs_hint hC3) (ok_bsize (cs_hint hC3) (st_i809 h3 (fun g4 p4 e4 _ l4 => ok_pu (hk g4 ?_ ?_ ?_))))))
    · exact cp_trans0 (cp_trans0 p1 p2) (cp_trans p3 p4)
    · rw [e4, e3, hb3]
      rfl
    · rw [l4, b3.2, (smK_tr m1 m2).2.1]
theorem k_note {r p : Nat} {k : Unit → M α} (h : CI n g) (hr : (qL g (n + 14))[p]? = some r) (hkl : (qB g (r + 1)).length ≤ 16) (hh : (qB g (n + 17)).length ≤ 9000) (hk : ∀ g', Cp n g g' 0 → CV n g' = nhV (rvw g r) (CV n g) → ok (k ()) g' Q) : ok (bd (X5_noteForHint (n + 16) r) k) g Q := by
  have hC := ci_C h
  have hrk := ri_at (ci_R h) hr
  refine ok_bd ?_
  have body : ∀ (g0 : Gh), Cp n g g0 0 → qL g0 = qL g → (∀ e, e ≠ n + 17 → qB g0 e = qB g e) → (∀ j, j / 100 = 10 → qi g0 j r = qi g j r) → (qB g0 (n + 17)).length ≤ 9000 → (∀ g', Cp n g g' 0 → CV n g' = si808 (qi g0 808 (n + 16) + 1) (sB17 (qB g0 (n + 17) ++ entB (rvw g r)) (CV n g0)) → ok (k ()) g' Q) → ok (X5_noteForHint_b27 (n + 16) r) g0 (fun v g1 => ok (k v) g1 Q) := by
    intro g0 p0 l0 b0 i0 hl0 hk0
    have h0 := p0.2.2
    have hC0 := ci_C h0
    have k0 := ri_at (ci_R h0) (by rw [l0]; exact hr)
    unfold X5_noteForHint_b27
    have hne : r + 1 ≠ n + 17 := by have := hrk.2.2.2.1; omega
    have kb0 : qB g0 (r + 1) = qB g (r + 1) := b0 _ hne
    refine ok_mh hC0 (ok_gI k0.1 (i0 1004 (by decide)) (ok_ck (cs_hint hC0) (sq_four17 h0 (by omega) (fun g1 p1 e1 m1 => ?_))))
    have h1 := p1.2.2
    have hC1 := ci_C h1
    have k1 := ri_at (ci_R h1) (by rw [m1.2.1, l0]; exact hr)
    have d1 : qB g1 (n + 17) = qB g0 (n + 17) ++ be4 (qi g 1004 r) := congrArg (fun V : VC => V.2.2.1.2.2.2.2.2.2) e1
    have l1 : (qB g1 (n + 17)).length = (qB g0 (n + 17)).length + 4 := by rw [d1, List.length_append, be4_len]
    have i1002 : qi g1 1002 r = qi g 1002 r := by rw [m1.1]; exact i0 1002 (by decide)
    refine ok_mh hC1 (ok_gI k1.1 i1002 (ok_ck (cs_hint hC1) (sq_four17 h1 (by omega) (fun g2 p2 e2 m2 => ?_))))
    have M2 := smK_tr m1 m2
    have h2 := p2.2.2
    have hC2 := ci_C h2
    have k2 := ri_at (ci_R h2) (by rw [M2.2.1, l0]; exact hr)
    have d2 : qB g2 (n + 17) = qB g1 (n + 17) ++ be4 (qi g 1002 r) := congrArg (fun V : VC => V.2.2.1.2.2.2.2.2.2) e2
    have l2 : (qB g2 (n + 17)).length = (qB g0 (n + 17)).length + 8 := by rw [d2, List.length_append, be4_len, l1]
    refine ok_mh hC2 (ok_rbs k2 (ok_ck (cs_hint hC2) (sq_two17 h2 (by omega) (fun g3 p3 e3 m3 => ?_))))
    rw [M2.2.2 _ hne, kb0] at e3
    have M3 := smK_tr M2 m3
    have h3 := p3.2.2
    have hC3 := ci_C h3
    have k3 := ri_at (ci_R h3) (by rw [M3.2.1, l0]; exact hr)
    have d3 : qB g3 (n + 17) = qB g2 (n + 17) ++ be2 (nI (qB g (r + 1)).length) := congrArg (fun V : VC => V.2.2.1.2.2.2.2.2.2) e3
    have l3 : (qB g3 (n + 17)).length = (qB g0 (n + 17)).length + 10 := by rw [d3, List.length_append, be2_len, l2]
    have i1003 : qi g3 1003 r = qi g 1003 r := by rw [M3.1]; exact i0 1003 (by decide)
    refine ok_mh hC3 (ok_gI k3.1 i1003 (ok_ck (cs_hint hC3) (sq_four17 h3 (by omega) (fun g4 p4 e4 m4 => ?_))))
    have M4 := smK_tr M3 m4
    have h4 := p4.2.2
    have hC4 := ci_C h4
    have k4 := ri_at (ci_R h4) (by rw [M4.2.1, l0]; exact hr)
    have d4 : qB g4 (n + 17) = qB g3 (n + 17) ++ be4 (qi g 1003 r) := congrArg (fun V : VC => V.2.2.1.2.2.2.2.2.2) e4
    have l4 : (qB g4 (n + 17)).length = (qB g0 (n + 17)).length + 14 := by rw [d4, List.length_append, be4_len, l3]
    have kb4 : qB g4 (r + 1) = qB g (r + 1) := by rw [M4.2.2 _ hne, kb0]
    refine ok_mh hC4 (ok_rby k4 (ok_rbs k4 (ok_ck (cs_hint hC4) (sq_part17 (f := 0) (m := (qB g4 (r + 1)).length) h4 k4.2.2.1 hne rfl rfl (by omega) (by rw [kb4]; omega) (fun g5 p5 e5 m5 => ?_)))))
    rw [List.drop_zero, List.take_length, kb4] at e5
    have h5 := p5.2.2
    have hC5 := ci_C h5
    have he5 : qi g5 808 (n + 16) = qi g0 808 (n + 16) := by rw [(smK_tr M4 m5).1]
    refine ok_gI (cs_mg hC5) he5 (st_i808 h5 (fun g6 p6 e6 _ _ => ok_pu (hk0 g6 (cp_trans0 (cp_trans0 (cp_trans0 (cp_trans0 (cp_trans0 (cp_trans0 p0 p1) p2) p3) p4) p5) p6) ?_)))
    rw [e6, e5, e4, e3, e2, e1, d4, d3, d2, d1]
    have ee : entB (rvw g r) = be4 (qi g 1004 r) ++ be4 (qi g 1002 r) ++ be2 (nI (qB g (r + 1)).length) ++ be4 (qi g 1003 r) ++ qB g (r + 1) := rfl
    rw [ee]
    simp only [List.append_assoc]
    rfl
  unfold X5_noteForHint
  have eN : nhV (rvw g r) (CV n g) = if qi g 1002 r = 0 then si808 (0 + 1) (sB17 (be4 0 ++ entB (rvw g r)) (CV n g)) else si808 (qi g 808 (n + 16) + 1) (sB17 (qB g (n + 17) ++ entB (rvw g r)) (CV n g)) := rfl
  rw [eN] at hk
  refine ok_gI hrk.1 rfl ?_
  by_cases c0 : qi g 1002 r = 0
  · rw [if_pos c0] at hk
    refine ok_itF (fun q => q c0) (sq_i808 h (fun g1 p1 e1 b1 l1 i1' => ?_))
    have hC1 := ci_C p1.2.2
    have i1 : ∀ j, j / 100 = 10 → qi g1 j r = qi g j r := fun j hj => i1' j r (by have := hrk.2.2.2.1; omega)
    refine ok_mh hC1 (ok_ck (cs_hint hC1) (sq_clr17 p1.2.2 (fun g2 p2 e2 m2 => ?_)))
    have hC2 := ci_C p2.2.2
    have d2 : qB g2 (n + 17) = [] := congrArg (fun V : VC => V.2.2.1.2.2.2.2.2.2) e2
    refine ok_mh hC2 (ok_ck (cs_hint hC2) (sq_four17 p2.2.2 (by rw [d2]; simp) (fun g3 p3 e3 m3 => ?_)))
    have M := smK_tr m2 m3
    have d3 : qB g3 (n + 17) = be4 0 := by
      have := congrArg (fun V : VC => V.2.2.1.2.2.2.2.2.2) e3
      rw [d2] at this
      exact this
    refine body g3 (cp_trans0 (cp_trans0 p1 p2) p3) (by rw [M.2.1, l1]) (fun e he => by rw [M.2.2 e he, b1]) (fun j hj => by rw [M.1]; exact i1 j hj) (by rw [d3]; decide) (fun g' p' e' => hk g' p' ?_)
    rw [e', d3, e3, e2, e1]
    have he3 : qi g3 808 (n + 16) = 0 := by
      rw [M.1]
      exact congrArg (fun V : VC => V.2.2.1.2.2.2.2.1) e1
    rw [he3]
    rfl
  · rw [if_neg c0] at hk
    exact ok_itT c0 (body g (cp_refl h) rfl (fun _ _ => rfl) (fun _ _ => rfl) hh hk)
end
