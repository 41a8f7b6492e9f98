/-! finishing, removing, units -/
def mkL (l : Int32) (fs : List AF) : List Int32 := fs.flatMap (fun f => if f.2.1 = 0 ∧ f.1 < l then be4 f.1 else [])
def mkB (V : VC) : List Int32 := be4 (fcnt V.2.2.1.2.1 0 V.1.1) ++ mkL V.2.2.1.2.1 V.1.1
def mkC (V : VC) : List Int32 := mkB V ++ be4 (crcL (mkB V))
def tak7 (V : VC) : VC := si807 V.1.2.2.2.2.2 (sDd (V.1.1, V.1.2.1, V.1.2.2.1, V.1.2.2.2.1, V.1.2.2.2.2.1, V.1.2.2.2.2.2 + 1) V)
def fnA (V : VC) : VC := si806 (-1) (whV V).1
def fnW (V : VC) : VC := tak7 (sB19 (mkC (fnA V)) (fnA V))
def fnV (V : VC) : VC × Nat := (si809 0 (sSettle (sDd (vApp (fnW V).2.2.1.2.2.2.1 2 (mkC (fnA V)) (fnW V).1) (fnW V))), (whV V).2 + (appF (fnW V).2.2.1.2.2.2.1 2 (mkC (fnA V)) (fnW V).1.1 (fnW V).1.2.1).2.2)
def endV (V : VC) : VC := sStop (sDd (vDis V.2.2.1.2.2.2.1 2 V.1) V)
def rnV (V : VC) : VC := match V.1.1.find? (fun f => decide (f.2.1 = 0)) with
  | none => endV V
  | some f => if f.1 < V.2.2.1.2.1 then sDd (vDis f.1 1 (vDis f.1 0 V.1)) V else endV V
def duV (V : VC) : VC × Nat := if V.2.2.1.2.2.2.1 = -1 then (match (nxB V.2.1 V.2.2.1.2.1 none).bind (fun j => (V.2.1[j]?).map (fun r => (j, r))) with
    | none => fnV V
    | some jr => cpV jr.1 jr.2 V) else (rnV V, 0)
theorem mkL_len (l : Int32) (fs : List AF) : (mkL l fs).length ≤ 4 * fs.length := by
  induction fs with
  | nil => exact Nat.le_refl _
  | cons f fs ih =>
    show ((if f.2.1 = 0 ∧ f.1 < l then be4 f.1 else []) ++ mkL l fs).length ≤ _
    rw [List.length_append, List.length_cons]
    split
    · rw [be4_len]
      omega
    · simp
      omega
section
variable {n : Nat} {g g' : Gh} {α : Type} {Q : α → Gh → Prop}
theorem fin_loop {V1 : VC} {lm : Int32} {k : Unit → M α} (hV : V1.1.1.length ≤ 2200) (hS : SrtF V1.1.1) (h6 : ∀ v, v ∈ V1.1.1 → v.2.2.1.length ≤ 20000) (hA : V1.1.2.2.1.length ≤ 2100) (hlm : V1.2.2.1.2.1 = lm) : ∀ (m i : Nat) (g : Gh), i ≤ V1.1.1.length → V1.1.1.length - i < m → CI n g → CV n g = sB19 (be4 (fcnt lm 0 V1.1.1) ++ mkL lm (V1.1.1.take i)) V1 → (∀ g', Cp n g g' (appF (tak7 (sB19 (mkC V1) V1)).2.2.1.2.2.2.1 2 (mkC V1) V1.1.1 V1.1.2.1).2.2 → CV n g' = si809 0 (sSettle (sDd (vApp (tak7 (sB19 (mkC V1) V1)).2.2.1.2.2.2.1 2 (mkC V1) (tak7 (sB19 (mkC V1) V1)).1) (tak7 (sB19 (mkC V1) V1)))) → ok (k ()) g' Q) → ok (X5_finish_b36 m (n + 16) (nI i)) g (fun v g1 => ok (k v) g1 Q) := by
  intro m
  induction m with
  | zero => intro i g hi h; omega
  | succ m ih =>
    intro i g hi hm h e hk
    show ok (X5_finish_b36b (X5_finish_b36 m) (n + 16) (nI i)) g _
    unfold X5_finish_b36b X5_finish_b89
    have hC := ci_C h
    have fv : FV n g = V1.1.1 := congrArg (fun V : VC => V.1.1) e
    have sv : SV n g = V1.1.2.1 := congrArg (fun V : VC => V.1.2.1) e
    have lim : qi g 805 (n + 16) = lm := (congrArg (fun V : VC => V.2.2.1.2.1) e).trans hlm
    have mk : qB g (n + 19) = be4 (fcnt lm 0 V1.1.1) ++ mkL lm (V1.1.1.take i) := congrArg (fun V : VC => V.2.2.2.2.2.2.2) e
    have mkl : (qB g (n + 19)).length ≤ 4 + 4 * i := by
      rw [mk, List.length_append, be4_len]
      have := mkL_len lm (V1.1.1.take i)
      rw [List.length_take] at this
      omega
    have hfl := fv_len (n := n) (g := g)
    refine ok_md hC (ok_ck (cs_disk hC) (ok_count hC ?_))
    rw [fv]
    by_cases c : i < V1.1.1.length
    · refine ok_itF (nI_ge c (by omega)) (ok_md hC (ok_ck (cs_disk hC) (ok_at hC (ci_D h) ?_)))
      obtain ⟨d, hd⟩ := some_of_lt (show i < (qL g (n + 10)).length by rw [← hfl, fv]; exact c)
      have hdk := di_at (ci_D h) hd
      have hfd := fv_at hd
      rw [fv] at hfd
      rw [oat_nI (by omega), hd]
      show ok (bd (gI 7 2 d) _) g _
      have etk : mkL lm (V1.1.1.take (i + 1)) = mkL lm (V1.1.1.take i) ++ (if qi g 702 d = 0 ∧ qi g 701 d < lm then be4 (qi g 701 d) else []) := by
        rw [take_snoc hfd]
        unfold mkL
        rw [List.flatMap_append]
        simp only [List.flatMap_cons, List.flatMap_nil, List.append_nil]
        rfl
      have next : CV n g = sB19 (be4 (fcnt lm 0 V1.1.1) ++ mkL lm (V1.1.1.take (i + 1))) V1 → ok (X5_finish_b36 m (n + 16) (nI i + 1)) g (fun v g1 => ok (k v) g1 Q) := by
        intro e'
        rw [nI_1]
        exact ih (i + 1) g (by omega) (by omega) h e' hk
      refine ok_gI hdk.1 rfl ?_
      by_cases c1 : qi g 702 d = 0
      · refine ok_itF (fun q => q c1) (ok_gI hdk.1 rfl (ok_gI (cs_mg hC) lim ?_))
        by_cases c2 : qi g 701 d < lm
        · rw [if_pos ⟨c1, c2⟩] at etk
          refine ok_itF (Int32.not_le.mpr c2) (ok_mm hC (ok_gI hdk.1 rfl (ok_ck (cs_mark hC) (sq_four19 h (by omega) (fun g1 p1 e1 m1 => ?_)))))
          rw [nI_1]
          refine ih (i + 1) g1 (by omega) (by omega) p1.2.2 ?_ (fun g' p' e' => hk g' (cp_trans0 p1 p') e')
          rw [e1, e, mk, etk, List.append_assoc]
          rfl
        · rw [if_neg (fun q => c2 q.2), List.append_nil] at etk
          exact ok_itT (Int32.not_lt.mp c2) (next (by rw [etk]; exact e))
      · rw [if_neg (fun q => c1 q.1), List.append_nil] at etk
        exact ok_itT c1 (next (by rw [etk]; exact e))
    · have ei : i = V1.1.1.length := by omega
      rw [ei, List.take_length] at mk e
      have hmb : qB g (n + 19) = mkB V1 := by
        rw [mk]
        unfold mkB
        rw [hlm]
      refine ok_itT (nI_le (by omega) (by omega)) (ok_mm hC (ok_mm hC (ok_mm hC (ok_ck (cs_mark hC) (ok_bsize (cs_mark hC) (ok_ck (cs_mark hC) (ok_bsum (f := 0) (t := (qB g (n + 19)).length) (cs_mark hC) rfl rfl (Nat.zero_le _) (Nat.le_refl _) (ok_ck (cs_mark hC) (st_four19 h (by omega) (fun g1 p1 e1 b1 => ?_))))))))))
      rw [Nat.sub_zero, List.drop_zero, List.take_length, hmb] at e1
      have E1 : CV n g1 = sB19 (mkC V1) V1 := by
        rw [e1, e]
        rfl
      have hC1 := ci_C p1.2.2
      refine ok_md hC1 (ok_ck (cs_disk hC1) (cl_takeNumber p1.2.2 (fun g2 p2 e2 => st_i807 p2.2.2 (fun g3 p3 e3 _ _ => ?_))))
      have h3 := p3.2.2
      have hC3 := ci_C h3
      have E3 : CV n g3 = tak7 (sB19 (mkC V1) V1) := by
        rw [e3, e2, ← E1]
        rfl
      have mk3 : qB g3 (n + 19) = mkC V1 := congrArg (fun V : VC => V.2.2.2.2.2.2.2) E3
      have fv3 : FV n g3 = V1.1.1 := congrArg (fun V : VC => V.1.1) E3
      have sv3 : SV n g3 = V1.1.2.1 := congrArg (fun V : VC => V.1.2.1) E3
      have ai3 : AIV n g3 = V1.1.2.2.1 := congrArg (fun V : VC => V.1.2.2.1) E3
      have vd3 : vD n g3 = (tak7 (sB19 (mkC V1) V1)).1 := congrArg (fun V : VC => V.1) E3
      have mn3 : qi g3 807 (n + 16) = (tak7 (sB19 (mkC V1) V1)).2.2.1.2.2.2.1 := congrArg (fun V : VC => V.2.2.1.2.2.2.1) E3
      have mcl : (mkC V1).length ≤ 8900 := by
        unfold mkC
        rw [List.length_append, be4_len, ← hmb]
        omega
      refine ok_md hC3 (ok_gI (cs_mg hC3) mn3 (ok_mm hC3 (ok_mm hC3 (ok_ck (cs_mark hC3) (ok_bsize (cs_mark hC3) (ok_ck (cs_disk hC3) (cl_append (f := 0) (m := (qB g3 (n + 19)).length) h3 (by rw [fv3]; exact hS) (cs_mark hC3) (fun d hd e => ?_) (fun d hd e => ?_) rfl rfl (by omega) (fun v hv => ?_) (by rw [mk3]; omega) (by rw [fv3]; exact hV) (by rw [ai3]; exact hA) (fun g4 p4 e4 b4 => ?_))))))))
      · have := ((ci_D h3).1 d (List.mem_append_right _ hd)).2.2.2
        omega
      · have := (fnd_ok (ci_D h3) hd).2.2.2
        omega
      · rw [fv3] at hv
        have := h6 v hv
        rw [mk3]
        omega
      · have hC4 := ci_C p4.2.2
        rw [List.drop_zero, List.take_length, mk3] at e4 p4
        rw [vd3, E3] at e4
        rw [fv3, sv3] at p4
        refine ok_md hC4 (ok_ck (cs_disk hC4) (cl_settle p4.2.2 (fun g5 p5 e5 => st_i809 p5.2.2 (fun g6 p6 e6 _ _ => ok_pu (hk g6 ?_ ?_)))))
        · have := cp_trans0 (cp_trans0 (cp_trans0 p1 p2) p3) (cp_trans (cp_trans p4 p5) p6)
          exact this
        · rw [e6]
          have : CV n g5 = sSettle (CV n g4) := e5
          rw [this, e4]
          rfl
theorem k_finish {k : Unit → M α} (h : CI n g) (hG : GI (CV n g)) (hh : qi g 806 (n + 16) ≠ -1 → 4 ≤ (qB g (n + 17)).length ∧ (qB g (n + 17)).length ≤ 9000) (hG2 : GI (whV (CV n g)).1) (hk : ∀ g', Cp n g g' (fnV (CV n g)).2 → CV n g' = (fnV (CV n g)).1 → ok (k ()) g' Q) : ok (bd (X5_finish (n + 16)) k) g Q := by
  have hC := ci_C h
  refine ok_bd ?_
  unfold X5_finish
  refine ok_ck (cs_mg hC) (k_writeHint h hG hh (fun g1 p1 e1 l1 => st_i806 p1.2.2 (fun g2 p2 e2 b2 l2 => ?_)))
  have h2 := p2.2.2
  have hC2 := ci_C h2
  have E2 : CV n g2 = fnA (CV n g) := by
    rw [e2, e1]
    rfl
  refine ok_mm hC2 (ok_ck (cs_mark hC2) (sq_clr19 h2 (fun g3 p3 e3 m3 => ?_)))
  have h3 := p3.2.2
  have hC3 := ci_C h3
  have fv3 : FV n g3 = (fnA (CV n g)).1.1 := by
    have a : FV n g3 = FV n g2 := congrArg (fun V : VC => V.1.1) e3
    have b : FV n g2 = _ := congrArg (fun V : VC => V.1.1) E2
    exact a.trans b
  have lm3 : qi g3 805 (n + 16) = (fnA (CV n g)).2.2.1.2.1 := by
    have a : qi g3 805 (n + 16) = qi g2 805 (n + 16) := congrArg (fun V : VC => V.2.2.1.2.1) e3
    have b : qi g2 805 (n + 16) = _ := congrArg (fun V : VC => V.2.2.1.2.1) E2
    exact a.trans b
  have mk3 : qB g3 (n + 19) = [] := congrArg (fun V : VC => V.2.2.2.2.2.2.2) e3
  refine ok_mm hC3 (ok_md hC3 (ok_gI (cs_mg hC3) lm3 (ok_ck (cs_disk hC3) (ok_countData hC3 (ci_D h3) (ok_ck (cs_mark hC3) (sq_four19 h3 (by rw [mk3]; simp) (fun g4 p4 e4 m4 => ?_)))))))
  have h4 := p4.2.2
  rw [fv3, mk3, e3, E2] at e4
  have : FU = 1000000 := rfl
  have hG3 : GI (fnA (CV n g)) := hG2
  have hFl : (fnA (CV n g)).1.1.length ≤ 2200 := hG3.1.2.2.1
  refine fin_loop (V1 := fnA (CV n g)) (lm := (fnA (CV n g)).2.2.1.2.1) hG3.1.2.2.1 hG3.1.1 hG3.1.2.1 hG3.1.2.2.2 rfl FU 0 g4 (Nat.zero_le _) (by omega) h4 ?_ (fun g' p' e' => hk g' ?_ e')
  · rw [e4]
    simp only [List.take_zero, List.nil_append]
    show _ = sB19 (be4 _ ++ []) (fnA (CV n g))
    rw [List.append_nil]
    rfl
  · exact cp_trans (cp_trans (cp_trans (cp_trans p1 p2) p3) p4) p'
theorem fst_find {b : Int32} : ∀ l : List Nat, (l.map (fvw g)).find? (fun f => decide (f.2.1 = b)) = (fst1 g b l).map (fvw g)
  | [] => rfl
  | d :: l => by
    unfold fst1
    rw [List.map_cons, List.find?_cons]
    by_cases c : qi g 702 d = b
    · rw [if_pos c]
      rw [show decide ((fvw g d).2.1 = b) = true from decide_eq_true c]
      rfl
    · rw [if_neg c]
      rw [show decide ((fvw g d).2.1 = b) = false from decide_eq_false c]
      exact fst_find l
theorem fst1_mem {b : Int32} {d : Nat} : ∀ l : List Nat, fst1 g b l = some d → d ∈ l
  | [], h => by cases h
  | e :: l, h => by
    unfold fst1 at h
    split at h
    · cases h
      exact List.mem_cons_self
    · exact List.mem_cons_of_mem _ (fst1_mem l h)
theorem k_removeNext {k : Unit → M α} (h : CI n g) (hA : ∀ w, w ∈ AIV n g → (¬ (w.1 = qi g 807 (n + 16) ∧ w.2.1 = 2)) ∧ ¬ w.1 < qi g 805 (n + 16)) (hk : ∀ g', Cp n g g' 0 → CV n g' = rnV (CV n g) → ok (k ()) g' Q) : ok (bd (X5_removeNext (n + 16)) k) g Q := by
  have hC := ci_C h
  refine ok_bd ?_
  unfold X5_removeNext X5_removeNext_b24
  have eR : rnV (CV n g) = match (fst1 g 0 (qL g (n + 10))).map (fvw g) with
    | none => endV (CV n g)
    | some f => if f.1 < qi g 805 (n + 16) then sDd (vDis f.1 1 (vDis f.1 0 (vD n g))) (CV n g) else endV (CV n g) := by
    rw [← fst_find]
    rfl
  rw [eR] at hk
  have fini : (∀ g', Cp n g g' 0 → CV n g' = endV (CV n g) → ok (k ()) g' Q) → ok (bd (gR 8 0 (n + 16)) (fun y1 => bd (gI 8 7 (n + 16)) (fun x2 => bd (ck 6 y1) (fun _ => bd (X3_discard y1 x2 2) (fun x3 => bd (ck 8 (n + 16)) (fun _ => bd (X5_stop (n + 16)) (fun _ => pu ()))))))) g (fun v g1 => ok (k v) g1 Q) := by
    intro hk2
    refine ok_md hC (ok_gI (cs_mg hC) rfl (ok_ck (cs_disk hC) (cl_discard h (fun w hw => (hA w hw).1) (fun g1 p1 e1 b1 => ok_ck (cs_mg (ci_C p1.2.2)) (k_stop p1.2.2 (fun g2 p2 e2 => ok_pu (hk2 g2 (cp_trans0 p1 p2) ?_)))))))
    rw [e2, e1]
    rfl
  refine ok_md hC (ok_ck (cs_disk hC) (ok_firstOf hC (ci_D h) ?_))
  cases hf : fst1 g 0 (qL g (n + 10)) with
  | none =>
    rw [hf] at hk
    exact fini hk
  | some d =>
    rw [hf] at hk
    simp only [Option.map_some] at hk
    have hdk := (ci_D h).1 d (List.mem_append_left _ (fst1_mem _ hf))
    have e1 : (fvw g d).1 = qi g 701 d := rfl
    rw [e1] at hk
    show ok (bd (gI 7 1 d) _) g _
    refine ok_gI hdk.1 rfl (ok_gI (cs_mg hC) rfl ?_)
    by_cases c : qi g 701 d < qi g 805 (n + 16)
    · rw [if_pos c] at hk
      refine ok_itT c (ok_gI hdk.1 rfl (ok_md hC (ok_ck (cs_disk hC) (cl_discard h (fun w hw q => (hA w hw).2 (by rw [q.1]; exact c)) (fun g1 p1 e1 b1 => ?_)))))
      have hC1 := ci_C p1.2.2
      have ai1 : AIV n g1 = AIV n g := by
        have a : AIV n g1 = _ := congrArg (fun V : VC => V.1.2.2.1) e1
        rw [a]
        show (vDis _ 0 (vD n g)).2.2.1 = _
        unfold vDis
        split <;> rfl
      refine ok_md hC1 (ok_ck (cs_disk hC1) (cl_discard p1.2.2 (fun w hw q => ?_) (fun g2 p2 e2 b2 => ok_pu (hk g2 (cp_trans0 p1 p2) ?_))))
      · rw [ai1] at hw
        exact (hA w hw).2 (by rw [q.1]; exact c)
      · rw [e2]
        have vd1 : vD n g1 = _ := congrArg (fun V : VC => V.1) e1
        rw [vd1]
        have : (CV n g1).2 = (CV n g).2 := by rw [e1]
        rw [this]
        rfl
    · rw [if_neg c] at hk
      exact ok_itF c (fini hk)
/-- what a unit needs -/
def UG (V : VC) : Prop := GI V ∧ (if V.2.2.1.2.2.2.1 = -1 then (V.2.2.1.2.2.1 ≠ -1 → 4 ≤ V.2.2.1.2.2.2.2.2.2.length) ∧ V.2.2.1.2.2.2.2.2.2.length ≤ 8900 ∧ (match (nxB V.2.1 V.2.2.1.2.1 none).bind (fun j => (V.2.1[j]?).map (fun r => (j, r))) with
    | none => GI (whV V).1
    | some jr => GI (cpA jr.2 V).1 ∧ ∃ f, fndF jr.2.2.1 0 (cpA jr.2 V).1.1.1 = some f ∧ jr.2.2.2.1.toNatClampNeg + rcn jr.2 ≤ f.2.2.1.length ∧ jr.2.2.1 ≠ (cpA jr.2 V).1.2.2.1.2.2.1) else ∀ w, w ∈ V.1.2.2.1 → (¬ (w.1 = V.2.2.1.2.2.2.1 ∧ w.2.1 = 2)) ∧ ¬ w.1 < V.2.2.1.2.1)
theorem k_doUnit {k : Unit → M α} (h : CI n g) (hU : UG (CV n g)) (hk : ∀ g', Cp n g g' (duV (CV n g)).2 → CV n g' = (duV (CV n g)).1 → ok (k ()) g' Q) : ok (bd (X5_doUnit (n + 16)) k) g Q := by
  have hC := ci_C h
  obtain ⟨hG, hU⟩ := hU
  refine ok_rlen hC (fun h60 => ok_bd ?_)
  unfold X5_doUnit
  have hlen := rv_len (n := n) (g := g)
  have eD : duV (CV n g) = if qi g 807 (n + 16) = -1 then (match (nxB (RV n g) (qi g 805 (n + 16)) none).bind (fun j => ((RV n g)[j]?).map (fun r => (j, r))) with
    | none => fnV (CV n g)
    | some jr => cpV jr.1 jr.2 (CV n g)) else (rnV (CV n g), 0) := rfl
  rw [eD] at hk
  have hU : if qi g 807 (n + 16) = -1 then (qi g 806 (n + 16) ≠ -1 → 4 ≤ (qB g (n + 17)).length) ∧ (qB g (n + 17)).length ≤ 8900 ∧ (match (nxB (RV n g) (qi g 805 (n + 16)) none).bind (fun j => ((RV n g)[j]?).map (fun r => (j, r))) with
    | none => GI (whV (CV n g)).1
    | some jr => GI (cpA jr.2 (CV n g)).1 ∧ ∃ f, fndF jr.2.2.1 0 (cpA jr.2 (CV n g)).1.1.1 = some f ∧ jr.2.2.2.1.toNatClampNeg + rcn jr.2 ≤ f.2.2.1.length ∧ jr.2.2.1 ≠ (cpA jr.2 (CV n g)).1.2.2.1.2.2.1) else ∀ w, w ∈ AIV n g → (¬ (w.1 = qi g 807 (n + 16) ∧ w.2.1 = 2)) ∧ ¬ w.1 < qi g 805 (n + 16) := hU
  refine ok_gI (cs_mg hC) rfl ?_
  by_cases c0 : qi g 807 (n + 16) = -1
  · rw [if_pos c0] at hk hU
    obtain ⟨u1, u2, u3⟩ := hU
    refine ok_itT c0 (ok_mr hC (ok_mr hC (ok_gI (cs_mg hC) rfl (ok_ck (cs_dir hC) (ok_nextBelow (o := none) hC (ci_R h) rfl (fun j q => by cases q) (ok_ck (cs_dir hC) (ok_row hC (ci_R h) ?_)))))))
    show ok (co (oat (qL g (n + 14)) (oI (nxB (RV n g) (qi g 805 (n + 16)) none))) _ _) g _
    cases hx : nxB (RV n g) (qi g 805 (n + 16)) none with
    | none =>
      rw [hx] at hk u3
      rw [show oI none = -1 from rfl, oat_neg (by decide)]
      show ok (bd (ck 8 (n + 16)) _) g _
      exact ok_ck (cs_mg hC) (k_finish h hG (fun q => ⟨u1 q, by omega⟩) u3 (fun g1 p1 e1 => ok_pu (hk g1 p1 e1)))
    | some j =>
      have hj := nxB_lt hx
      obtain ⟨d, hd⟩ := some_of_lt (show j < (qL g (n + 14)).length by omega)
      have hrv := rv_at hd
      rw [hx] at hk u3
      simp only [Option.bind_some, hrv, Option.map_some] at hk u3
      obtain ⟨u4, f, u5, u6, u7⟩ := u3
      rw [show oI (some j) = nI j from rfl, oat_nI (by omega), hd]
      show ok (bd (ck 8 (n + 16)) _) g _
      exact ok_ck (cs_mg hC) (k_copy h hG hd u4 u1 u2 u5 u6 u7 (fun g1 p1 e1 => ok_pu (hk g1 p1 e1)))
  · rw [if_neg c0] at hk hU
    exact ok_itF c0 (ok_ck (cs_mg hC) (k_removeNext h hU (fun g1 p1 e1 => ok_pu (hk g1 p1 e1))))
def itU : Nat → VC → VC × Nat
  | 0, V => (V, 0)
  | m + 1, V => ((itU m (duV V).1).1, (duV V).2 + (itU m (duV V).1).2)
def allU : Nat → VC → Prop
  | 0, _ => True
  | m + 1, V => UG V ∧ allU m (duV V).1
def sMBeg (V : VC) : (Nat ⊕ Int32) × VC × Nat :=
  if V.2.2.2.2.1.1 = 0 ∨ ¬ V.2.2.1.1 = 0 then (.inl 1, V, 0)
  else if fcnt V.1.2.2.2.2.2 0 V.1.1 = 0 then (.inr 0, V, 0)
  else if froom V.1.2.2.2.1 V.1.1 < nedV V then (.inl 2, V, 0)
  else (.inr (sUnits (sStart (nedV V) (si1109 (-1) V))), sStart (nedV V) (si1109 (-1) V), 0)
def sMStep (m : Int32) (V : VC) : (Nat ⊕ Int32) × VC × Nat :=
  if V.2.2.2.2.1.1 = 0 ∨ V.2.2.1.1 = 0 then (.inl 1, V, 0)
  else if m < 1 then (.inl 0, V, 0)
  else (.inr (sUnits (itU (imn m (sUnits V)).toNatClampNeg V).1), itU (imn m (sUnits V)).toNatClampNeg V)
theorem c_mergeBegin {Q : Nat ⊕ Int32 → Gh → Prop} (h : CI n g) (hz : qi g 804 (n + 16) = 0 → qi g 806 (n + 16) = -1 ∧ qi g 807 (n + 16) = -1) (hk : ∀ g1, Cp n g g1 (sMBeg (CV n g)).2.2 → CV n g1 = (sMBeg (CV n g)).2.1 → Q (sMBeg (CV n g)).1 (fin (sMBeg (CV n g)).1 g1)) : ok (X8_mergeBegin n) g Q := by
  have hC := ci_C h
  unfold X8_mergeBegin X8_mergeBegin_b17
  have eS : sMBeg (CV n g) = (if qi g 1108 n = 0 ∨ ¬ qi g 804 (n + 16) = 0 then (.inl 1, CV n g, 0)
  else if fcnt (qi g 606 (n + 9)) 0 (FV n g) = 0 then (.inr 0, CV n g, 0)
  else if froom (qi g 604 (n + 9)) (FV n g) < nedV (CV n g) then (.inl 2, CV n g, 0)
  else (.inr (sUnits (sStart (nedV (CV n g)) (si1109 (-1) (CV n g)))), sStart (nedV (CV n g)) (si1109 (-1) (CV n g)), 0)) := rfl
  rw [eS] at hk
  refine ok_gI (cs_x hC) rfl ?_
  by_cases c0 : qi g 1108 n = 0
  · rw [if_pos (Or.inl c0)] at hk
    exact ok_itT c0 (ok_th (hk g (cp_refl h) rfl))
  refine ok_itF c0 (ok_xm hC (ok_gI (cs_mg hC) rfl ?_))
  by_cases c1 : ¬ qi g 804 (n + 16) = 0
  · rw [if_pos (Or.inr c1)] at hk
    exact ok_itF c1 (ok_th (hk g (cp_refl h) rfl))
  rw [if_neg (by rintro (q | q); exact c0 q; exact c1 q)] at hk
  refine ok_itT (Classical.not_not.mp c1) (ok_xd hC (ok_xd hC (ok_gI (cs_disk hC) rfl (ok_ck (cs_disk hC) (ok_countData hC (ci_D h) ?_)))))
  show ok (it (¬ fcnt (qi g 606 (n + 9)) 0 (FV n g) = 0) _ _) g Q
  by_cases c2 : fcnt (qi g 606 (n + 9)) 0 (FV n g) = 0
  · rw [if_pos c2] at hk
    exact ok_itF (fun q => q c2) (ok_pu (hk g (cp_refl h) rfl))
  rw [if_neg c2] at hk
  refine ok_itT c2 (ok_xm hC (ok_ck (cs_mg hC) (k_need h (ok_xd hC (ok_ck (cs_disk hC) (ok_room hC (ci_D h) ?_))))))
  by_cases c3 : froom (qi g 604 (n + 9)) (FV n g) < nedV (CV n g)
  · rw [if_pos c3] at hk
    exact ok_itF (Int32.not_le.mpr c3) (ok_th (hk g (cp_refl h) rfl))
  rw [if_neg c3] at hk
  refine ok_itT (Int32.not_lt.mp c3) (st_i1109 h (fun g1 p1 e1 _ _ => ?_))
  have hC1 := ci_C p1.2.2
  have hz := hz (Classical.not_not.mp c1)
  have z1 : qi g1 806 (n + 16) = qi g 806 (n + 16) := congrArg (fun V : VC => V.2.2.1.2.2.1) e1
  have z2 : qi g1 807 (n + 16) = qi g 807 (n + 16) := congrArg (fun V : VC => V.2.2.1.2.2.2.1) e1
  refine ok_xm hC1 (ok_ck (cs_mg hC1) (k_start p1.2.2 ⟨z1.trans hz.1, z2.trans hz.2⟩ (fun g2 p2 e2 => ?_)))
  have hC2 := ci_C p2.2.2
  rw [e1] at e2
  refine ok_xm hC2 (ok_ck (cs_mg hC2) (k_units p2.2.2 (ok_pu ?_)))
  rw [e2]
  exact hk g2 (cp_trans0 p1 p2) e2
theorem step_loop {u : Nat} {Q : Nat ⊕ Int32 → Gh → Prop} (hu : u ≤ 60000) : ∀ (w i : Nat) (g : Gh), u - i < w → i ≤ u → CI n g → allU (u - i) (CV n g) → (∀ g1, Cp n g g1 (itU (u - i) (CV n g)).2 → CV n g1 = (itU (u - i) (CV n g)).1 → Q (.inr (sUnits (itU (u - i) (CV n g)).1)) g1) → ok (X8_mergeStep_b56 w n (nI u) (nI i)) g Q := by
  intro w
  induction w with
  | zero => intro i g h; omega
  | succ w ih =>
    intro i g hw hi h hA hq
    show ok (X8_mergeStep_b56b (X8_mergeStep_b56 w) n (nI u) (nI i)) g Q
    unfold X8_mergeStep_b56b
    have hC := ci_C h
    by_cases c : i < u
    · rw [show u - i = (u - (i + 1)) + 1 by omega] at hA hq
      obtain ⟨a1, a2⟩ := hA
      refine ok_itF (nI_ge c (by omega)) (ok_xm hC (ok_ck (cs_mg hC) (k_doUnit h a1 (fun g1 p1 e1 => ?_))))
      rw [nI_1]
      refine ih (i + 1) g1 (by omega) (by omega) p1.2.2 (by rw [e1]; exact a2) (fun g2 p2 e2 => ?_)
      rw [e1] at p2 e2 ⊢
      exact hq g2 (cp_trans p1 p2) e2
    · have ei : i = u := by omega
      subst ei
      rw [Nat.sub_self] at hq
      refine ok_itT (nI_le (Nat.le_refl _) (by omega)) (ok_xm hC (ok_ck (cs_mg hC) (k_units h (ok_pu ?_))))
      exact hq g (cp_refl h) rfl
theorem c_mergeStep {m : Int32} {Q : Nat ⊕ Int32 → Gh → Prop} (h : CI n g) (hu : ¬ sUnits (CV n g) < 0 ∧ (sUnits (CV n g)).toNatClampNeg ≤ 60000) (hA : allU (imn m (sUnits (CV n g))).toNatClampNeg (CV n g)) (hk : ∀ g1, Cp n g g1 (sMStep m (CV n g)).2.2 → CV n g1 = (sMStep m (CV n g)).2.1 → Q (sMStep m (CV n g)).1 (fin (sMStep m (CV n g)).1 g1)) : ok (X8_mergeStep n m) g Q := by
  have hC := ci_C h
  unfold X8_mergeStep X8_mergeStep_b17
  have eS : sMStep m (CV n g) = (if qi g 1108 n = 0 ∨ qi g 804 (n + 16) = 0 then (.inl 1, CV n g, 0)
  else if m < 1 then (.inl 0, CV n g, 0)
  else (.inr (sUnits (itU (imn m (sUnits (CV n g))).toNatClampNeg (CV n g)).1), itU (imn m (sUnits (CV n g))).toNatClampNeg (CV n g))) := rfl
  rw [eS] at hk
  refine ok_gI (cs_x hC) rfl ?_
  by_cases c0 : qi g 1108 n = 0
  · rw [if_pos (Or.inl c0)] at hk
    exact ok_itT c0 (ok_th (hk g (cp_refl h) rfl))
  refine ok_itF c0 (ok_xm hC (ok_gI (cs_mg hC) rfl ?_))
  by_cases c1 : qi g 804 (n + 16) = 0
  · rw [if_pos (Or.inr c1)] at hk
    exact ok_itF (fun q => q c1) (ok_th (hk g (cp_refl h) rfl))
  rw [if_neg (by rintro (q | q); exact c0 q; exact c1 q)] at hk
  refine ok_itT c1 ?_
  by_cases c2 : m < 1
  · rw [if_pos c2] at hk
    exact ok_itF (Int32.not_le.mpr c2) (ok_th (hk g (cp_refl h) rfl))
  rw [if_neg c2] at hk
  refine ok_itT (Int32.not_lt.mp c2) (ok_xm hC (ok_ck (cs_mg hC) (k_units h (ok_bpu ?_))))
  have hpos : ¬ imn m (sUnits (CV n g)) < 0 := by
    unfold imn
    split
    · exact hu.1
    · simp only [Int32.lt_iff_toInt_lt, li1, Int32.toInt_zero] at c2 ⊢
      omega
  have hle : (imn m (sUnits (CV n g))).toNatClampNeg ≤ 60000 := by
    have : (imn m (sUnits (CV n g))).toNatClampNeg ≤ (sUnits (CV n g)).toNatClampNeg := by
      unfold imn
      split
      · exact Nat.le_refl _
      · rename_i q
        rw [Int32.lt_iff_toInt_lt] at q
        have a : m.toNatClampNeg = m.toInt.toNat := rfl
        have b : (sUnits (CV n g)).toNatClampNeg = (sUnits (CV n g)).toInt.toNat := rfl
        omega
    omega
  have e := nI_cl hpos
  generalize (imn m (sUnits (CV n g))).toNatClampNeg = u at *
  rw [e]
  have : FU = 1000000 := rfl
  exact step_loop hle FU 0 g (by omega) (Nat.zero_le _) h hA hk
end
