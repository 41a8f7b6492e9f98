/-! an opening: marks and lone hints -/
def opDis (a b : Int32) (V : VC) : VC := match fndF a b V.1.1 with
  | some _ => si905 (V.2.2.2.1.2.2.2.1 + 1) (sDd (vDis a b V.1) V)
  | none => V
def opN (l : List Int32) : Nat → Nat → VC → VC
  | 0, _, V => V
  | m + 1, i, V => opN l m (i + 4) (opDis (bnm l (nI i)) 1 (opDis (bnm l (nI i)) 0 V))
def obM : Nat → VC → VC
  | 0, V => V
  | t + 1, V => match V.1.1.find? (fun f => decide (f.2.1 = 2)) with
    | none => V
    | some f => obM t (opDis f.1 2 (match gmk f.2.2.1 with
      | true => opN f.2.2.1 ((f.2.2.1.length - 8) / 4) 4 V
      | false => V))
def dlH : Nat → VC → VC
  | 0, V => V
  | i + 1, V => match V.1.1[i]? with
    | none => dlH i V
    | some f => match decide (f.2.1 = 1) && (fndF f.1 0 V.1.1).isNone with
      | true => dlH i (opDis f.1 1 V)
      | false => dlH i V
theorem opDis_arr (a b : Int32) (V : VC) : (opDis a b V).1.2.2.1 = V.1.2.2.1 := by
  unfold opDis
  split
  · show (vDis a b V.1).2.2.1 = _
    unfold vDis
    split <;> rfl
  · rfl
theorem opN_arr (l : List Int32) : ∀ (m i : Nat) (V : VC), (opN l m i V).1.2.2.1 = V.1.2.2.1
  | 0, _, _ => rfl
  | m + 1, i, V => by
    show (opN l m (i + 4) _).1.2.2.1 = _
    rw [opN_arr l m, opDis_arr, opDis_arr]
section
variable {n : Nat} {g g' : Gh} {α : Type} {Q : α → Gh → Prop}
def odm (n : Nat) (g g' : Gh) : Prop := qk g' = qk g ∧ qr g' = qr g ∧ qB g' = qB g ∧ ∀ j x, x ≠ n + 21 → qi g' j x = qi g j x
theorem odm_refl : odm n g g := ⟨rfl, rfl, rfl, fun _ _ _ => rfl⟩
theorem odm_tr {g1 g2 : Gh} (h : odm n g g1) (h2 : odm n g1 g2) : odm n g g2 := ⟨h2.1.trans h.1, h2.2.1.trans h.2.1, h2.2.2.1.trans h.2.2.1, fun j x hx => (h2.2.2.2 j x hx).trans (h.2.2.2 j x hx)⟩
theorem odm_ok {d : Nat} (h : odm n g g') (hd : dOk n g d) : dOk n g' d := ⟨by rw [h.1]; exact hd.1, by rw [h.2.1]; exact hd.2.1, by rw [h.1]; exact hd.2.2.1, hd.2.2.2⟩
theorem k_odis2 {a b : Int32} {k : Unit → M α} (h : CI n g) (hA : AIV n g = []) (hk : ∀ g', Cp n g g' 0 → CV n g' = opDis a b (CV n g) → odm n g g' → qL g' (n + 10) = erF n g a b → ok (k ()) g' Q) : ok (bd (X6_discard (n + 21) a b) k) g Q := by
  have hC := ci_C h
  refine ok_bd ?_
  unfold X6_discard
  refine ok_od hC (ok_ck (cs_disk hC) (cl_discard h (fun w hw => by rw [hA] at hw; cases hw) (fun g1 p1 e1 m1' => ?_)))
  obtain ⟨m1, ml⟩ := m1'
  have eo : opDis a b (CV n g) = match fndF a b (FV n g) with
    | some _ => si905 (qi g 905 (n + 21) + 1) (sDd (vDis a b (vD n g)) (CV n g))
    | none => CV n g := rfl
  rw [eo] at hk
  cases hf : fndF a b (FV n g) with
  | none =>
    rw [hf] at hk
    refine ok_itT rfl (ok_pu (hk g1 p1 ?_ ⟨m1.2.1, m1.2.2.1, m1.2.2.2, fun j x _ => by rw [m1.1]⟩ ml))
    rw [e1]
    have : vDis a b (vD n g) = vD n g := by
      unfold vDis
      have : fndF a b (vD n g).1 = none := hf
      rw [this]
    rw [this]
    rfl
  | some f =>
    rw [hf] at hk
    have h1 := p1.2.2
    have hC1 := ci_C h1
    refine ok_itF (show ¬ bI true = 0 by decide) (ok_nz (fun hz => ok_gI (cs_op hC1) (by rw [m1.1]) (ok_pI (cs_op hC1) (ok_pu ?_))))
    obtain ⟨a1, a2⟩ := cv_i905 (x := qi g 905 (n + 21) + 1) h1 hz
    refine hk _ (cp_trans0 p1 a1) ?_ ⟨m1.2.1, m1.2.2.1, m1.2.2.2, fun j x hx => ?_⟩ ml
    · have a2' : CV n (wI g1 905 (n + 21) (qi g 905 (n + 21) + 1)) = si905 (qi g 905 (n + 21) + 1) (CV n g1) := a2
      show CV n (wI g1 905 (n + 21) (qi g 905 (n + 21) + 1)) = _
      rw [a2', e1]
      rfl
    · show u2 (qi g1) _ _ _ _ _ = _
      rw [u2_ne (fun q => hx q.2), m1.1]
theorem k_odis {a b : Int32} {k : Unit → M α} (h : CI n g) (hA : AIV n g = []) (hk : ∀ g', Cp n g g' 0 → CV n g' = opDis a b (CV n g) → odm n g g' → ok (k ()) g' Q) : ok (bd (X6_discard (n + 21) a b) k) g Q := k_odis2 h hA (fun g' p e m _ => hk g' p e m)
theorem named_loop {c en : Nat} {l : List Int32} {Q : Unit → Gh → Prop} (hen : en ≤ 60000) : ∀ (w m i : Nat) (g : Gh), m < w → en = i + 4 * m → CI n g → AIV n g = [] → qk g c = 5 → qB g c = l → (∀ g', Cp n g g' 0 → CV n g' = opN l m i (CV n g) → odm n g g' → Q () g') → ok (X6_removeNamed_b9 w (n + 21) c (nI en) (nI i)) g Q := by
  intro w
  induction w with
  | zero => intro m i g h; omega
  | succ w ih =>
    intro m i g hw he h hA hc hl hq
    show ok (X6_removeNamed_b9b (X6_removeNamed_b9 w) (n + 21) c (nI en) (nI i)) g Q
    unfold X6_removeNamed_b9b
    cases m with
    | zero => exact ok_itT (nI_le (by omega) (by omega)) (ok_pu (hq g (cp_refl h) rfl odm_refl))
    | succ m =>
      have hC := ci_C h
      refine ok_itF (nI_ge (by omega) (by omega)) (ok_ck hc (ok_bnm hc (ok_ck (cs_op hC) (k_odis h hA (fun g1 p1 e1 m1 => ?_)))))
      rw [hl] at e1 ⊢
      have hA1 : AIV n g1 = [] := by
        have a : AIV n g1 = _ := congrArg (fun V : VC => V.1.2.2.1) e1
        rw [a, opDis_arr]
        exact hA
      refine ok_ck (cs_op (ci_C p1.2.2)) (k_odis p1.2.2 hA1 (fun g2 p2 e2 m2 => ?_))
      have hA2 : AIV n g2 = [] := by
        have a : AIV n g2 = _ := congrArg (fun V : VC => V.1.2.2.1) e2
        rw [a, opDis_arr]
        exact hA1
      have M := odm_tr m1 m2
      have e4 : nI i + 4 = nI (i + 4) := nI_add i 4
      rw [e4]
      refine ih m (i + 4) g2 (by omega) (by omega) p2.2.2 hA2 (by rw [M.1]; exact hc) (by rw [M.2.2.1]; exact hl) (fun g3 p3 e3 m3 => hq g3 (cp_trans0 (cp_trans0 p1 p2) p3) ?_ (odm_tr M m3))
      rw [e3, e2, e1]
      rfl
theorem gmk_len {l : List Int32} (h : gmk l = true) (hl : l.length ≤ 60000) : ∃ k, l.length = 8 + 4 * k := by
  unfold gmk at h
  simp only [Bool.and_eq_true] at h
  have h1 := of_decide_eq_true h.1.1
  have h2 := of_decide_eq_true h.1.2
  rw [lg_cmp_eq] at h2
  have h3 := congrArg Int64.toInt h2
  have hx1 : (bnm l 0).toInt < 2 ^ 31 := Int32.toInt_lt _
  have hx2 : -2 ^ 31 ≤ (bnm l 0).toInt := Int32.le_toInt _
  rw [Int32.toInt_toInt64, nI_toInt (by omega), Int64.toInt_add, Int64.toInt_mul, Int32.toInt_toInt64, show (4 : Int64).toInt = 4 from rfl, show (8 : Int64).toInt = 8 from rfl] at h3
  rw [Int.bmod_eq_of_le (n := 4 * (bnm l 0).toInt) (by omega) (by omega), Int.bmod_eq_of_le (by omega) (by omega)] at h3
  exact ⟨(bnm l 0).toInt.toNat, by omega⟩
theorem k_named {c : Nat} {k : Unit → M α} (h : CI n g) (hA : AIV n g = []) (hc : qk g c = 5) (hm : gmk (qB g c) = true) (hk : ∀ g', Cp n g g' 0 → CV n g' = opN (qB g c) (((qB g c).length - 8) / 4) 4 (CV n g) → odm n g g' → ok (k ()) g' Q) : ok (bd (X6_removeNamed (n + 21) c) k) g Q := by
  refine ok_lenB hc (fun hl => ok_bd ?_)
  unfold X6_removeNamed
  refine ok_ck hc (ok_bsize hc (ok_bpu ?_))
  obtain ⟨q, hq⟩ := gmk_len hm hl
  have e4 : nI (qB g c).length - 4 = nI ((qB g c).length - 4) := nI_subN (b := 4) (by omega)
  rw [e4]
  have : FU = 1000000 := rfl
  exact named_loop (l := qB g c) (by omega) FU (((qB g c).length - 8) / 4) 4 g (by omega) (by omega) h hA hc rfl hk
theorem marks_loop {Q : Unit → Gh → Prop} : ∀ (w t : Nat) (g : Gh), t < w → t ≤ 60000 → CI n g → AIV n g = [] → (∀ g', Cp n g g' 0 → CV n g' = obM t (CV n g) → AIV n g' = [] → Q () g') → ok (X6_obeyMarks_b8 w (n + 21) (nI t)) g Q := by
  intro w
  induction w with
  | zero => intro t g h; omega
  | succ w ih =>
    intro t g hw ht h hA hq
    show ok (X6_obeyMarks_b8b (X6_obeyMarks_b8 w) (n + 21) (nI t)) g Q
    unfold X6_obeyMarks_b8b X6_obeyMarks_b44
    have hC := ci_C h
    cases t with
    | zero => exact ok_itT (by decide) (ok_pu (hq g (cp_refl h) rfl hA))
    | succ t =>
      have et : nI (t + 1) + -1 = nI t := by
        have := nI_subN (a := t + 1) (b := 1) (by omega)
        rw [Int32.sub_eq_add_neg, Nat.add_sub_cancel] at this
        exact this
      refine ok_itF (nI_ge (a := 0) (b := t + 1) (by omega) (by omega)) (ok_od hC (ok_ck (cs_disk hC) (ok_firstOf hC (ci_D h) ?_)))
      have eo : obM (t + 1) (CV n g) = match (fst1 g 2 (qL g (n + 10))).map (fvw g) with
        | none => CV n g
        | some f => obM t (opDis f.1 2 (match gmk f.2.2.1 with
          | true => opN f.2.2.1 ((f.2.2.1.length - 8) / 4) 4 (CV n g)
          | false => CV n g)) := by
        rw [← fst_find]
        rfl
      rw [eo] at hq
      cases hf : fst1 g 2 (qL g (n + 10)) with
      | none =>
        rw [hf] at hq
        exact ok_pu (hq g (cp_refl h) rfl hA)
      | some y =>
        rw [hf] at hq
        simp only [Option.map_some] at hq
        have hy := (ci_D h).1 y (List.mem_append_left _ (fst1_mem _ hf))
        show ok (bd (gR 7 0 y) _) g Q
        refine ok_dby hy (k_isGoodMark hy.2.2.1 ?_)
        have tail : ∀ (g1 : Gh) (V1 : VC), Cp n g g1 0 → CV n g1 = V1 → AIV n g1 = [] → odm n g g1 → (∀ g', Cp n g g' 0 → CV n g' = obM t (opDis (qi g 701 y) 2 V1) → AIV n g' = [] → Q () g') → ok (nn (some y) (fun y1 => bd (gI 7 1 y1) (fun x2 => bd (ck 9 (n + 21)) (fun _ => bd (X6_discard (n + 21) x2 2) (fun _ => X6_obeyMarks_b8 w (n + 21) (nI (t + 1) + -1)))))) g1 Q := by
          intro g1 V1 p1 e1 hA1 m1 hq1
          have h1 := p1.2.2
          have hy1 := odm_ok m1 hy
          have i1 : qi g1 701 y = qi g 701 y := m1.2.2.2 _ _ (by have := hy.2.2.2; omega)
          show ok (bd (gI 7 1 y) _) g1 Q
          refine ok_gI hy1.1 i1 (ok_ck (cs_op (ci_C h1)) (k_odis h1 hA1 (fun g2 p2 e2 m2 => ?_)))
          rw [et]
          have hA2 : AIV n g2 = [] := by
            have a : AIV n g2 = _ := congrArg (fun V : VC => V.1.2.2.1) e2
            rw [a, opDis_arr]
            exact hA1
          refine ih t g2 (by omega) (by omega) p2.2.2 hA2 (fun g3 p3 e3 a3 => hq1 g3 (cp_trans0 (cp_trans0 p1 p2) p3) ?_ a3)
          rw [e3, e2, e1]
        have ey : (fvw g y).2.2.1 = qB g (y + 1) := rfl
        rw [ey] at hq
        cases hm : gmk (qB g (y + 1)) with
        | false =>
          rw [hm] at hq
          exact ok_itT rfl (tail g _ (cp_refl h) rfl hA odm_refl hq)
        | true =>
          rw [hm] at hq
          refine ok_itF (by decide) (ok_dby hy (ok_ck (cs_op hC) (k_named h hA hy.2.2.1 hm (fun g1 p1 e1 m1 => ?_))))
          refine tail g1 _ p1 e1 ?_ m1 hq
          have a : AIV n g1 = _ := congrArg (fun V : VC => V.1.2.2.1) e1
          rw [a, opN_arr]
          exact hA
theorem k_marks {k : Unit → M α} (h : CI n g) (hA : AIV n g = []) (hk : ∀ g', Cp n g g' 0 → CV n g' = obM (FV n g).length (CV n g) → AIV n g' = [] → ok (k ()) g' Q) : ok (bd (X6_obeyMarks (n + 21)) k) g Q := by
  have hC := ci_C h
  have h9 := h.2.2
  have hfl := fv_len (n := n) (g := g)
  refine ok_bd ?_
  unfold X6_obeyMarks
  refine ok_od hC (ok_ck (cs_disk hC) (ok_count hC ?_))
  have : FU = 1000000 := rfl
  exact marks_loop FU (FV n g).length g (by omega) (by omega) h hA hk
theorem lone_loop {Q : Unit → Gh → Prop} : ∀ (w i : Nat) (g : Gh), i < w → i ≤ 60000 → CI n g → AIV n g = [] → (∀ g', Cp n g g' 0 → CV n g' = dlH i (CV n g) → AIV n g' = [] → Q () g') → ok (X6_dropLoneHints_b10 w (n + 21) (nI i - 1)) g Q := by
  intro w
  induction w with
  | zero => intro i g h; omega
  | succ w ih =>
    intro i g hw hi h hA hq
    show ok (X6_dropLoneHints_b10b (X6_dropLoneHints_b10 w) (n + 21) (nI i - 1)) g Q
    unfold X6_dropLoneHints_b10b X6_dropLoneHints_b59
    have hC := ci_C h
    cases i with
    | zero => exact ok_itT (by decide) (ok_pu (hq g (cp_refl h) rfl hA))
    | succ i =>
      have e1 : nI (i + 1) - 1 = nI i := nI_subN (a := i + 1) (b := 1) (by omega)
      have e2 : nI i + -1 = nI i - 1 := by rw [Int32.sub_eq_add_neg]
      rw [e1, e2]
      refine ok_itF (nI_pos (by omega)) (ok_od hC (ok_ck (cs_disk hC) (ok_at hC (ci_D h) ?_)))
      rw [oat_nI (by omega)]
      unfold dlH at hq
      have eF : (CV n g).1.1[i]? = ((qL g (n + 10))[i]?).map (fvw g) := by
        show (FV n g)[i]? = _
        unfold FV
        rw [List.getElem?_map]
      rw [eF] at hq
      cases hd : (qL g (n + 10))[i]? with
      | none =>
        rw [hd] at hq
        exact ih i g (by omega) (by omega) h hA hq
      | some d =>
        rw [hd] at hq
        simp only [Option.map_some] at hq
        have hdk := di_at (ci_D h) hd
        have k1 : decide ((fvw g d).2.1 = 1) = decide (qi g 702 d = 1) := rfl
        have k2 : fndF (fvw g d).1 0 (CV n g).1.1 = fndF (qi g 701 d) 0 (FV n g) := rfl
        have k3 : opDis (fvw g d).1 1 (CV n g) = opDis (qi g 701 d) 1 (CV n g) := rfl
        rw [k1, k2, k3] at hq
        show ok (bd (gI 7 2 d) _) g Q
        refine ok_gI hdk.1 rfl ?_
        by_cases c1 : qi g 702 d = 1
        · rw [decide_eq_true c1, Bool.true_and] at hq
          refine ok_itF (fun q => q c1) (ok_od hC (ok_gI hdk.1 rfl (ok_ck (cs_disk hC) (ok_find hC (ci_D h) ?_))))
          show ok (co (fnd n g (qi g 701 d) 0) _ _) g Q
          cases hf : fnd n g (qi g 701 d) 0 with
          | none =>
            rw [fnd_N hf] at hq
            show ok (bd (gI 7 1 d) _) g Q
            refine ok_gI hdk.1 rfl (ok_ck (cs_op hC) (k_odis h hA (fun g1 p1 e1 m1 => ?_)))
            have hA1 : AIV n g1 = [] := by
              have a : AIV n g1 = _ := congrArg (fun V : VC => V.1.2.2.1) e1
              rw [a, opDis_arr]
              exact hA
            refine ih i g1 (by omega) (by omega) p1.2.2 hA1 (fun g2 p2 e2 a2 => hq g2 (cp_trans0 p1 p2) ?_ a2)
            rw [e2, e1]
            rfl
          | some y =>
            rw [fnd_F hf] at hq
            exact ih i g (by omega) (by omega) h hA hq
        · rw [decide_eq_false c1, Bool.false_and] at hq
          exact ok_itT c1 (ih i g (by omega) (by omega) h hA hq)
theorem k_lone {k : Unit → M α} (h : CI n g) (hA : AIV n g = []) (hk : ∀ g', Cp n g g' 0 → CV n g' = dlH (FV n g).length (CV n g) → AIV n g' = [] → ok (k ()) g' Q) : ok (bd (X6_dropLoneHints (n + 21)) k) g Q := by
  have hC := ci_C h
  have h9 := h.2.2
  have hfl := fv_len (n := n) (g := g)
  refine ok_bd ?_
  unfold X6_dropLoneHints
  refine ok_od hC (ok_ck (cs_disk hC) (ok_count hC (ok_bpu ?_)))
  have : FU = 1000000 := rfl
  exact lone_loop FU (FV n g).length g (by omega) (by omega) h hA hk
end
