/-! an opening: reading hints and records -/
def opRd (t : List Int32) (a b c d : Int32) (V : VC) : VC := si906 (imx V.2.2.2.1.2.2.2.2 d) (sRr (match (ensR t V.2.1)[plR t V.2.1]? with
  | some r => if d < r.2.2.2.2 then ensR t V.2.1 else telR (plR t V.2.1) a b c d (ensR t V.2.1)
  | none => ensR t V.2.1) V)
def keyA (l : List Int32) (i : Nat) : List Int32 := (l.drop (i + 14)).take (bsh l (nI i + 8)).toNatClampNeg
def rhL (l : List Int32) (a : Int32) (en : Nat) : Nat → Nat → VC → VC
  | 0, _, V => V
  | m + 1, i, V => if en ≤ i then V else rhL l a en m (i + 14 + (bsh l (nI i + 8)).toNatClampNeg) (si902 (V.2.2.2.1.1 + 1) (opRd (keyA l i) a (bnm l (nI i + 4)) (bnm l (nI i + 10)) (bnm l (nI i)) V))
def rrL (l : List Int32) (a : Int32) : Nat → Nat → VC → Nat × VC
  | 0, i, V => (i, V)
  | t + 1, i, V => match whl l i with
    | false => (i, V)
    | true => rrL l a t (i + rsn (bsh l (nI i + 8)) (bnm l (nI i + 10))) (si903 (V.2.2.2.1.2.1 + 1) (opRd (keyA l i) a (nI i) (bnm l (nI i + 10)) (bnm l (nI i + 4)) V))
theorem ensR_len (t : List Int32) (rs : List AR) : (ensR t rs).length ≤ rs.length + 1 := by
  unfold ensR
  split
  · omega
  · have := plR_le t rs
    simp only [List.length_append, List.length_cons, List.length_take, List.length_drop]
    omega
theorem telR_len (p : Nat) (a b c d : Int32) (rs : List AR) : (telR p a b c d rs).length = rs.length := by
  unfold telR
  split
  · exact List.length_set
  · rfl
theorem srtR_map {rs rs' : List AR} (h : SrtR rs) (e : rs'.map (fun r => r.1) = rs.map (fun r => r.1)) : SrtR rs' := by
  unfold SrtR at *
  have h1 : (rs.map (fun r => r.1)).Pairwise (fun a b => csg a b < 0) := List.pairwise_map.mpr h
  rw [← e] at h1
  exact List.pairwise_map.mp h1
theorem telR_keys (p : Nat) (a b c d : Int32) (rs : List AR) : (telR p a b c d rs).map (fun r => r.1) = rs.map (fun r => r.1) := by
  unfold telR
  split
  · rename_i r hr
    apply List.ext_getElem?
    intro i
    rw [List.getElem?_map, List.getElem?_map, List.getElem?_set]
    by_cases e : p = i
    · subst e
      rw [if_pos rfl, if_pos (lt_of_some hr), hr]
      rfl
    · rw [if_neg e]
  · rfl
theorem ensR_srt {t : List Int32} {rs : List AR} (h : SrtR rs) : SrtR (ensR t rs) := by
  unfold ensR
  split
  · exact h
  · rename_i hn
    refine srtR_ins h rfl (fun r hr q => ?_)
    rw [hr] at hn
    simp only [Option.filter_some] at hn
    rw [if_pos (show isR t r = true from decide_eq_true q)] at hn
    cases hn
theorem opRd_rows {t : List Int32} {a b c d : Int32} {V : VC} : (opRd t a b c d V).2.1.length ≤ V.2.1.length + 1 ∧ (SrtR V.2.1 → SrtR (opRd t a b c d V).2.1) := by
  have h1 := ensR_len t V.2.1
  unfold opRd
  show (match (ensR t V.2.1)[plR t V.2.1]? with
    | some r => if d < r.2.2.2.2 then ensR t V.2.1 else telR (plR t V.2.1) a b c d (ensR t V.2.1)
    | none => ensR t V.2.1).length ≤ _ ∧ (_ → SrtR (match (ensR t V.2.1)[plR t V.2.1]? with
    | some r => if d < r.2.2.2.2 then ensR t V.2.1 else telR (plR t V.2.1) a b c d (ensR t V.2.1)
    | none => ensR t V.2.1))
  split
  · split
    · exact ⟨h1, fun h => ensR_srt h⟩
    · exact ⟨by rw [telR_len]; exact h1, fun h => srtR_map (ensR_srt h) (telR_keys _ _ _ _ _ _)⟩
  · exact ⟨h1, fun h => ensR_srt h⟩
section
variable {n : Nat} {g g' : Gh} {α : Type} {Q : α → Gh → Prop}
def RO (n : Nat) (g : Gh) (a : Nat) : Prop := ownR n g a ∨ a = n + 21
def rsm (n : Nat) (g g' : Gh) : Prop := fra (RO n g) g g'
theorem rsm_tr {g1 g2 : Gh} (h : rsm n g g1) (h2 : rsm n g1 g2) : rsm n g g2 := fra_trans h h2 (fun a ha q => by
  rcases q with q | q
  · exact Or.inl (ownR_eq h a ha q)
  · exact Or.inr q)
theorem rsm_R (h : fra (ownR n g) g g') : rsm n g g' := fra_mono h (fun _ _ q => Or.inl q)
theorem rsm_d {d : Nat} (hCI : CI n g) (hz : ∀ a, qk g a ≠ 0 → a < qn g) (h : rsm n g g') (hd : dOk n g d) : dOk n g' d ∧ qB g' (d + 1) = qB g (d + 1) ∧ qi g' 701 d = qi g 701 d ∧ qk g' (d + 1) = 5 := by
  have l1 := hz d (by rw [hd.1]; decide)
  have l2 := hz (d + 1) (by rw [hd.2.2.1]; decide)
  have n1 : ¬ RO n g d := by
    rintro (q | q)
    · exact ownDR (ci_C hCI) (Or.inl hd.1) q
    · have := hd.2.2.2
      omega
  have n2 : ¬ RO n g (d + 1) := by
    rintro (q | q)
    · exact ownDR (ci_C hCI) (Or.inr (Or.inr (Or.inl ⟨hd.2.2.1, hd.1⟩))) q
    · have := hd.2.2.2
      omega
  have f1 := h.2.2.2 d l1 n1
  have f2 := h.2.2.2 (d + 1) l2 n2
  have k2 := (h.2.1 _ l2).trans hd.2.2.1
  exact ⟨⟨(h.2.1 d l1).trans hd.1, (f1.2.1 _).trans hd.2.1, k2, hd.2.2.2⟩, f2.2.2.1.1, f1.1 _, k2⟩
theorem rsm_L (hCI : CI n g) (hz : ∀ a, qk g a ≠ 0 → a < qn g) (h : rsm n g g') : qL g' (n + 10) = qL g (n + 10) := by
  refine (h.2.2.2 _ (hz _ (by rw [cs_fl (ci_C hCI)]; decide)) ?_).2.2.2.1.1
  rintro (q | q)
  · exact ownDR (ci_C hCI) (Or.inr (Or.inr (Or.inr (Or.inr (Or.inl rfl))))) q
  · omega
theorem k_read {r p : Nat} {a b c d : Int32} {k : Unit → M α} (h : CI n g) (hr : (qL g (n + 14))[p]? = some r) (hk : ∀ g', Cp n g g' 0 → CV n g' = si906 (imx (qi g 906 (n + 21)) d) (sRr (if d < qi g 1004 r then RV n g else telR p a b c d (RV n g)) (CV n g)) → rsm n g g' → ok (k ()) g' Q) : ok (bd (X6_read (n + 21) r a b c d) k) g Q := by
  have hC := ci_C h
  have hrk := ri_at (ci_R h) hr
  refine ok_bd ?_
  unfold X6_read X6_read_b19
  refine ok_gI hrk.1 rfl ?_
  have b19 : ∀ (g1 : Gh) (R1 : List AR), Cp n g g1 0 → CV n g1 = sRr R1 (CV n g) → rsm n g g1 → (∀ g', Cp n g g' 0 → CV n g' = si906 (imx (qi g 906 (n + 21)) d) (sRr R1 (CV n g)) → rsm n g g' → ok (k ()) g' Q) → ok (bd (gI 9 6 (n + 21)) (fun x1 => bd (pV 9 6 (n + 21) (.int (imx x1 d))) (fun _ => pu ()))) g1 (fun v g1 => ok (k v) g1 Q) := by
    intro g1 R1 p1 e1 m1 hk1
    have h1 := p1.2.2
    have i1 : qi g1 906 (n + 21) = qi g 906 (n + 21) := congrArg (fun V : VC => V.2.2.2.1.2.2.2.2) e1
    refine ok_nz (fun hz => ok_gI (cs_op (ci_C h1)) i1 (ok_pI (cs_op (ci_C h1)) (ok_pu ?_)))
    obtain ⟨a1, a2⟩ := cv_i906 (x := imx (qi g 906 (n + 21)) d) h1 hz
    refine hk1 _ (cp_trans0 p1 a1) ?_ (rsm_tr m1 (fra_wI (Or.inr rfl)))
    show CV n (wI g1 906 (n + 21) (imx (qi g 906 (n + 21)) d)) = _
    have a2' : CV n (wI g1 906 (n + 21) (imx (qi g 906 (n + 21)) d)) = si906 (imx (qi g 906 (n + 21)) d) (CV n g1) := a2
    rw [a2', e1]
  by_cases c0 : d < qi g 1004 r
  · rw [if_pos c0] at hk
    exact ok_itT c0 (b19 g (RV n g) (cp_refl h) rfl fra_refl hk)
  · rw [if_neg c0] at hk
    refine ok_itF c0 (ok_ck hrk.1 (cl_tell2 h hr (fun g1 p1 e1 m1 => b19 g1 _ p1 ?_ (rsm_R m1) hk)))
    rw [e1, telR_set (rv_at hr)]
    rfl
theorem ro_cnt {j : Nat} {x : Int32} {F : VC → VC} {k : Unit → M α} (h : CI n g) (hcv : (∀ a, qk g a ≠ 0 → a < qn g) → Cp n g (wI g (100 * 9 + j) (n + 21) x) 0 ∧ CV n (wI g (100 * 9 + j) (n + 21) x) = F (CV n g)) (hg : gIk 9 j = true) (hk : ∀ g', Cp n g g' 0 → CV n g' = F (CV n g) → rsm n g g' → ok (k ()) g' Q) : ok (bd (pV 9 j (n + 21) (.int x)) k) g Q := by
  refine ok_nz (fun hz => ok_pI (cs_op (ci_C h)) ?_ hg)
  obtain ⟨a1, a2⟩ := hcv hz
  exact hk _ a1 a2 (fra_wI (Or.inr rfl))
theorem hint_loop {y en : Nat} {l : List Int32} {num ds : Int32} {Q : Unit → Gh → Prop} (hen : en ≤ l.length) (hll : l.length ≤ 20000) : ∀ (w m i : Nat) (ct : Int32) (g : Gh), m < w → 0 < m → en < i + m → i ≤ 40000 → CI n g → dOk n g y → qB g (y + 1) = l → qi g 701 y = num → SrtR (RV n g) → 15 * (RV n g).length + (en - i) ≤ 18000 → ghL l en ds m i ct = true → (∀ g', Cp n g g' 0 → CV n g' = rhL l num en m i (CV n g) → rsm n g g' → Q () g') → ok (X6_readHint_b15 w (n + 21) y (y + 1) (nI en) (nI i)) g Q := by
  intro w
  induction w with
  | zero => intro m i ct g h; omega
  | succ w ih =>
    intro m i ct g hw h0 hf hi4 h hy hl hnm hS hb hgh hq
    show ok (X6_readHint_b15b (X6_readHint_b15 w) (n + 21) y (y + 1) (nI en) (nI i)) g Q
    unfold X6_readHint_b15b
    cases m with
    | zero => omega
    | succ m =>
      unfold rhL at hq
      unfold ghL at hgh
      by_cases c1 : en ≤ i
      · rw [if_pos c1] at hq
        exact ok_itT (nI_le c1 (by omega)) (ok_pu (hq g (cp_refl h) rfl fra_refl))
      rw [if_neg c1] at hq hgh
      simp only [Bool.and_eq_true] at hgh
      obtain ⟨hgen, hgh⟩ := hgh
      have hg2 := hgen
      unfold gen at hg2
      simp only [Bool.and_eq_true] at hg2
      have ht := hg2.1.1.1.2
      have h2 := of_decide_eq_true hg2.1.1.2
      obtain ⟨t1, t2, t3, t4, -⟩ := told_d ht
      have hC := ci_C h
      have hc := hy.2.2.1
      refine ok_nz (fun hz => ok_itF (nI_ge (by omega) (by omega)) (ok_or hC (ok_ck hc (ok_bsh hc (ok_ck (cs_dir hC) ?_)))))
      rw [hl]
      have hco : ¬ ownR n g (y + 1) := ownDR hC (Or.inr (Or.inr (Or.inl ⟨hy.2.2.1, hy.1⟩)))
      refine cl_rowFor (f := i + 14) (m := (bsh l (nI i + 8)).toNatClampNeg) h hS hc hco (nI_add i 14) t4 (by rw [hl]; omega) t2 (by omega) (fun g1 r p1 e1 hr1 m1 => ?_)
      rw [hl] at e1 hr1
      have h1 := p1.2.2
      have hC1 := ci_C h1
      obtain ⟨hy1, hB1, hn1, hc1⟩ := rsm_d h hz (rsm_R m1) hy
      rw [hl] at hB1
      rw [hnm] at hn1
      have rv1 : RV n g1 = ensR (keyA l i) (RV n g) := congrArg (fun V : VC => V.2.1) e1
      refine ok_ck hc1 (ok_bnm hc1 (ok_gI hy1.1 hn1 (ok_ck hc1 (ok_bnm hc1 (ok_ck hc1 (ok_bnm hc1 (ok_ck (cs_op hC1) ?_)))))))
      rw [hB1]
      refine k_read h1 hr1 (fun g2 p2 e2 m2 => ?_)
      have h2' := p2.2.2
      have g906 : qi g1 906 (n + 21) = qi g 906 (n + 21) := congrArg (fun V : VC => V.2.2.2.1.2.2.2.2) e1
      have E2 : CV n g2 = opRd (keyA l i) num (bnm l (nI i + 4)) (bnm l (nI i + 10)) (bnm l (nI i)) (CV n g) := by
        rw [e2, g906, rv1, e1]
        have hrv := rv_at hr1
        rw [rv1] at hrv
        unfold opRd
        have e9 : (CV n g).2.1 = RV n g := rfl
        have e8 : ((qB g (y + 1)).drop (i + 14)).take (bsh l (nI i + 8)).toNatClampNeg = keyA l i := by rw [hl]; rfl
        rw [e9]
        have hrv2 : (ensR (keyA l i) (RV n g))[plR (keyA l i) (RV n g)]? = some (rvw g1 r) := hrv
        rw [hrv2]
        rfl
      have x902 : qi g2 902 (n + 21) = qi g 902 (n + 21) := congrArg (fun V : VC => V.2.2.2.1.1) E2
      refine ok_gI (cs_op (ci_C h2')) x902 (ro_cnt (j := 2) (F := si902 (qi g 902 (n + 21) + 1)) h2' (fun hz2 => cv_i902 h2' hz2) rfl (fun g3 p3 e3 m3 => ?_))
      have h3 := p3.2.2
      have M := rsm_tr (rsm_tr (rsm_R m1) m2) m3
      obtain ⟨hy3, hB3, hn3, hc3⟩ := rsm_d h hz M hy
      rw [hl] at hB3
      rw [hnm] at hn3
      refine ok_ck hc3 (ok_bsh hc3 (ok_bpu ?_))
      rw [hB3]
      have ek : nI i + (14 + bsh l (nI i + 8)) = nI (i + 14 + (bsh l (nI i + 8)).toNatClampNeg) := by
        rw [Nat.add_assoc, ← nI_add, ← nI_add]
        exact congrArg (fun x => nI i + (14 + x)) t4
      rw [ek]
      have rv3 : RV n g3 = (opRd (keyA l i) num (bnm l (nI i + 4)) (bnm l (nI i + 10)) (bnm l (nI i)) (CV n g)).2.1 := by
        have a : RV n g3 = RV n g2 := congrArg (fun V : VC => V.2.1) e3
        have b : RV n g2 = _ := congrArg (fun V : VC => V.2.1) E2
        exact a.trans b
      have ho := opRd_rows (t := keyA l i) (a := num) (b := bnm l (nI i + 4)) (c := bnm l (nI i + 10)) (d := bnm l (nI i)) (V := CV n g)
      have ho1 : (RV n g3).length ≤ (RV n g).length + 1 := by rw [rv3]; exact ho.1
      refine ih m _ (ct + 1) g3 (by omega) (by omega) (by omega) (by omega) h3 hy3 hB3 hn3 (by rw [rv3]; exact ho.2 hS) (by omega) hgh (fun g4 p4 e4 m4 => hq g4 (cp_trans0 (cp_trans0 (cp_trans0 p1 p2) p3) p4) ?_ (rsm_tr M m4))
      rw [e4, e3, E2]
      rfl
theorem k_readHint {y : Nat} {ds : Int32} {k : Unit → M α} (h : CI n g) (hy : dOk n g y) (hl : (qB g (y + 1)).length ≤ 19000) (hS : SrtR (RV n g)) (hb : 15 * (RV n g).length + (qB g (y + 1)).length ≤ 18000) (hg : ghi (qB g (y + 1)) ds = true) (hk : ∀ g', Cp n g g' 0 → CV n g' = rhL (qB g (y + 1)) (qi g 701 y) ((qB g (y + 1)).length - 4) 20000 4 (CV n g) → rsm n g g' → ok (k ()) g' Q) : ok (bd (X6_readHint (n + 21) y) k) g Q := by
  unfold ghi at hg
  simp only [Bool.and_eq_true] at hg
  have h8 := of_decide_eq_true hg.1.1
  refine ok_bd ?_
  unfold X6_readHint
  refine ok_dby hy (ok_ck hy.2.2.1 (ok_bsize hy.2.2.1 (ok_bpu ?_)))
  have e4 : nI (qB g (y + 1)).length - 4 = nI ((qB g (y + 1)).length - 4) := nI_subN (b := 4) (by omega)
  rw [e4]
  have : FU = 1000000 := rfl
  exact hint_loop (ds := ds) (by omega) (by omega) FU 20000 4 0 g (by omega) (by omega) (by omega) (by omega) h hy rfl rfl hS (by omega) hg.2 hk
end
