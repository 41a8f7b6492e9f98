/-! an opening: reading files -/
def cutP (p i : Nat) (fs : List AF) : List AF := match fs[p]? with
  | some f => fs.set p (f.1, f.2.1, f.2.2.1.take i, f.2.2.2.1, f.2.2.2.2)
  | none => fs
def rrE (p : Nat) (a : Int32) (len i : Nat) (V : VC) : VC := match i with
  | 0 => opDis a 0 (sDd (cutP p 0 V.1.1, V.1.2) (si904 (V.2.2.2.1.2.2.1 + (nI len - nI 0)) V))
  | i + 1 => sDd (cutP p (i + 1) V.1.1, V.1.2) (si904 (V.2.2.2.1.2.2.1 + (nI len - nI (i + 1))) V)
def rdV (p : Nat) (f : AF) (V : VC) : Nat × VC := ((rrL f.2.2.1 f.1 f.2.2.1.length 0 V).1, rrE p f.1 f.2.2.1.length (rrL f.2.2.1 f.1 f.2.2.1.length 0 V).1 (rrL f.2.2.1 f.1 f.2.2.1.length 0 V).2)
def ghF (f : AF) (fs : List AF) : Option AF := (fndF f.1 1 fs).filter (fun h => ghi h.2.2.1 (nI f.2.2.1.length))
def rdF : Nat → Nat → VC → VC
  | 0, _, V => V
  | t + 1, i, V => match V.1.1[i]? with
    | none => V
    | some f => if ¬ f.2.1 = 0 then rdF t (i + 1) V else match ghF f V.1.1 with
      | some x => rdF t (i + 1) (rhL x.2.2.1 x.1 (x.2.2.1.length - 4) 20000 4 V)
      | none => rdF t (match (rdV i f (opDis f.1 1 V)).1 with
        | 0 => i
        | _ + 1 => i + 1) (rdV i f (opDis f.1 1 V)).2
def rdOK : Nat → Nat → VC → Prop
  | 0, _, _ => True
  | t + 1, i, V => match V.1.1[i]? with
    | none => True
    | some f => if ¬ f.2.1 = 0 then rdOK t (i + 1) V else (SrtR V.2.1 ∧ SrtF V.1.1 ∧ (∀ v, v ∈ V.1.1 → v.2.2.1.length ≤ 19000)) ∧ match ghF f V.1.1 with
      | some x => 15 * V.2.1.length + x.2.2.1.length ≤ 18000 ∧ rdOK t (i + 1) (rhL x.2.2.1 x.1 (x.2.2.1.length - 4) 20000 4 V)
      | none => 15 * V.2.1.length + f.2.2.1.length ≤ 18000 ∧ rdOK t (match (rdV i f (opDis f.1 1 V)).1 with
        | 0 => i
        | _ + 1 => i + 1) (rdV i f (opDis f.1 1 V)).2
theorem plF_self {fs : List AF} {p : Nat} {f : AF} (h : SrtF fs) (hf : fs[p]? = some f) : plF f.1 f.2.1 fs = p := by
  have hs := List.pairwise_iff_getElem.mp h
  have hlt := lt_of_some hf
  have hp := plF_le f.1 f.2.1 fs
  have get : ∀ {i j : Nat} {x y : AF}, fs[i]? = some x → fs[j]? = some y → i < j → ltF x.1 x.2.1 y := by
    intro i j x y hx hy hij
    have li := lt_of_some hx
    have lj := lt_of_some hy
    have := hs i j li lj hij
    rw [List.getElem?_eq_getElem li] at hx
    rw [List.getElem?_eq_getElem lj] at hy
    rw [Option.some.inj hx, Option.some.inj hy] at this
    exact this
  rcases Nat.lt_trichotomy (plF f.1 f.2.1 fs) p with q | q | q
  · obtain ⟨e, he⟩ := some_of_lt (show plF f.1 f.2.1 fs < fs.length by omega)
    have h1 := plF_at fs e he
    have h2 := get he hf q
    unfold ltF at h2
    simp only [Int32.lt_iff_toInt_lt, ← Int32.toInt_inj] at h1 h2
    omega
  · exact q
  · have h1 := plF_before fs p f q hf
    unfold ltF at h1
    simp only [Int32.lt_iff_toInt_lt, ← Int32.toInt_inj] at h1
    omega
theorem plF_gt {fs : List AF} {p : Nat} {f : AF} {a b : Int32} (h : SrtF fs) (hf : fs[p]? = some f) (hl : ltF f.1 f.2.1 (a, b, [], 0, 0)) : p < plF a b fs := by
  have hs := List.pairwise_iff_getElem.mp h
  have hlt := lt_of_some hf
  rcases Nat.lt_or_ge p (plF a b fs) with q | q
  · exact q
  · obtain ⟨e, he⟩ := some_of_lt (show plF a b fs < fs.length by omega)
    have h1 := plF_at fs e he
    exfalso
    rcases Nat.lt_or_ge (plF a b fs) p with q2 | q2
    · have le := lt_of_some he
      have := hs _ _ le hlt q2
      have he' := he
      have hf' := hf
      rw [List.getElem?_eq_getElem le] at he'
      rw [List.getElem?_eq_getElem hlt] at hf'
      rw [Option.some.inj he', Option.some.inj hf'] at this
      unfold ltF at hl
      simp only [Int32.lt_iff_toInt_lt, ← Int32.toInt_inj] at this h1 hl
      omega
    · have : plF a b fs = p := by omega
      rw [this, hf] at he
      cases he
      unfold ltF at hl
      simp only [Int32.lt_iff_toInt_lt, ← Int32.toInt_inj] at h1 hl
      omega
section
variable {n : Nat} {g g' : Gh} {α : Type} {Q : α → Gh → Prop}
theorem lift_wX {p d : Nat} {l : List Int32} (h : CI n g) (hz : ∀ a, qk g a ≠ 0 → a < qn g) (hd : (qL g (n + 10))[p]? = some d) : Cp n g (wX g (d + 1) l) 0 ∧ CV n (wX g (d + 1) l) = sDd ((FV n g).set p (qi g 701 d, qi g 702 d, l, qC g (d + 1), qi g 703 d), (vD n g).2) (CV n g) := by
  have hD := ci_D h
  have hA := ci_A h
  have hdk := di_at hD hd
  generalize hg1 : wX g (d + 1) l = g1
  have q1 : qi g1 = qi g := by rw [← hg1]; rfl
  have q2 : qr g1 = qr g := by rw [← hg1]; rfl
  have q3 : qL g1 = qL g := by rw [← hg1]; rfl
  have q4 : qC g1 = qC g := by rw [← hg1]; rfl
  have q5 : qB g1 = va_up (qB g) (d + 1) l := by rw [← hg1]; rfl
  have q6 : qk g1 = qk g := by rw [← hg1]; rfl
  have hac : acn n g1 = acn n g := by unfold acn; rw [q1]
  have hA1 : AvI n g1 := ⟨by rw [q1, hac]; exact hA.1, by rw [hac, q3]; exact hA.2.1, by rw [q3, q6]; exact hA.2.2.1, by rw [q3]; exact hA.2.2.2.1, by rw [hac, q3, q2]; exact hA.2.2.2.2⟩
  have hp1 : Dp n g g1 0 := by
    rw [← hg1]
    exact ⟨fra_wX (Or.inr (Or.inr (Or.inl ⟨hdk.2.2.1, hdk.1⟩))), ⟨⟨Nat.le_refl _, Nat.le_refl _⟩, fun h => h⟩, hD⟩
  have h9 := h.2.2
  obtain ⟨m1, m2⟩ := lift_D h hz hp1 hA1 (by rw [q3]; omega) (by rw [q3]; omega)
  refine ⟨m1, ?_⟩
  rw [m2]
  have f1 : FV n g1 = (FV n g).set p (qi g 701 d, qi g 702 d, l, qC g (d + 1), qi g 703 d) := by
    unfold FV
    rw [q3]
    refine map_upd (List.nodup_append.mp hD.2).1 hd (fun x hx hne => ?_) ?_
    · unfold fvw
      rw [q1, q4, q5, vu_ne (by omega)]
    · unfold fvw
      rw [q1, q4, q5, vu_eq]
  have f2 : SV n g1 = SV n g := by
    unfold SV
    rw [q3, q4]
  have f3 : AIV n g1 = AIV n g := by
    unfold AIV avw
    rw [hac, q3, q1, q2]
  have f4 : DSC n g1 = DSC n g := by
    unfold DSC
    rw [q1]
  have f5 : vD n g1 = ((FV n g).set p (qi g 701 d, qi g 702 d, l, qC g (d + 1), qi g 703 d), (vD n g).2) := by
    unfold vD
    rw [f1, f2, f3, f4]
  rw [f5]
  rfl
/-- the end of reading a file's records -/
theorem k_b108 {d p i : Nat} {Q : Unit → Gh → Prop} (h : CI n g) (hA : AIV n g = []) (hS : SrtF (FV n g)) (hd : (qL g (n + 10))[p]? = some d) (hk0 : qi g 702 d = 0) (hi : i ≤ (qB g (d + 1)).length) (hq : ∀ g', Cp n g g' 0 → CV n g' = rrE p (qi g 701 d) (qB g (d + 1)).length i (CV n g) → AIV n g' = [] → ((qL g' (n + 10))[p]? = some d ↔ i ≠ 0) → Q () g') : ok (X6_readRecords_b108 (n + 21) d (d + 1) (nI i)) g Q := by
  have hC := ci_C h
  have hD := ci_D h
  have hdk := di_at hD hd
  refine ok_lenB hdk.2.2.1 (fun hl60 => ?_)
  unfold X6_readRecords_b108
  refine ok_gI (cs_op hC) rfl (ok_ck hdk.2.2.1 (ok_bsize hdk.2.2.1 (sq_i904 h (fun g1 p1 e1 b1 l1 i1 => ?_))))
  have h1 := p1.2.2
  have hC1 := ci_C h1
  have hd1 : (qL g1 (n + 10))[p]? = some d := by rw [l1]; exact hd
  have hdk1 := di_at (ci_D h1) hd1
  have hd21 : d ≠ n + 21 := by have := hdk.2.2.2; omega
  refine ok_nz (fun hz => ok_ck hdk1.2.2.1 (ok_bcut hdk1.2.2.1 rfl (by omega) ?_))
  obtain ⟨p2, e2⟩ := lift_wX (l := (qB g1 (d + 1)).take i) h1 hz hd1
  rw [b1, i1 _ _ hd21, i1 _ _ hd21, i1 _ _ hd21] at e2
  rw [b1] at p2 ⊢
  have qc1 : qC g1 (d + 1) = qC g (d + 1) := by
    have a := fv_at hd1
    have b : FV n g1 = FV n g := congrArg (fun V : VC => V.1.1) e1
    rw [b, fv_at hd] at a
    exact (congrArg (fun v : AF => v.2.2.2.1) (Option.some.inj a)).symm
  rw [qc1] at e2
  generalize hg2 : wX g1 (d + 1) ((qB g (d + 1)).take i) = g2 at *
  have h2 := p2.2.2
  have hC2 := ci_C h2
  have L2 : qL g2 = qL g := by rw [← hg2]; exact l1
  have ecut : cutP p i (FV n g) = (FV n g).set p (qi g 701 d, qi g 702 d, (qB g (d + 1)).take i, qC g (d + 1), qi g 703 d) := by
    unfold cutP
    rw [fv_at hd]
    rfl
  have E2 : CV n g2 = sDd (cutP p i (FV n g), (vD n g).2) (si904 (qi g 904 (n + 21) + (nI (qB g (d + 1)).length - nI i)) (CV n g)) := by
    rw [e2, e1, ecut]
    have : FV n g1 = FV n g := congrArg (fun V : VC => V.1.1) e1
    rw [this]
    have : (vD n g1).2 = (vD n g).2 := congrArg (fun V : VC => V.1.2) e1
    rw [this]
  have hA2 : AIV n g2 = [] := by
    have a : AIV n g2 = (vD n g).2.2.1 := congrArg (fun V : VC => V.1.2.2.1) E2
    rw [a]
    exact hA
  have P2 := cp_trans0 p1 p2
  cases i with
  | succ i =>
    refine ok_itT (nI_ne0 (by omega) (by omega)) (ok_pu (hq g2 P2 E2 hA2 ⟨fun _ => by omega, fun _ => by rw [L2]; exact hd⟩))
  | zero =>
    have hd2 : (qL g2 (n + 10))[p]? = some d := by rw [L2]; exact hd
    have hdk2 := di_at (ci_D h2) hd2
    have i2 : qi g2 701 d = qi g 701 d := by rw [← hg2]; exact i1 _ _ hd21
    have k2 : qi g2 702 d = 0 := by rw [← hg2]; exact (i1 _ _ hd21).trans hk0
    refine ok_itF (fun q => q rfl) (ok_gI hdk2.1 i2 (ok_ck (cs_op hC2) (k_odis2 h2 hA2 (fun g3 p3 e3 m3 l3 => ok_pu (hq g3 (cp_trans0 P2 p3) ?_ ?_ ?_)))))
    · rw [e3, E2]
      rfl
    · have a : AIV n g3 = _ := congrArg (fun V : VC => V.1.2.2.1) e3
      rw [a, opDis_arr]
      exact hA2
    · refine ⟨fun q => ?_, fun q => absurd rfl q⟩
      exfalso
      have hS2 : SrtF (FV n g2) := by
        have a : FV n g2 = cutP p 0 (FV n g) := congrArg (fun V : VC => V.1.1) E2
        rw [a, ecut]
        exact srt_set hS (fv_at hd) rfl rfl
      have hfv := fv_at hd2
      have hpl := plF_self hS2 hfv
      have e701 : (fvw g2 d).1 = qi g 701 d := i2
      have e702 : (fvw g2 d).2.1 = 0 := k2
      rw [e701, e702] at hpl
      have hfn : fndF (qi g 701 d) 0 (FV n g2) = some (fvw g2 d) := by
        unfold fndF
        rw [hpl, hfv]
        simp only [Option.filter_some]
        rw [if_pos]
        unfold isF
        exact decide_eq_true ⟨e701, e702⟩
      rw [l3] at q
      unfold erF at q
      rw [hfn] at q
      simp only at q
      rw [hpl, List.getElem?_eraseIdx, if_neg (by omega)] at q
      have hnd := (List.nodup_append.mp (ci_D h2).2).1
      have := (List.getElem?_inj (lt_of_some hd2) hnd).mp (hd2.trans q.symm)
      omega
theorem rec_loop {d p : Nat} {l : List Int32} {num : Int32} {len : Nat} {Q : Unit → Gh → Prop} (hll : l.length = len) (hl2 : len ≤ 20000) : ∀ (w t i : Nat) (g : Gh), t < w → t ≤ 60000 → i ≤ len → len ≤ i + t → CI n g → AIV n g = [] → SrtF (FV n g) → (qL g (n + 10))[p]? = some d → qB g (d + 1) = l → qi g 701 d = num → qi g 702 d = 0 → SrtR (RV n g) → 15 * (RV n g).length + (len - i) ≤ 18000 → (∀ g', Cp n g g' 0 → CV n g' = rrE p num len (rrL l num t i (CV n g)).1 (rrL l num t i (CV n g)).2 → AIV n g' = [] → ((qL g' (n + 10))[p]? = some d ↔ (rrL l num t i (CV n g)).1 ≠ 0) → Q () g') → ok (X6_readRecords_b13 w (n + 21) d (d + 1) (nI i) (nI t)) g Q := by
  intro w
  induction w with
  | zero => intro t i g h; omega
  | succ w ih =>
    intro t i g hw ht6 hi ht h hA hSF hd hl hnm hk0 hS hb hq
    show ok (X6_readRecords_b13b (X6_readRecords_b13 w) (n + 21) d (d + 1) (nI i) (nI t)) g Q
    unfold X6_readRecords_b13b
    have hC := ci_C h
    have hdk := di_at (ci_D h) hd
    have hc := hdk.2.2.1
    have stop : rrL l num t i (CV n g) = (i, CV n g) → ok (X6_readRecords_b108 (n + 21) d (d + 1) (nI i)) g Q := by
      intro e
      rw [e] at hq
      refine k_b108 (p := p) h hA hSF hd hk0 (by rw [hl, hll]; exact hi) (fun g' p' e' a' l' => hq g' p' ?_ a' l')
      rw [e', hnm, hl, hll]
    cases t with
    | zero => exact ok_itT (by decide) (stop rfl)
    | succ t =>
      refine ok_itF (nI_ge (a := 0) (b := t + 1) (by omega) (by omega)) (k_isWhole hc (by omega) ?_)
      rw [hl]
      unfold rrL at hq stop
      cases hwh : whl l i with
      | false =>
        rw [hwh] at stop
        exact ok_itT rfl (stop rfl)
      | true =>
        rw [hwh] at hq
        dsimp only at hq
        have hw2 := hwh
        unfold whl at hw2
        simp only [Bool.and_eq_true] at hw2
        have htd := hw2.1.1.2
        have h3 := of_decide_eq_true hw2.1.2
        obtain ⟨t1, t2, t3, t4, -⟩ := told_d htd
        have er := rsz_told htd
        refine ok_nz (fun hz => ok_itF (by decide) (ok_ck hc (ok_bsh hc (ok_ck hc (ok_bnm hc (ok_or hC (ok_ck (cs_dir hC) ?_)))))))
        rw [hl]
        have hco : ¬ ownR n g (d + 1) := ownDR hC (Or.inr (Or.inr (Or.inl ⟨hdk.2.2.1, hdk.1⟩)))
        have hN : rsn (bsh l (nI i + 8)) (bnm l (nI i + 10)) = 14 + (bsh l (nI i + 8)).toNatClampNeg + (bnm l (nI i + 10)).toNatClampNeg := rfl
        refine cl_rowFor (f := i + 14) (m := (bsh l (nI i + 8)).toNatClampNeg) h hS hc hco (nI_add i 14) t4 (by rw [hl]; omega) t2 (by omega) (fun g1 r p1 e1 hr1 m1 => ?_)
        rw [hl] at e1 hr1
        have h1 := p1.2.2
        have hC1 := ci_C h1
        obtain ⟨hy1, hB1, hn1, hc1⟩ := rsm_d h hz (rsm_R m1) hdk
        rw [hl] at hB1
        rw [hnm] at hn1
        have rv1 : RV n g1 = ensR (keyA l i) (RV n g) := congrArg (fun V : VC => V.2.1) e1
        refine ok_gI hy1.1 hn1 (ok_ck hc1 (ok_bnm hc1 (ok_ck (cs_op hC1) ?_)))
        rw [hB1]
        refine k_read h1 hr1 (fun g2 p2 e2 m2 => ?_)
        have h2' := p2.2.2
        have g906 : qi g1 906 (n + 21) = qi g 906 (n + 21) := congrArg (fun V : VC => V.2.2.2.1.2.2.2.2) e1
        have E2 : CV n g2 = opRd (keyA l i) num (nI i) (bnm l (nI i + 10)) (bnm l (nI i + 4)) (CV n g) := by
          rw [e2, g906, rv1, e1]
          have hrv := rv_at hr1
          rw [rv1] at hrv
          unfold opRd
          have e9 : (CV n g).2.1 = RV n g := rfl
          rw [e9]
          have hrv2 : (ensR (keyA l i) (RV n g))[plR (keyA l i) (RV n g)]? = some (rvw g1 r) := hrv
          rw [hrv2]
          rfl
        have x903 : qi g2 903 (n + 21) = qi g 903 (n + 21) := congrArg (fun V : VC => V.2.2.2.1.2.1) E2
        refine ok_gI (cs_op (ci_C h2')) x903 (ro_cnt (j := 3) (F := si903 (qi g 903 (n + 21) + 1)) h2' (fun hz2 => cv_i903 h2' hz2) rfl (fun g3 p3 e3 m3 => ok_bpu (ok_bpu ?_)))
        have h3' := p3.2.2
        have M := rsm_tr (rsm_tr (rsm_R m1) m2) m3
        obtain ⟨hy3, hB3, hn3, hc3⟩ := rsm_d h hz M hdk
        rw [hl] at hB3
        rw [hnm] at hn3
        have L3 := rsm_L h hz M
        have ek : nI i + (14 + bsh l (nI i + 8) + imx (bnm l (nI i + 10)) 0) = nI (i + rsn (bsh l (nI i + 8)) (bnm l (nI i + 10))) := by
          have q := er
          unfold rsz at q
          rw [q, nI_add]
        rw [ek]
        have et : nI (t + 1) + -1 = nI t := by
          have := nI_subN (a := t + 1) (b := 1) (by omega)
          rw [Int32.sub_eq_add_neg, Nat.add_sub_cancel] at this
          exact this
        rw [et]
        have rv3 : RV n g3 = (opRd (keyA l i) num (nI i) (bnm l (nI i + 10)) (bnm l (nI i + 4)) (CV n g)).2.1 := by
          have a : RV n g3 = RV n g2 := congrArg (fun V : VC => V.2.1) e3
          have b : RV n g2 = _ := congrArg (fun V : VC => V.2.1) E2
          exact a.trans b
        have vd3 : vD n g3 = vD n g := by
          have a : vD n g3 = vD n g2 := congrArg (fun V : VC => V.1) e3
          have b : vD n g2 = vD n g := congrArg (fun V : VC => V.1) E2
          exact a.trans b
        have hd3 : (qL g3 (n + 10))[p]? = some d := by rw [L3]; exact hd
        have k3 : qi g3 702 d = 0 := by
          have a := fv_at hd3
          have b : FV n g3 = FV n g := congrArg (fun D : VD => D.1) vd3
          rw [b, fv_at hd] at a
          have := congrArg (fun v : AF => v.2.1) (Option.some.inj a)
          exact this.symm.trans hk0
        have ho := opRd_rows (t := keyA l i) (a := num) (b := nI i) (c := bnm l (nI i + 10)) (d := bnm l (nI i + 4)) (V := CV n g)
        have ho1 : (RV n g3).length ≤ (RV n g).length + 1 := by rw [rv3]; exact ho.1
        have E3 : CV n g3 = si903 (qi g 903 (n + 21) + 1) (opRd (keyA l i) num (nI i) (bnm l (nI i + 10)) (bnm l (nI i + 4)) (CV n g)) := by
          rw [e3, E2]
        refine ih t _ g3 (by omega) (by omega) (by omega) (by omega) h3' (by have : AIV n g3 = AIV n g := congrArg (fun D : VD => D.2.2.1) vd3; rw [this]; exact hA) (by have : FV n g3 = FV n g := congrArg (fun D : VD => D.1) vd3; rw [this]; exact hSF) hd3 hB3 hn3 k3 (by rw [rv3]; exact ho.2 hS) (by omega) (fun g4 p4 e4 a4 l4 => hq g4 (cp_trans0 (cp_trans0 (cp_trans0 p1 p2) p3) p4) ?_ a4 ?_)
        · rw [e4, E3]
          rfl
        · rw [E3] at l4
          exact l4
theorem k_readRecords {d p : Nat} {k : Unit → M α} (h : CI n g) (hA : AIV n g = []) (hSF : SrtF (FV n g)) (hd : (qL g (n + 10))[p]? = some d) (hk0 : qi g 702 d = 0) (hl : (qB g (d + 1)).length ≤ 20000) (hS : SrtR (RV n g)) (hb : 15 * (RV n g).length + (qB g (d + 1)).length ≤ 18000) (hk : ∀ g', Cp n g g' 0 → CV n g' = (rdV p (fvw g d) (CV n g)).2 → AIV n g' = [] → ((qL g' (n + 10))[p]? = some d ↔ (rdV p (fvw g d) (CV n g)).1 ≠ 0) → ok (k ()) g' Q) : ok (bd (X6_readRecords (n + 21) d) k) g Q := by
  have hdk := di_at (ci_D h) hd
  refine ok_bd ?_
  unfold X6_readRecords
  have : FU = 1000000 := rfl
  exact ok_dby hdk (ok_ck hdk.2.2.1 (ok_bsize hdk.2.2.1 (rec_loop (p := p) (l := qB g (d + 1)) (num := qi g 701 d) rfl hl FU (qB g (d + 1)).length 0 g (by omega) (by omega) (Nat.zero_le _) (by omega) h hA hSF hd rfl rfl hk0 hS (by omega) hk)))
theorem rh_arr (l : List Int32) (a : Int32) (en : Nat) : ∀ (m i : Nat) (V : VC), (rhL l a en m i V).1 = V.1
  | 0, _, _ => rfl
  | m + 1, i, V => by
    unfold rhL
    split
    · rfl
    · rw [rh_arr l a en m]
      rfl
theorem files_loop {Q : Unit → Gh → Prop} : ∀ (w t i : Nat) (g : Gh), t < w → t ≤ 60000 → i ≤ 60000 → i + t ≤ 60000 → CI n g → AIV n g = [] → rdOK t i (CV n g) → (∀ g', Cp n g g' 0 → CV n g' = rdF t i (CV n g) → AIV n g' = [] → Q () g') → ok (X6_readFiles_b10 w (n + 21) (nI i) (nI t)) g Q := by
  intro w
  induction w with
  | zero => intro t i g h; omega
  | succ w ih =>
    intro t i g hw ht hi hit h hA hO hq
    show ok (X6_readFiles_b10b (X6_readFiles_b10 w) (n + 21) (nI i) (nI t)) g Q
    unfold X6_readFiles_b10b
    have hC := ci_C h
    cases t with
    | zero => exact ok_itT (by decide) (ok_pu (hq g (cp_refl h) rfl hA))
    | succ t =>
      have et : nI (t + 1) + -1 = nI t := by
        have := nI_subN (a := t + 1) (b := 1) (by omega)
        rw [Int32.sub_eq_add_neg, Nat.add_sub_cancel] at this
        exact this
      refine ok_itF (nI_ge (a := 0) (b := t + 1) (by omega) (by omega)) (ok_od hC (ok_ck (cs_disk hC) (ok_at hC (ci_D h) ?_)))
      rw [oat_nI (by omega)]
      unfold rdF at hq
      unfold rdOK at hO
      have eF : (CV n g).1.1[i]? = ((qL g (n + 10))[i]?).map (fvw g) := by
        show (FV n g)[i]? = _
        unfold FV
        rw [List.getElem?_map]
      rw [eF] at hq hO
      cases hd : (qL g (n + 10))[i]? with
      | none =>
        rw [hd] at hq
        exact ok_pu (hq g (cp_refl h) rfl hA)
      | some d =>
        rw [hd] at hq hO
        simp only [Option.map_some] at hq hO
        have hdk := di_at (ci_D h) hd
        have ek : (fvw g d).2.1 = qi g 702 d := rfl
        rw [ek] at hq hO
        -- the test at the end
        have b106 : ∀ (g1 : Gh) (V1 : VC) (j : Nat), Cp n g g1 0 → CV n g1 = V1 → AIV n g1 = [] → ((qL g1 (n + 10))[i]? = some d ↔ j = i + 1) → (j = i ∨ j = i + 1) → rdOK t j V1 → (∀ g', Cp n g g' 0 → CV n g' = rdF t j V1 → AIV n g' = [] → Q () g') → ok (X6_readFiles_b106 (X6_readFiles_b10 w) (n + 21) (nI i) (nI (t + 1)) (some d)) g1 Q := by
          intro g1 V1 j p1 e1 a1 hj hj2 o1 q1
          have h1 := p1.2.2
          have hC1 := ci_C h1
          unfold X6_readFiles_b106 X6_readFiles_b121
          refine ok_od hC1 (ok_ck (cs_disk hC1) (ok_at hC1 (ci_D h1) ?_))
          rw [oat_nI (by omega), et]
          by_cases c : (qL g1 (n + 10))[i]? = some d
          · have ej := hj.mp c
            subst ej
            refine ok_itT c ?_
            rw [nI_1]
            exact ih t (i + 1) g1 (by omega) (by omega) (by omega) (by omega) h1 a1 (by rw [e1]; exact o1) (fun g2 p2 e2 a2 => q1 g2 (cp_trans0 p1 p2) (by rw [e2, e1]) a2)
          · have ej : j = i := by
              rcases hj2 with q | q
              · exact q
              · exact absurd (hj.mpr q) c
            subst ej
            exact ok_itF c (ih t j g1 (by omega) (by omega) (by omega) (by omega) h1 a1 (by rw [e1]; exact o1) (fun g2 p2 e2 a2 => q1 g2 (cp_trans0 p1 p2) (by rw [e2, e1]) a2))
        show ok (bd (gI 7 2 d) _) g Q
        refine ok_gI hdk.1 rfl ?_
        by_cases c0 : ¬ qi g 702 d = 0
        · rw [if_pos c0] at hq hO
          refine ok_itT c0 ?_
          show ok (X6_readFiles_b85 _ _ _ _ (some d)) g Q
          unfold X6_readFiles_b85
          show ok (bd (gI 7 2 d) _) g Q
          exact ok_gI hdk.1 rfl (ok_itT c0 (b106 g _ (i + 1) (cp_refl h) rfl hA ⟨fun _ => rfl, fun _ => hd⟩ (Or.inr rfl) hO hq))
        rw [if_neg c0] at hq hO
        have c1 : qi g 702 d = 0 := Classical.not_not.mp c0
        obtain ⟨⟨hSR, hSF, h19⟩, hO⟩ := hO
        have hSR : SrtR (RV n g) := hSR
        have hSF : SrtF (FV n g) := hSF
        have h19 : ∀ v, v ∈ FV n g → v.2.2.1.length ≤ 19000 := h19
        have hdl : (qB g (d + 1)).length ≤ 19000 := h19 _ (List.mem_of_getElem? (fv_at hd))
        have b85 : ghF (fvw g d) (FV n g) = none → ok (X6_readFiles_b85 (X6_readFiles_b10 w) (n + 21) (nI i) (nI (t + 1)) (some d)) g Q := by
          intro hn
          have hn' : ghF (fvw g d) (CV n g).1.1 = none := hn
          rw [hn'] at hq hO
          dsimp only at hq hO
          obtain ⟨hb, hO⟩ := hO
          unfold X6_readFiles_b85
          show ok (bd (gI 7 2 d) _) g Q
          refine ok_gI hdk.1 rfl (ok_itF c0 (ok_gI hdk.1 rfl (ok_ck (cs_op hC) (k_odis2 h hA (fun g1 p1 e1 m1 l1 => ?_)))))
          have h1 := p1.2.2
          have hC1 := ci_C h1
          have hd1 : (qL g1 (n + 10))[i]? = some d := by
            rw [l1]
            unfold erF
            split
            · have hlt : i < plF (qi g 701 d) 1 (FV n g) := plF_gt hSF (fv_at hd) (Or.inr ⟨rfl, by show qi g 702 d < 1; rw [c1]; decide⟩)
              rw [List.getElem?_eraseIdx_of_lt hlt]
              exact hd
            · exact hd
          have hd21 : d ≠ n + 21 := by have := hdk.2.2.2; omega
          have fw1 : fvw g1 d = fvw g d := by
            have a := fv_at hd1
            have b : FV n g1 = (opDis (qi g 701 d) 1 (CV n g)).1.1 := congrArg (fun V : VC => V.1.1) e1
            have q1 : qi g1 701 d = qi g 701 d := m1.2.2.2 _ _ hd21
            have q2 : qi g1 702 d = qi g 702 d := m1.2.2.2 _ _ hd21
            have q3 : qi g1 703 d = qi g 703 d := m1.2.2.2 _ _ hd21
            have q4 : qB g1 (d + 1) = qB g (d + 1) := by rw [m1.2.2.1]
            have q5 : qC g1 (d + 1) = qC g (d + 1) := by
              have hmem : fvw g1 d ∈ FV n g := by
                rw [b] at a
                have hm := List.mem_of_getElem? a
                unfold opDis at hm
                split at hm
                · have hm : fvw g1 d ∈ (vDis (qi g 701 d) 1 (vD n g)).1 := hm
                  unfold vDis at hm
                  split at hm
                  · exact List.mem_of_mem_eraseIdx hm
                  · exact hm
                · exact hm
              obtain ⟨e, he, hfe⟩ := List.mem_map.mp hmem
              have : e = d := id_inj hSF he (List.mem_of_getElem? hd) ((congrArg (fun v : AF => v.1) hfe).trans q1) ((congrArg (fun v : AF => v.2.1) hfe).trans q2)
              subst this
              exact (congrArg (fun v : AF => v.2.2.2.1) hfe).symm
            unfold fvw
            rw [q1, q2, q3, q4, q5]
          have hA1 : AIV n g1 = [] := by
            have a : AIV n g1 = _ := congrArg (fun V : VC => V.1.2.2.1) e1
            rw [a, opDis_arr]
            exact hA
          have hSF1 : SrtF (FV n g1) := by
            have b : FV n g1 = (opDis (qi g 701 d) 1 (CV n g)).1.1 := congrArg (fun V : VC => V.1.1) e1
            rw [b]
            unfold opDis
            split
            · show SrtF (vDis (qi g 701 d) 1 (vD n g)).1
              unfold vDis
              split
              · exact hSF.sublist (List.eraseIdx_sublist _ _)
              · exact hSF
            · exact hSF
          have rv1 : RV n g1 = RV n g := by
            have a : RV n g1 = (opDis (qi g 701 d) 1 (CV n g)).2.1 := congrArg (fun V : VC => V.2.1) e1
            rw [a]
            unfold opDis
            split <;> rfl
          have hB1 : qB g1 (d + 1) = qB g (d + 1) := by rw [m1.2.2.1]
          have hb : 15 * (RV n g).length + (qB g (d + 1)).length ≤ 18000 := hb
          refine ok_ck (cs_op hC1) (k_readRecords (p := i) h1 hA1 hSF1 hd1 ((m1.2.2.2 _ _ hd21).trans c1) (by rw [hB1]; omega) (by rw [rv1]; exact hSR) (by rw [rv1, hB1]; exact hb) (fun g2 p2 e2 a2 l2 => ?_))
          rw [fw1, e1] at e2 l2
          have e0 : opDis (qi g 701 d) 1 (CV n g) = opDis (fvw g d).1 1 (CV n g) := rfl
          rw [e0] at e2 l2
          cases hj : (rdV i (fvw g d) (opDis (fvw g d).1 1 (CV n g))).1 with
          | zero =>
            rw [hj] at hq hO l2
            exact b106 g2 _ i (cp_trans0 p1 p2) e2 a2 ⟨fun q => absurd rfl (l2.mp q), fun q => by omega⟩ (Or.inl rfl) hO hq
          | succ x =>
            rw [hj] at hq hO l2
            exact b106 g2 _ (i + 1) (cp_trans0 p1 p2) e2 a2 ⟨fun _ => rfl, fun _ => l2.mpr (by omega)⟩ (Or.inr rfl) hO hq
        refine ok_itF c0 (ok_od hC (ok_gI hdk.1 rfl (ok_ck (cs_disk hC) (ok_find hC (ci_D h) ?_))))
        unfold X6_readFiles_b51
        show ok (co (fnd n g (qi g 701 d) 1) _ _) g Q
        cases hf : fnd n g (qi g 701 d) 1 with
        | none =>
          refine b85 ?_
          unfold ghF
          rw [show fndF (fvw g d).1 1 (FV n g) = none from fnd_N hf]
          rfl
        | some y =>
          have hyk := fnd_ok (ci_D h) hf
          have hff : fndF (fvw g d).1 1 (FV n g) = some (fvw g y) := fnd_F hf
          have hyl : (qB g (y + 1)).length ≤ 19000 := h19 (fvw g y) (List.mem_of_getElem? (fv_at (fnd_some hf).1))
          show ok (bd (gR 7 0 y) _) g Q
          refine ok_dby hyk ?_
          show ok (bd (gR 7 0 d) _) g Q
          refine ok_dbs hdk (k_isGoodHint hyk.2.2.1 hyl ?_)
          cases hgh : ghi (qB g (y + 1)) (nI (qB g (d + 1)).length) with
          | false =>
            refine ok_itT rfl (b85 ?_)
            unfold ghF
            rw [hff]
            simp only [Option.filter_some]
            rw [if_neg]
            show ¬ ghi (qB g (y + 1)) (nI (qB g (d + 1)).length) = true
            rw [hgh]
            decide
          | true =>
            have hgf : ghF (fvw g d) (CV n g).1.1 = some (fvw g y) := by
              show ghF (fvw g d) (FV n g) = _
              unfold ghF
              rw [hff]
              simp only [Option.filter_some]
              exact if_pos hgh
            rw [hgf] at hq hO
            dsimp only at hq hO
            obtain ⟨hb, hO⟩ := hO
            refine ok_nz (fun hz => ok_itF (by decide) (ok_ck (cs_op hC) (k_readHint h hyk hyl hSR hb hgh (fun g1 p1 e1 m1 => ?_))))
            refine b106 g1 _ (i + 1) p1 e1 ?_ ⟨fun _ => rfl, fun _ => by rw [rsm_L h hz m1]; exact hd⟩ (Or.inr rfl) hO hq
            have a : AIV n g1 = _ := congrArg (fun V : VC => V.1.2.2.1) e1
            rw [a, rh_arr]
            exact hA
theorem k_readFiles {k : Unit → M α} (h : CI n g) (hA : AIV n g = []) (hO : rdOK (FV n g).length 0 (CV n g)) (hk : ∀ g', Cp n g g' 0 → CV n g' = rdF (FV n g).length 0 (CV n g) → AIV n g' = [] → ok (k ()) g' Q) : ok (bd (X6_readFiles (n + 21)) k) g Q := by
  have hC := ci_C h
  have h9 := h.2.2
  have hfl := fv_len (n := n) (g := g)
  refine ok_bd ?_
  unfold X6_readFiles
  refine ok_od hC (ok_ck (cs_disk hC) (ok_count hC ?_))
  have : FU = 1000000 := rfl
  exact files_loop FU (FV n g).length 0 g (by omega) (by omega) (by omega) (by omega) h hA hO hk
/-! the whole of an opening -/
def oA (V : VC) : VC := sDd (V.1.1, V.1.2.1, V.1.2.2.1, V.1.2.2.2.1, V.1.2.2.2.2.1, nxN V.1.1) (sOclr (sForget V))
def oB (V : VC) : VC := obM (oA V).1.1.length (oA V)
def oC (V : VC) : VC := dlH (oB V).1.1.length (oB V)
def oD (V : VC) : VC := rdF (oC V).1.1.length 0 (oC V)
def oE (V : VC) : VC := sRr ((oD V).2.1.filter (fun r => decide (r.2.2.2.1 ≠ -1))) (oD V)
def oF (V : VC) : VC := si1108 1 (si1110 ((oE V).2.2.2.1.2.2.2.2 + 1) (oE V))
def sOpen (V : VC) : (Nat ⊕ Int32) × VC × Nat := if V.2.2.2.2.1.1 = 0 then (.inr (nI (oF V).2.1.length), oF V, 0) else (.inl 1, V, 0)
theorem c_open {Q : Nat ⊕ Int32 → Gh → Prop} (h : CI n g) (hZ : qi g 1108 n = 0 → sForget (CV n g) = CV n g) (hA : qi g 1108 n = 0 → AIV n g = []) (hO : qi g 1108 n = 0 → rdOK (oC (CV n g)).1.1.length 0 (oC (CV n g))) (hk : ∀ g1, Cp n g g1 (sOpen (CV n g)).2.2 → CV n g1 = (sOpen (CV n g)).2.1 → Q (sOpen (CV n g)).1 (fin (sOpen (CV n g)).1 g1)) : ok (X8_open n) g Q := by
  have hC := ci_C h
  unfold X8_open
  have eS : sOpen (CV n g) = if qi g 1108 n = 0 then (.inr (nI (oF (CV n g)).2.1.length), oF (CV n g), 0) else (.inl 1, CV n g, 0) := rfl
  rw [eS] at hk
  refine ok_gI (cs_x hC) rfl ?_
  by_cases c0 : qi g 1108 n = 0
  · rw [if_pos c0] at hk
    have hA := hA c0
    have hO := hO c0
    have hZ := hZ c0
    refine ok_itT c0 (ok_xo hC (ok_ck (cs_op hC) (k_oclr h (fun g2 p2 e2 => ?_))))
    have hC2 := ci_C p2.2.2
    refine ok_xd hC2 (ok_ck (cs_disk hC2) (cl_countNumbers p2.2.2 (fun g3 p3 e3 => ?_)))
    have hC3 := ci_C p3.2.2
    have E3 : CV n g3 = oA (CV n g) := by
      have E2 : CV n g2 = sOclr (sForget (CV n g)) := by rw [e2, hZ]
      have f2 : FV n g2 = FV n g := congrArg (fun V : VC => V.1.1) E2
      have s2 : SV n g2 = SV n g := congrArg (fun V : VC => V.1.2.1) E2
      have a2 : AIV n g2 = AIV n g := congrArg (fun V : VC => V.1.2.2.1) E2
      have d2 : DSC n g2 = DSC n g := congrArg (fun V : VC => V.1.2.2.2) E2
      rw [e3, E2, f2, s2, a2, d2]
      rfl
    have A3 : AIV n g3 = [] := by
      have a : AIV n g3 = AIV n g := congrArg (fun V : VC => V.1.2.2.1) E3
      rw [a]
      exact hA
    have F3 : FV n g3 = (oA (CV n g)).1.1 := congrArg (fun V : VC => V.1.1) E3
    refine ok_xo hC3 (ok_ck (cs_op hC3) (k_marks p3.2.2 A3 (fun g4 p4 e4 A4 => ?_)))
    rw [E3, F3] at e4
    have E4 : CV n g4 = oB (CV n g) := e4
    have hC4 := ci_C p4.2.2
    have F4 : FV n g4 = (oB (CV n g)).1.1 := congrArg (fun V : VC => V.1.1) E4
    refine ok_xo hC4 (ok_ck (cs_op hC4) (k_lone p4.2.2 A4 (fun g5 p5 e5 A5 => ?_)))
    rw [E4, F4] at e5
    have E5 : CV n g5 = oC (CV n g) := e5
    have hC5 := ci_C p5.2.2
    have F5 : FV n g5 = (oC (CV n g)).1.1 := congrArg (fun V : VC => V.1.1) E5
    refine ok_xo hC5 (ok_ck (cs_op hC5) (k_readFiles p5.2.2 A5 (by rw [E5, F5]; exact hO) (fun g6 p6 e6 A6 => ?_)))
    rw [E5, F5] at e6
    have E6 : CV n g6 = oD (CV n g) := e6
    have hC6 := ci_C p6.2.2
    refine ok_xr hC6 (ok_ck (cs_dir hC6) (cl_dropRemovals p6.2.2 (fun g7 p7 e7 => ?_)))
    have E7 : CV n g7 = oE (CV n g) := by
      rw [e7]
      have r6 : RV n g6 = (oD (CV n g)).2.1 := congrArg (fun V : VC => V.2.1) E6
      have v6 : vD n g6 = (oD (CV n g)).1 := congrArg (fun V : VC => V.1) E6
      rw [r6, v6, E6]
      rfl
    have hC7 := ci_C p7.2.2
    have g7s : qi g7 906 (n + 21) = (oE (CV n g)).2.2.2.1.2.2.2.2 := congrArg (fun V : VC => V.2.2.2.1.2.2.2.2) E7
    refine ok_xo hC7 (ok_gI (cs_op hC7) g7s (st_i1110 p7.2.2 (fun g8 p8 e8 _ _ => st_z1108 p8.2.2 (Or.inr rfl) (fun g9 p9 e9 _ _ => ?_))))
    have E9 : CV n g9 = oF (CV n g) := by
      rw [e9, e8, E7]
      rfl
    have hC9 := ci_C p9.2.2
    refine ok_xr hC9 (ok_ck (cs_dir hC9) (ok_rcount hC9 (ok_pu ?_)))
    have r9 : RV n g9 = (oF (CV n g)).2.1 := congrArg (fun V : VC => V.2.1) E9
    rw [r9]
    exact hk g9 (cp_trans0 (cp_trans0 (cp_trans0 (cp_trans0 (cp_trans0 (cp_trans0 (cp_trans0 p2 p3) p4) p5) p6) p7) p8) p9) E9
  · rw [if_neg c0] at hk
    exact ok_itF c0 (ok_th (hk g (cp_refl h) rfl))
end
