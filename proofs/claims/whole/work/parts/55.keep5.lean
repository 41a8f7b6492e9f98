/-! removing, getting, feeding, patching -/
def lokR (t : List Int32) (rs : List AR) : Option AR := (rs[plR t rs]?).filter (isR t)
def sGet (V : VC) : (Nat ⊕ Int32) × VC × Nat :=
  let V1 := sB1 [] (sB3 V.2.2.2.2.1.2.2.2.1 V)
  if V.2.2.2.2.1.1 = 0 then (.inl 1, V1, 0)
  else match lokR V.2.2.2.2.1.2.2.2.1 V.2.1 with
    | none => (.inr (-1), sB5 [] V1, 0)
    | some r => match fndF r.2.1 0 V.1.1 with
      | none => (.inr (-2), sB5 [] V1, 0)
      | some f => match badR r f.2.2.1 with
        | true => (.inr (-2), sB5 [] V1, 0)
        | false => (.inr r.2.2.2.1, sB5 ((f.2.2.1.drop (r.2.2.1.toNatClampNeg + 14 + r.1.length)).take r.2.2.2.1.toNatClampNeg) V1, 0)
def fdb (a b : Int64) (i : Nat) : Int32 := b8 ((lush (if 8 ≤ i then b else a) (8 * (nI i &&& 7))).toInt32)
def sFeed (m : Int32) (a b : Int64) (V : VC) : (Nat ⊕ Int32) × VC × Nat :=
  if m < 1 ∨ 16 < m then (.inl 0, V, 0)
  else if 80 < nI V.2.2.2.2.1.2.2.2.1.length + m then (.inl 2, V, 0)
  else (.inr (nI (V.2.2.2.2.1.2.2.2.1.length + m.toNatClampNeg)), sB1 (V.2.2.2.2.1.2.2.2.1 ++ (List.range m.toNatClampNeg).map (fdb a b)) V, 0)
def patF (p i : Nat) (v : Int32) (fs : List AF) : List AF := match fs[p]? with
  | some f => fs.set p (f.1, f.2.1, f.2.2.1.set i (b8 v), f.2.2.2.1, f.2.2.2.2)
  | none => fs
def sPatch (f i v : Int32) (V : VC) : (Nat ⊕ Int32) × VC × Nat :=
  if ¬ V.2.2.2.2.1.1 = 0 then (.inl 1, V, 0)
  else match oat V.1.1 f with
    | none => (.inl 3, V, 0)
    | some x => if i < 0 ∨ nI x.2.2.1.length ≤ i then (.inl 3, V, 0) else (.inr (bat x.2.2.1 i), sDd (patF f.toNatClampNeg i.toNatClampNeg v V.1.1, V.1.2) V, 0)
section
variable {n : Nat} {g g' : Gh} {α : Type}
theorem idx_none {t : List Int32} {rs : List AR} (h : lokR t rs = none) (hl : rs.length < 2 ^ 30) : idxR t rs = -1 - nI (plR t rs) ∧ idxR t rs < 0 := by
  have hp := plR_le t rs
  have e : idxR t rs = -1 - nI (plR t rs) := by
    unfold idxR
    unfold lokR at h
    rw [h]
  refine ⟨e, ?_⟩
  rw [e]
  have e2 : (-1 : Int32) - nI (plR t rs) = nI 0 - nI (plR t rs + 1) := by
    rw [← nI_1]
    show -1 - nI (plR t rs) = 0 - (nI (plR t rs) + 1)
    grind
  rw [e2, Int32.lt_iff_toInt_lt, nI_subI (by omega) (by omega), Int32.toInt_zero]
  omega
theorem idx_some {t : List Int32} {rs : List AR} {r : AR} (h : lokR t rs = some r) (hl : rs.length < 2 ^ 30) : idxR t rs = nI (plR t rs) ∧ rs[plR t rs]? = some r ∧ csg r.1 t = 0 := by
  obtain ⟨h1, h2⟩ := Option.filter_eq_some_iff.mp h
  refine ⟨?_, h1, of_decide_eq_true h2⟩
  unfold idxR
  unfold lokR at h
  rw [h]
theorem wr_taken (ks vs : Int32) (V : VC) : (wrV ks vs V).2.1.2.2.2.2.2.1 = V.2.2.2.2.2.1 := by
  unfold wrV
  simp only
  cases isNew V _ <;> rfl
theorem wr_rows (ks vs : Int32) (V : VC) : (wrV ks vs V).2.1.2.1 = V.2.1 := by
  unfold wrV
  simp only
  cases isNew V _ <;> rfl
theorem c_remove {Q : Nat ⊕ Int32 → Gh → Prop} (h : CI n g) (hG : GI (CV n g)) (hk : ∀ g1, Cp n g g1 (sRem (CV n g)).2.2 → CV n g1 = (sRem (CV n g)).2.1 → Q (sRem (CV n g)).1 (fin (sRem (CV n g)).1 g1)) : ok (X8_remove n) g Q := by
  obtain ⟨⟨hS, h6, hF, hV⟩, ⟨hSR, hRl, hRr⟩, hT⟩ := hG
  have hT : (qB g (n + 1)).length ≤ 80 := hT
  have hRl : (RV n g).length ≤ 1200 := hRl
  unfold X8_remove X8_remove_b40
  refine ok_ck (cs_x (ci_C h)) (k_takeTape h hT (fun g1 p1 e1 => ?_))
  have h1 := p1.2.2
  have hC1 := ci_C h1
  have io : qi g1 1108 n = qi g 1108 n := congrArg (fun V : VC => V.2.2.2.2.1.1) e1
  have tk : qB g1 (n + 3) = qB g (n + 1) := congrArg (fun V : VC => V.2.2.2.2.2.1) e1
  have fv : FV n g1 = FV n g := congrArg (fun V : VC => V.1.1) e1
  have ai : AIV n g1 = AIV n g := congrArg (fun V : VC => V.1.2.2.1) e1
  have rv : RV n g1 = RV n g := congrArg (fun V : VC => V.2.1) e1
  have eS : sRem (CV n g) = (if qi g 1108 n = 0 then (.inl 1, CV n g1, 0)
    else if (qB g (n + 1)).length < 1 ∨ 16 < (qB g (n + 1)).length then (.inl 0, CV n g1, 0)
    else match lokR (qB g (n + 1)) (RV n g) with
    | none => (.inr 0, CV n g1, 0)
    | some _ => match fullV (CV n g1) (rsz (nI (qB g (n + 1)).length) (-1)) with
      | true => (.inl 2, CV n g1, 0)
      | false => (.inr 1, sRr ((RV n g).eraseIdx (plR (qB g (n + 1)) (RV n g))) (wrV (nI (qB g (n + 1)).length) (-1) (CV n g1)).2.1, (wrV (nI (qB g (n + 1)).length) (-1) (CV n g1)).2.2)) := by
    rw [e1]
    rfl
  rw [eS] at hk
  refine ok_gI (cs_x hC1) io ?_
  by_cases c0 : qi g 1108 n = 0
  · rw [if_pos c0] at hk
    exact ok_itF (fun q => q c0) (ok_th (hk g1 p1 rfl))
  rw [if_neg c0] at hk
  refine ok_itT c0 (ok_xtaken hC1 (ok_ck (cs_taken hC1) (ok_bsize (cs_taken hC1) ?_)))
  rw [tk]
  by_cases c1 : (qB g (n + 1)).length < 1
  · rw [if_pos (Or.inl c1)] at hk
    exact ok_itT (nI_lt (b := 1) c1 (by omega)) (ok_th (hk g1 p1 rfl))
  refine ok_itF (nI_nlt (b := 1) (by omega) (by omega)) ?_
  by_cases c2 : 16 < (qB g (n + 1)).length
  · rw [if_pos (Or.inr c2)] at hk
    exact ok_itF (nI_ge (a := 16) c2 (by omega)) (ok_th (hk g1 p1 rfl))
  rw [if_neg (by omega)] at hk
  refine ok_itT (nI_le (b := 16) (by omega) (by omega)) (ok_xr hC1 (ok_xtaken hC1 (ok_ck (cs_dir hC1) (ok_indexOf (f := 0) (m := (qB g (n + 1)).length) hC1 (ci_R h1) (by rw [rv]; exact hSR) (cs_taken hC1) rfl rfl (by rw [tk]; omega) ?_))))
  rw [tk, List.drop_zero, List.take_length, rv]
  cases hlk : lokR (qB g (n + 1)) (RV n g) with
  | none =>
    rw [hlk] at hk
    obtain ⟨i1, i2⟩ := idx_none hlk (by omega)
    exact ok_itF (Int32.not_le.mpr i2) (ok_pu (hk g1 p1 rfl))
  | some r =>
    rw [hlk] at hk
    obtain ⟨i1, i2, i3⟩ := idx_some hlk (by omega)
    have hpl := lt_of_some i2
    rw [i1]
    refine ok_itT (nI_pos' (by omega)) (ok_bpu (ok_ck (cs_x hC1) (k_isFull h1 ?_)))
    show ok (it (bI (fullV (CV n g1) (rsz (nI (qB g (n + 1)).length) (-1))) = 0) _ _) g1 Q
    cases hful : fullV (CV n g1) (rsz (nI (qB g (n + 1)).length) (-1)) with
    | true =>
      rw [hful] at hk
      exact ok_itF (by decide) (ok_th (hk g1 p1 rfl))
    | false =>
      rw [hful] at hk
      refine ok_itT rfl (ok_ck (cs_x hC1) (k_write h1 (by rw [fv]; exact hS) (by rw [tk]; exact hT) (by rw [fv]; exact h6) (by rw [fv]; exact hF) (by rw [ai]; exact hV) (fun g2 p2 e2 => ?_)))
      have h2 := p2.2.2
      have hC2 := ci_C h2
      have rv2 : RV n g2 = RV n g := by
        have a : RV n g2 = _ := congrArg (fun V : VC => V.2.1) e2
        rw [a]
        exact (wr_rows _ _ _).trans rv
      refine ok_xr hC2 (ok_ck (cs_dir hC2) (cl_drop h2 rfl (by rw [rv2]; exact hpl) (fun g3 p3 e3 => ok_pu (hk g3 ?_ ?_))))
      · have := cp_trans (cp_trans p1 p2) p3
        rw [Nat.zero_add] at this
        exact this
      · rw [e3, rv2]
        have a : vD n g2 = _ := congrArg (fun V : VC => V.1) e2
        have b : (CV n g2).2.2 = (wrV (nI (qB g (n + 1)).length) (-1) (CV n g1)).2.1.2.2 := by rw [e2]
        rw [a, b]
        rfl
theorem oat_neg {α : Type} {l : List α} {i : Int32} (h : i < 0) : oat l i = none := if_pos h
theorem c_get {Q : Nat ⊕ Int32 → Gh → Prop} (h : CI n g) (hG : GI (CV n g)) (hvs : ∀ r, r ∈ RV n g → ¬ r.2.2.2.1 < 0) (hk : ∀ g1, Cp n g g1 (sGet (CV n g)).2.2 → CV n g1 = (sGet (CV n g)).2.1 → Q (sGet (CV n g)).1 (fin (sGet (CV n g)).1 g1)) : ok (X8_get n) g Q := by
  obtain ⟨⟨hS, h6, hF, hV⟩, ⟨hSR, hRl, hRr⟩, hT⟩ := hG
  have hT : (qB g (n + 1)).length ≤ 80 := hT
  have hRl : (RV n g).length ≤ 1200 := hRl
  unfold X8_get
  refine ok_ck (cs_x (ci_C h)) (k_takeTape h hT (fun g1 p1 e1 => ?_))
  have h1 := p1.2.2
  have hC1 := ci_C h1
  have io : qi g1 1108 n = qi g 1108 n := congrArg (fun V : VC => V.2.2.2.2.1.1) e1
  have eS : sGet (CV n g) = (if qi g 1108 n = 0 then (.inl 1, CV n g1, 0)
    else match lokR (qB g (n + 1)) (RV n g) with
    | none => (.inr (-1), sB5 [] (CV n g1), 0)
    | some r => match fndF r.2.1 0 (FV n g) with
      | none => (.inr (-2), sB5 [] (CV n g1), 0)
      | some f => match badR r f.2.2.1 with
        | true => (.inr (-2), sB5 [] (CV n g1), 0)
        | false => (.inr r.2.2.2.1, sB5 ((f.2.2.1.drop (r.2.2.1.toNatClampNeg + 14 + r.1.length)).take r.2.2.2.1.toNatClampNeg) (CV n g1), 0)) := by
    rw [e1]
    rfl
  rw [eS] at hk
  refine ok_gI (cs_x hC1) io ?_
  by_cases c0 : qi g 1108 n = 0
  · rw [if_pos c0] at hk
    exact ok_itF (fun q => q c0) (ok_th (hk g1 p1 rfl))
  rw [if_neg c0] at hk
  refine ok_itT c0 (ok_xfound hC1 (ok_ck (cs_found hC1) (st_clr5 h1 (fun g2 p2 e2 b2 => ?_))))
  have h2 := p2.2.2
  have hC2 := ci_C h2
  have P2 := cp_trans0 p1 p2
  have tk : qB g2 (n + 3) = qB g (n + 1) := by
    rw [b2 _ (by omega)]
    exact congrArg (fun V : VC => V.2.2.2.2.2.1) e1
  have rv : RV n g2 = RV n g := (congrArg (fun V : VC => V.2.1) e2).trans (congrArg (fun V : VC => V.2.1) e1)
  have fv : FV n g2 = FV n g := (congrArg (fun V : VC => V.1.1) e2).trans (congrArg (fun V : VC => V.1.1) e1)
  have hrl2 := rv_len (n := n) (g := g2)
  refine ok_xr hC2 (ok_xr hC2 (ok_xtaken hC2 (ok_xtaken hC2 (ok_ck (cs_taken hC2) (ok_bsize (cs_taken hC2) (ok_ck (cs_dir hC2) (ok_indexOf (f := 0) (m := (qB g2 (n + 3)).length) hC2 (ci_R h2) (by rw [rv]; exact hSR) (cs_taken hC2) rfl rfl (by omega) (ok_ck (cs_dir hC2) (ok_row hC2 (ci_R h2) ?_)))))))))
  rw [List.drop_zero, List.take_length, tk, rv]
  cases hlk : lokR (qB g (n + 1)) (RV n g) with
  | none =>
    rw [hlk] at hk
    obtain ⟨i1, i2⟩ := idx_none hlk (by omega)
    rw [oat_neg i2]
    exact ok_pu (hk g2 P2 e2)
  | some r =>
    rw [hlk] at hk
    dsimp only at hk
    obtain ⟨i1, i2, i3⟩ := idx_some hlk (by omega)
    have hpl := lt_of_some i2
    rw [i1, oat_nI (by omega)]
    obtain ⟨d, hd⟩ := some_of_lt (show plR (qB g (n + 1)) (RV n g) < (qL g2 (n + 14)).length by rw [← hrl2, rv]; exact hpl)
    have hrv := rv_at hd
    rw [rv, i2] at hrv
    have er : r = rvw g2 d := Option.some.inj hrv
    have hrm : r ∈ RV n g := List.mem_of_getElem? i2
    obtain ⟨r1, r2, r3, r4⟩ := hRr r hrm
    have hdk := ri_at (ci_R h2) hd
    rw [hd]
    show ok (bd (gR 11 4 n) _) g2 Q
    refine ok_xd hC2 (ok_gI hdk.1 rfl (ok_ck (cs_disk hC2) (ok_find hC2 (ci_D h2) ?_)))
    have en : qi g2 1001 d = r.2.1 := by rw [er]; rfl
    show ok (co (fnd n g2 (qi g2 1001 d) 0) _ _) g2 Q
    rw [en]
    cases hfd : fnd n g2 r.2.1 0 with
    | none =>
      have := fnd_N hfd
      rw [fv] at this
      rw [this] at hk
      dsimp only at hk
      exact ok_pu (hk g2 P2 e2)
    | some fd =>
      have hff := fnd_F hfd
      rw [fv] at hff
      rw [hff] at hk
      dsimp only at hk
      have hfk := fnd_ok (ci_D h2) hfd
      refine ok_dby hfk (k_isBad hdk hfk.2.2.1 (by have : ¬ r.2.2.1 < 0 := r2; rw [er] at this; exact this) (by have : r.2.2.1.toNatClampNeg ≤ 20000 := r3; rw [er] at this; exact Nat.le_trans this (by decide)) (by have : r.2.2.2.1.toNatClampNeg ≤ 64 := r4; rw [er] at this; exact this) ?_)
      rw [← er]
      show ok (it (bI (badR r (fvw g2 fd).2.2.1) = 0) _ _) g2 Q
      have hb0 : badR r (fvw g2 fd).2.2.1 = badR r (fvw g2 fd).2.2.1 := rfl
      cases hbad : badR r (fvw g2 fd).2.2.1 with
      | true =>
        have hk2 := hk
        simp only [hbad] at hk2
        exact ok_itF (by decide) (ok_pu (hk2 g2 P2 e2))
      | false =>
        have hk2 := hk
        simp only [hbad] at hk2
        have hvs2 := hvs r hrm
        have evs : qi g2 1003 d = nI r.2.2.2.1.toNatClampNeg := by
          have : qi g2 1003 d = r.2.2.2.1 := by rw [er]; rfl
          rw [this]
          exact nI_cl hvs2
        have epl : qi g2 1002 d = nI r.2.2.1.toNatClampNeg := by
          have : qi g2 1002 d = r.2.2.1 := by rw [er]; rfl
          rw [this]
          exact nI_cl r2
        have ekl : (qB g2 (d + 1)).length = r.1.length := by rw [er]; rfl
        have hlen : r.2.2.1.toNatClampNeg + rcn r ≤ (qB g2 (fd + 1)).length := by
          unfold badR at hbad
          simp only [Bool.or_eq_false_iff] at hbad
          have := of_decide_eq_false hbad.1.1.1.1.1
          have e9 : (fvw g2 fd).2.2.1 = qB g2 (fd + 1) := rfl
          rw [e9] at this
          omega
        unfold rcn at hlen
        have f5 : qB g2 (n + 5) = [] := congrArg (fun V : VC => V.2.2.2.2.1.2.2.2.2) e2
        have hne : fd + 1 ≠ n + 5 := by have := hfk.2.2.2; omega
        refine ok_itT rfl (ok_xfound hC2 (ok_dby hfk (ok_gI hdk.1 epl (ok_rbs hdk (ok_gI hdk.1 evs (ok_ck (cs_found hC2) (st_part5 (f := r.2.2.1.toNatClampNeg + 14 + r.1.length) (m := r.2.2.2.1.toNatClampNeg) h2 hfk.2.2.1 hne ?_ rfl (by omega) (by rw [f5]; simp; omega) (fun g3 p3 e3 b3 => ?_))))))))
        · rw [ekl, show (14 : Int32) = nI 14 from rfl, nI_add, nI_add]
        · have f5b : qB g3 (n + 5) = ((qB g2 (fd + 1)).drop (r.2.2.1.toNatClampNeg + 14 + r.1.length)).take r.2.2.2.1.toNatClampNeg := by
            have a : qB g3 (n + 5) = _ := congrArg (fun V : VC => V.2.2.2.2.1.2.2.2.2) e3
            rw [a, f5]
            rfl
          refine ok_xfound (ci_C p3.2.2) (ok_ck (cs_found (ci_C p3.2.2)) (ok_bsize (cs_found (ci_C p3.2.2)) (ok_pu ?_)))
          have hl5 : (qB g3 (n + 5)).length = r.2.2.2.1.toNatClampNeg := by
            rw [f5b, List.length_take, List.length_drop]
            omega
          rw [hl5, ← nI_cl hvs2]
          refine hk2 g3 (cp_trans0 P2 p3) ?_
          rw [e3, e2, f5]
          rfl
theorem feed_loop {m : Nat} {a b : Int64} {tp : List Int32} {V0 : VC} {Q : Nat ⊕ Int32 → Gh → Prop} (hm : m ≤ 16) (ht : tp.length + m ≤ 80) : ∀ (w i : Nat) (g : Gh), m - i < w → i ≤ m → CI n g → CV n g = sB1 (tp ++ (List.range i).map (fdb a b)) V0 → (∀ g1, Cp n g g1 0 → CV n g1 = sB1 (tp ++ (List.range m).map (fdb a b)) V0 → Q (.inr (nI (tp.length + m))) g1) → ok (X8_feed_b48 w n (nI m) a b (nI i)) g Q := by
  intro w
  induction w with
  | zero => intro i g h; omega
  | succ w ih =>
    intro i g hw hi h e hq
    show ok (X8_feed_b48b (X8_feed_b48 w) n (nI m) a b (nI i)) g Q
    unfold X8_feed_b48b X8_feed_b67
    have hC := ci_C h
    have ht1 : qB g (n + 1) = tp ++ (List.range i).map (fdb a b) := congrArg (fun V : VC => V.2.2.2.2.1.2.2.2.1) e
    have hl1 : (qB g (n + 1)).length = tp.length + i := by
      rw [ht1]
      simp
    by_cases c : i < m
    · refine ok_itF (nI_ge c (by omega)) ?_
      have go : ∀ s : Int64, s = (if 8 ≤ i then b else a) → ok (bd (gR 11 0 n) (fun y1 => bd (ck 4 y1) (fun _ => bd (X1_add y1 (lush s (8 * (nI i &&& 7))).toInt32) (fun _ => X8_feed_b48 w n (nI m) a b (nI i + 1))))) g Q := by
        intro s hs
        refine ok_xtape hC (ok_ck (cs_tape hC) (st_add1 h (by omega) (fun g1 p1 e1 b1 => ?_)))
        rw [nI_1]
        refine ih (i + 1) g1 (by omega) (by omega) p1.2.2 ?_ (fun g2 p2 e2 => hq g2 (cp_trans0 p1 p2) e2)
        rw [e1, e, ht1, hs, List.range_succ, List.map_append, List.map_cons, List.map_nil, List.append_assoc]
        rfl
      by_cases c8 : 8 ≤ i
      · exact ok_itT (nI_le (a := 8) c8 (by omega)) (go b (by rw [if_pos c8]))
      · exact ok_itF (nI_ge (b := 8) (by omega) (by omega)) (go a (by rw [if_neg c8]))
    · have ei : i = m := by omega
      subst ei
      refine ok_itT (nI_le (Nat.le_refl _) (by omega)) (ok_xtape hC (ok_ck (cs_tape hC) (ok_bsize (cs_tape hC) (ok_pu ?_))))
      rw [hl1]
      exact hq g (cp_refl h) e
theorem c_feed {m : Int32} {a b : Int64} {Q : Nat ⊕ Int32 → Gh → Prop} (h : CI n g) (hT : (qB g (n + 1)).length ≤ 80) (hk : ∀ g1, Cp n g g1 (sFeed m a b (CV n g)).2.2 → CV n g1 = (sFeed m a b (CV n g)).2.1 → Q (sFeed m a b (CV n g)).1 (fin (sFeed m a b (CV n g)).1 g1)) : ok (X8_feed n m a b) g Q := by
  unfold X8_feed X8_feed_b11
  have hC := ci_C h
  have eS : sFeed m a b (CV n g) = (if m < 1 ∨ 16 < m then (.inl 0, CV n g, 0) else if 80 < nI (qB g (n + 1)).length + m then (.inl 2, CV n g, 0) else (.inr (nI ((qB g (n + 1)).length + m.toNatClampNeg)), sB1 (qB g (n + 1) ++ (List.range m.toNatClampNeg).map (fdb a b)) (CV n g), 0)) := rfl
  rw [eS] at hk
  by_cases c1 : m < 1
  · rw [if_pos (Or.inl c1)] at hk
    exact ok_itT c1 (ok_th (hk g (cp_refl h) rfl))
  refine ok_itF c1 ?_
  by_cases c2 : 16 < m
  · rw [if_pos (Or.inr c2)] at hk
    exact ok_itF (Int32.not_le.mpr c2) (ok_th (hk g (cp_refl h) rfl))
  rw [if_neg (by rintro (q | q); exact c1 q; exact c2 q)] at hk
  refine ok_itT (Int32.not_lt.mp c2) (ok_xtape hC (ok_ck (cs_tape hC) (ok_bsize (cs_tape hC) ?_)))
  by_cases c3 : 80 < nI (qB g (n + 1)).length + m
  · rw [if_pos c3] at hk
    exact ok_itF (Int32.not_le.mpr c3) (ok_th (hk g (cp_refl h) rfl))
  rw [if_neg c3] at hk
  refine ok_itT (Int32.not_lt.mp c3) ?_
  have em : m = nI m.toNatClampNeg := nI_cl (by simp only [Int32.lt_iff_toInt_lt, li1, Int32.toInt_zero] at *; omega)
  have hm16 : m.toNatClampNeg ≤ 16 := by
    have a : m.toNatClampNeg = m.toInt.toNat := rfl
    simp only [Int32.lt_iff_toInt_lt, li16] at c2
    omega
  have hsum : (qB g (n + 1)).length + m.toNatClampNeg ≤ 80 := by
    rw [em, nI_add, Int32.lt_iff_toInt_lt, nI_toInt (by omega), li80] at c3
    omega
  have : FU = 1000000 := rfl
  generalize hmn : m.toNatClampNeg = m' at *
  rw [em]
  refine feed_loop (tp := qB g (n + 1)) (V0 := CV n g) hm16 hsum FU 0 g (by omega) (Nat.zero_le _) h ?_ (fun g1 p1 e1 => hk g1 p1 e1)
  simp only [List.range_zero, List.map_nil, List.append_nil]
  rfl
theorem c_patch {f i v : Int32} {Q : Nat ⊕ Int32 → Gh → Prop} (h : CI n g) (hk : ∀ g1, Cp n g g1 (sPatch f i v (CV n g)).2.2 → CV n g1 = (sPatch f i v (CV n g)).2.1 → Q (sPatch f i v (CV n g)).1 (fin (sPatch f i v (CV n g)).1 g1)) : ok (X8_patch n f i v) g Q := by
  refine ok_nz (fun hz => ?_)
  unfold X8_patch X8_patch_b48
  have hC := ci_C h
  have hD := ci_D h
  have hA := ci_A h
  have eS : sPatch f i v (CV n g) = (if ¬ qi g 1108 n = 0 then (.inl 1, CV n g, 0) else match oat (FV n g) f with
    | none => (.inl 3, CV n g, 0)
    | some x => if i < 0 ∨ nI x.2.2.1.length ≤ i then (.inl 3, CV n g, 0) else (.inr (bat x.2.2.1 i), sDd (patF f.toNatClampNeg i.toNatClampNeg v (FV n g), (vD n g).2) (CV n g), 0)) := rfl
  rw [eS] at hk
  refine ok_gI (cs_x hC) rfl ?_
  by_cases c0 : qi g 1108 n = 0
  · rw [if_neg (fun q => q c0)] at hk
    refine ok_len hC (fun hl60 => ok_itT c0 (ok_xd hC (ok_ck (cs_disk hC) (ok_at hC hD ?_))))
    have eo : oat (FV n g) f = (oat (qL g (n + 10)) f).map (fvw g) := by
      unfold oat FV
      split
      · rfl
      · rw [List.getElem?_map]
    rw [eo] at hk
    cases ho : oat (qL g (n + 10)) f with
    | none =>
      rw [ho] at hk
      exact ok_th (hk g (cp_refl h) rfl)
    | some d =>
      rw [ho] at hk
      simp only [Option.map_some] at hk
      have hf0 : ¬ f < 0 := by
        intro q
        rw [oat_neg q] at ho
        cases ho
      have hd : (qL g (n + 10))[f.toNatClampNeg]? = some d := by
        unfold oat at ho
        rw [if_neg hf0] at ho
        exact ho
      have hdk := di_at hD hd
      have e1 : (fvw g d).2.2.1 = qB g (d + 1) := rfl
      rw [e1] at hk
      show ok (it (i < 0) _ _) g Q
      by_cases c1 : i < 0
      · rw [if_pos (Or.inl c1)] at hk
        exact ok_itT c1 (ok_th (hk g (cp_refl h) rfl))
      refine ok_lenB hdk.2.2.1 (fun hbl => ok_itF c1 (ok_dbs hdk ?_))
      by_cases c2 : nI (qB g (d + 1)).length ≤ i
      · rw [if_pos (Or.inr c2)] at hk
        exact ok_itF (Int32.not_lt.mpr c2) (ok_th (hk g (cp_refl h) rfl))
      rw [if_neg (by rintro (q | q); exact c1 q; exact c2 q)] at hk
      have ei := nI_cl c1
      have hil : i.toNatClampNeg < (qB g (d + 1)).length := by
        rw [Int32.le_iff_toInt_le, nI_toInt (by omega)] at c2
        have : i.toNatClampNeg = i.toInt.toNat := rfl
        have c1' := c1
        rw [Int32.lt_iff_toInt_lt, Int32.toInt_zero] at c1'
        omega
      refine ok_itT (Int32.not_le.mp c2) (ok_dby hdk (ok_ck hdk.2.2.1 (ok_bat hdk.2.2.1 (ok_dby hdk (ok_ck hdk.2.2.1 (ok_bchg hdk.2.2.1 ei hil (ok_pu ?_)))))))
      generalize hg1 : wX g (d + 1) ((qB g (d + 1)).set i.toNatClampNeg (b8 v)) = g1
      have q1 : qi g1 = qi g := by rw [← hg1]; rfl
      have q2 : qr g1 = qr g := by rw [← hg1]; rfl
      have q3 : qL g1 = qL g := by rw [← hg1]; rfl
      have q4 : qC g1 = qC g := by rw [← hg1]; rfl
      have q5 : qB g1 = va_up (qB g) (d + 1) ((qB g (d + 1)).set i.toNatClampNeg (b8 v)) := by rw [← hg1]; rfl
      have q6 : qk g1 = qk g := by rw [← hg1]; rfl
      have hac : acn n g1 = acn n g := by unfold acn; rw [q1]
      have hA1 : AvI n g1 := ⟨by rw [q1, hac]; exact hA.1, by rw [hac, q3]; exact hA.2.1, by rw [q3, q6]; exact hA.2.2.1, by rw [q3]; exact hA.2.2.2.1, by rw [hac, q3, q2]; exact hA.2.2.2.2⟩
      have hp1 : Dp n g g1 0 := by
        rw [← hg1]
        exact ⟨fra_wX (Or.inr (Or.inr (Or.inl ⟨hdk.2.2.1, hdk.1⟩))), ⟨⟨Nat.le_refl _, Nat.le_refl _⟩, fun h => h⟩, hD⟩
      have h9 := h.2.2
      obtain ⟨m1, m2⟩ := lift_D h hz hp1 hA1 (by rw [q3]; omega) (by rw [q3]; omega)
      refine hk g1 m1 ?_
      rw [m2]
      have f1 : FV n g1 = patF f.toNatClampNeg i.toNatClampNeg v (FV n g) := by
        unfold patF
        rw [fv_at hd]
        simp only
        unfold FV
        rw [q3]
        refine map_upd (List.nodup_append.mp hD.2).1 hd (fun x hx hne => ?_) ?_
        · unfold fvw
          rw [q1, q4, q5, vu_ne (by omega)]
        · unfold fvw
          rw [q1, q4, q5, vu_eq]
      have f2 : SV n g1 = SV n g := by
        unfold SV
        rw [q3, q4]
      have f3 : AIV n g1 = AIV n g := by
        unfold AIV avw
        rw [hac, q3, q1, q2]
      have f4 : DSC n g1 = DSC n g := by
        unfold DSC
        rw [q1]
      have f5 : vD n g1 = (patF f.toNatClampNeg i.toNatClampNeg v (FV n g), (vD n g).2) := by
        unfold vD
        rw [f1, f2, f3, f4]
      rw [f5]
      rfl
  · rw [if_pos c0] at hk
    exact ok_itF c0 (ok_th (hk g (cp_refl h) rfl))
end
