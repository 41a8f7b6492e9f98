/-! the directory: reading -/
def rvw (g : Gh) (r : Nat) : AR := (qB g (r + 1), qi g 1001 r, qi g 1002 r, qi g 1003 r, qi g 1004 r)
def RV (n : Nat) (g : Gh) : List AR := (qL g (n + 14)).map (rvw g)
def rOk (n : Nat) (g : Gh) (r : Nat) : Prop := qk g r = 11 ∧ qr g 1000 r = r + 1 ∧ qk g (r + 1) = 5 ∧ n + 22 ≤ r ∧ qC g (r + 1) = 16
def RI (n : Nat) (g : Gh) : Prop := (∀ r, r ∈ qL g (n + 14) ++ qL g (n + 15) → rOk n g r) ∧ (qL g (n + 14) ++ qL g (n + 15)).Nodup
def rsz (k v : Int32) : Int32 := (14 + k) + imx v 0
def rcb (r : AR) : Int32 := rsz (nI r.1.length) r.2.2.2.1
def rlive (c : Int32) (rs : List AR) : Int32 := rs.foldl (fun c r => c + rcb r) c
def rbel (l c : Int32) (rs : List AR) : Int32 := rs.foldl (fun c r => c + (if r.2.1 < l then 1 else 0)) c
def liesA (a b : AR) : Bool := decide (a.2.1 < b.2.1 ∨ (a.2.1 = b.2.1 ∧ a.2.2.1 < b.2.2.1))
def bI (b : Bool) : Int32 := match b with
  | true => 1
  | false => 0
def ahd (rs : List AR) (i j : Nat) : Bool := match rs[i]?, rs[j]? with
  | some a, some b => liesA a b || (decide (i < j) && !liesA b a)
  | _, _ => false
def idxR (t : List Int32) (rs : List AR) : Int32 := match (rs[plR t rs]?).filter (isR t) with
  | some _ => nI (plR t rs)
  | none => (-1) - nI (plR t rs)
section
variable {n : Nat} {g g' : Gh} {α : Type} {Q : α → Gh → Prop}
theorem ri_at (hR : RI n g) {j r : Nat} (h : (qL g (n + 14))[j]? = some r) : rOk n g r := hR.1 r (List.mem_append_left _ (List.mem_of_getElem? h))
theorem rv_len : (RV n g).length = (qL g (n + 14)).length := List.length_map ..
theorem rv_at {j r : Nat} (h : (qL g (n + 14))[j]? = some r) : (RV n g)[j]? = some (rvw g r) := by
  unfold RV
  rw [List.getElem?_map, h]
  rfl
theorem drop_cons {α : Type} {l : List α} {j : Nat} {d : α} (h : l[j]? = some d) : l.drop j = d :: l.drop (j + 1) := by
  have h2 := lt_of_some h
  rw [List.drop_eq_getElem_cons h2]
  rw [List.getElem?_eq_getElem h2] at h
  rw [Option.some.inj h]
theorem ok_rlen {x : M α} (hC : Cs n g) (hx : (qL g (n + 14)).length ≤ 60000 → ok x g Q) : ok x g Q := ok_capL (cs_rl hC) (fun h _ => hx h)
theorem ok_rsz {k : Int32 → M α} (hC : Cs n g) (hx : ok (k (nI (qL g (n + 14)).length)) g Q) : ok (bd (gR 5 0 (n + 13)) (fun y => bd (ck 2 y) (fun _ => bd (Jx4a65c_size_8abf5 y) k))) g Q := ok_rl hC (ok_ck (cs_rl hC) (ok_lsize (cs_rl hC) hx))
theorem ok_rget {k : Nat → M α} {x : Int32} {j d : Nat} (hC : Cs n g) (hR : RI n g) (hj : x = nI j) (hd : (qL g (n + 14))[j]? = some d) (hx : rOk n g d → ok (k d) g Q) : ok (bd (gR 5 0 (n + 13)) (fun y => bd (ck 2 y) (fun _ => bd (Jx4a65c_get_915e3 y x) (fun d => bd (ck 10 d) (fun _ => k d))))) g Q := ok_rl hC (ok_ck (cs_rl hC) (ok_lget (cs_rl hC) hj hd (ok_ck (ri_at hR hd).1 (hx (ri_at hR hd)))))
theorem ok_rby {k : Nat → M α} {r : Nat} (hr : rOk n g r) (hx : ok (k (r + 1)) g Q) : ok (bd (gR 10 0 r) k) g Q := ok_gR hr.1 hr.2.1 (by omega) hx
theorem ok_rbs {k : Int32 → M α} {r : Nat} (hr : rOk n g r) (hx : ok (k (nI (qB g (r + 1)).length)) g Q) : ok (bd (gR 10 0 r) (fun y => bd (ck 4 y) (fun _ => bd (X1_size y) k))) g Q := ok_rby hr (ok_ck hr.2.2.1 (ok_bsize hr.2.2.1 hx))
theorem ok_rcount {k : Int32 → M α} (hC : Cs n g) (hx : ok (k (nI (RV n g).length)) g Q) : ok (bd (X2_count (n + 13)) k) g Q := by
  rw [rv_len] at hx
  exact ok_bd (ok_rsz hC (ok_pu hx))
theorem ok_row {i : Int32} {k : Option Nat → M α} (hC : Cs n g) (hR : RI n g) (hx : ok (k (oat (qL g (n + 14)) i)) g Q) : ok (bd (X2_row (n + 13) i) k) g Q := by
  refine ok_rlen hC (fun hl => ok_bd ?_)
  unfold X2_row
  unfold oat at hx
  by_cases h0 : i < 0
  · rw [if_pos h0] at hx
    exact ok_itT h0 (ok_pu hx)
  · rw [if_neg h0] at hx
    refine ok_itF h0 (ok_rsz hC ?_)
    have e := nI_cl h0
    by_cases h1 : i.toNatClampNeg < (qL g (n + 14)).length
    · obtain ⟨d, hd⟩ := some_of_lt h1
      rw [hd] at hx
      refine ok_itF (by rw [e]; exact nI_ge h1 (by omega)) (ok_rget hC hR e hd (fun _ => ok_pu hx))
    · rw [List.getElem?_eq_none (by omega)] at hx
      refine ok_itT (by rw [e]; exact nI_le (by omega) (clamp_lt i)) (ok_pu hx)
theorem ok_rcb {r : Nat} {k : Int32 → M α} (hr : rOk n g r) (hx : ok (k (rcb (rvw g r))) g Q) : ok (bd (X7_recordBytes r) k) g Q := by
  refine ok_bd ?_
  unfold X7_recordBytes
  exact ok_rbs hr (ok_gI hr.1 rfl (ok_bpu (ok_pu hx)))
/-! the search -/
theorem idx_loop {c f m : Nat} {Q : Int32 → Gh → Prop} (hC : Cs n g) (hR : RI n g) (hc : qk g c = 5) (hl : f + m ≤ (qB g c).length) (hS : SrtR (RV n g)) (h60 : (qL g (n + 14)).length ≤ 60000) (hq : Q (idxR (((qB g c).drop f).take m) (RV n g)) g) (hm6 : m < 2 ^ 31) (hk6 : ∀ r, r ∈ qL g (n + 14) → (qB g (r + 1)).length < 2 ^ 31) : ∀ (w lo hi tu : Nat), tu < w → lo ≤ hi → hi ≤ (qL g (n + 14)).length → hi - lo ≤ tu → tu ≤ (qL g (n + 14)).length → (∀ i r, i < lo → (RV n g)[i]? = some r → csg r.1 (((qB g c).drop f).take m) < 0) → (∀ i r, hi ≤ i → (RV n g)[i]? = some r → 0 < csg r.1 (((qB g c).drop f).take m)) → ok (X2_indexOf_b21 w (n + 13) c (nI f) (nI m) (nI lo) (nI hi) (nI tu)) g Q := by
  have htl : (((qB g c).drop f).take m).length = m := by rw [List.length_take, List.length_drop]; omega
  generalize ht : ((qB g c).drop f).take m = t at *
  intro w
  induction w with
  | zero => intro lo hi tu h; omega
  | succ w ih =>
    intro lo hi tu hw h1 h2 h3 h4 h5 h6
    show ok (X2_indexOf_b21b (X2_indexOf_b21 w) (n + 13) c (nI f) (nI m) (nI lo) (nI hi) (nI tu)) g Q
    unfold X2_indexOf_b21b X2_indexOf_b97 X2_indexOf_b91
    have stop : lo = hi → ok (pu (-1 - nI lo)) g Q := by
      intro e
      have ep : plR t (RV n g) = lo := plR_eq (by rw [rv_len]; omega) h5 (fun r hr => by have := h6 lo r (by omega) hr; omega)
      have en : ((RV n g)[plR t (RV n g)]?).filter (isR t) = none := by
        cases hw : (RV n g)[plR t (RV n g)]? with
        | none => rfl
        | some x =>
          simp only [Option.filter_some]
          rw [if_neg]
          unfold isR
          rw [ep] at hw
          have := h6 lo x (by omega) hw
          simp
          omega
      unfold idxR at hq
      rw [en, ep] at hq
      exact ok_pu hq
    by_cases c0 : tu = 0
    · subst c0
      exact ok_itT (by decide) (stop (by omega))
    refine ok_itF (nI_ge (a := 0) (b := tu) (by omega) (by omega)) ?_
    by_cases c1 : ¬ lo < hi
    · exact ok_itT (nI_le (by omega) (by omega)) (stop (by omega))
    refine ok_itF (nI_ge (show lo < hi by omega) (by omega)) ?_
    have em : ush (nI lo + nI hi) 1 = nI ((lo + hi) / 2) := by
      rw [nI_add]
      exact pk_ushrN (by omega) 1 1 (by decide)
    rw [em]
    generalize hmid : (lo + hi) / 2 = md
    obtain ⟨r, hr⟩ := some_of_lt (show md < (qL g (n + 14)).length by omega)
    have hrm := List.mem_of_getElem? hr
    have hrk := ri_at hR hr
    have hrv := rv_at hr
    have hcs : (cmpL (qB g (r + 1)) t).toInt = csg (qB g (r + 1)) t := cmp_csg _ _ (hk6 r hrm) (by omega)
    refine ok_bpu (ok_rget hC hR rfl hr (fun _ => ok_rby hrk (ok_ck hrk.2.2.1 (ok_bcmp hrk.2.2.1 hc rfl rfl hl ?_))))
    rw [ht]
    have etu : nI tu + -1 = nI (tu - 1) := by
      rw [← nI_subN (show 1 ≤ tu by omega), Int32.sub_eq_add_neg]
      rfl
    by_cases c2 : csg (qB g (r + 1)) t = 0
    · have e0 : cmpL (qB g (r + 1)) t = 0 := by
        apply Int32.toInt_inj.mp
        rw [hcs, c2, Int32.toInt_zero]
      refine ok_itF (fun q => q e0) ?_
      have ep : plR t (RV n g) = md := by
        refine plR_eq (by rw [rv_len]; omega) (fun i x hi hx => ?_) (fun x hx => ?_)
        · have q1 := srtR_get hS hx hrv hi
          have q2 := csg_same (qB g (r + 1)) t x.1 c2
          have q3 := csg_anti x.1 t
          have q4 := csg_anti x.1 (rvw g r).1
          have q5 : (rvw g r).1 = qB g (r + 1) := rfl
          rw [q5] at q4 q1
          omega
        · rw [hrv] at hx
          cases hx
          show ¬ csg (qB g (r + 1)) t < 0
          omega
      have en : ((RV n g)[plR t (RV n g)]?).filter (isR t) = some (rvw g r) := by
        rw [ep, hrv]
        simp only [Option.filter_some]
        rw [if_pos]
        unfold isR
        simp
        exact c2
      unfold idxR at hq
      rw [en, ep] at hq
      exact ok_pu hq
    · have e0 : ¬ cmpL (qB g (r + 1)) t = 0 := by
        intro q
        rw [q, Int32.toInt_zero] at hcs
        omega
      refine ok_itT e0 ?_
      by_cases c3 : 0 < csg (qB g (r + 1)) t
      · refine ok_itT (by rw [Int32.le_iff_toInt_le, hcs, Int32.toInt_zero]; omega) ?_
        rw [etu]
        refine ih lo md (tu - 1) (by omega) (by omega) (by omega) (by omega) (by omega) h5 (fun i x hi hx => ?_)
        rcases Nat.lt_trichotomy i md with q | q | q
        · omega
        · rw [q, hrv] at hx
          cases hx
          exact c3
        · have q1 := srtR_get hS hrv hx q
          have q3 := csg_anti x.1 t
          have q4 := csg_anti (qB g (r + 1)) t
          have q5 := csg_trans t (qB g (r + 1)) x.1 (by omega) q1
          omega
      · refine ok_itF (by rw [Int32.le_iff_toInt_le, hcs, Int32.toInt_zero]; omega) (ok_bpu ?_)
        rw [etu, nI_1]
        refine ih (md + 1) hi (tu - 1) (by omega) (by omega) (by omega) (by omega) (by omega) (fun i x hi hx => ?_) h6
        rcases Nat.lt_trichotomy i md with q | q | q
        · have q1 := srtR_get hS hx hrv q
          exact csg_trans x.1 (qB g (r + 1)) t q1 (by omega)
        · rw [q, hrv] at hx
          cases hx
          show csg (qB g (r + 1)) t < 0
          omega
        · omega
theorem ok_indexOf {c f m : Nat} {x y : Int32} {k : Int32 → M α} (hC : Cs n g) (hR : RI n g) (hS : SrtR (RV n g)) (hc : qk g c = 5) (hx : x = nI f) (hy : y = nI m) (hl : f + m ≤ (qB g c).length) (hk : ok (k (idxR (((qB g c).drop f).take m) (RV n g))) g Q) : ok (bd (X2_indexOf (n + 13) c x y) k) g Q := by
  subst hx hy
  refine ok_rlen hC (fun h60 => ok_lenB hc (fun hcl => ok_bd ?_))
  have hk6 : ∀ h, Abs h g → ∀ r, r ∈ qL g (n + 14) → (qB g (r + 1)).length < 2 ^ 31 := by
    intro h ha r hr
    obtain ⟨w, A⟩ := ha
    obtain ⟨r', b1, b2, b3, b4, b5, b6, b7, b8', b9, b10, b11⟩ := A.2.2.2.1 (r + 1) (hR.1 r (List.mem_append_left _ hr)).2.2.1
    omega
  unfold X2_indexOf
  refine ok_rsz hC (ok_rsz hC ?_)
  intro h ha
  have : FU = 1000000 := rfl
  exact idx_loop hC hR hc hl hS h60 hk (by omega) (hk6 h ha) FU 0 (qL g (n + 14)).length (qL g (n + 14)).length (by omega) (Nat.zero_le _) (Nat.le_refl _) (by omega) (Nat.le_refl _) (fun i r hi => by omega) (fun i r hi hr => by have := lt_of_some hr; rw [rv_len] at this; omega) h ha
/-! sums over the rows -/
theorem live_loop (hC : Cs n g) (hR : RI n g) (hl : (qL g (n + 14)).length ≤ 60000) {Q : Int32 → Gh → Prop} : ∀ (m i : Nat) (c : Int32), (RV n g).length - i < m → i ≤ (RV n g).length → Q (rlive c ((RV n g).drop i)) g → ok (X2_liveBytes_b4 m (n + 13) c (nI i)) g Q := by
  intro m
  induction m with
  | zero => intro i c h; omega
  | succ m ih =>
    intro i c hm hi hq
    show ok (X2_liveBytes_b4b (X2_liveBytes_b4 m) (n + 13) c (nI i)) g Q
    unfold X2_liveBytes_b4b
    refine ok_rsz hC ?_
    rw [rv_len] at hm hi
    by_cases e : i < (qL g (n + 14)).length
    · obtain ⟨d, hd⟩ := some_of_lt e
      rw [drop_cons (rv_at hd)] at hq
      refine ok_itF (nI_ge e (by omega)) (ok_rget hC hR rfl hd (fun hk => ok_ck hk.1 (ok_rcb hk (ok_bpu ?_))))
      rw [nI_1]
      exact ih (i + 1) _ (by rw [rv_len]; omega) (by rw [rv_len]; omega) hq
    · have e2 : i = (qL g (n + 14)).length := by omega
      rw [List.drop_eq_nil_of_le (by rw [rv_len]; omega)] at hq
      subst e2
      exact ok_itT (nI_le (Nat.le_refl _) (by omega)) (ok_pu hq)
theorem ok_live {k : Int32 → M α} (hC : Cs n g) (hR : RI n g) (hx : ok (k (rlive 0 (RV n g))) g Q) : ok (bd (X2_liveBytes (n + 13)) k) g Q := by
  refine ok_rlen hC (fun hl => ok_bd ?_)
  have : FU = 1000000 := rfl
  refine live_loop hC hR hl FU 0 _ (by rw [rv_len]; omega) (Nat.zero_le _) ?_
  rw [List.drop_zero]
  exact hx
theorem bel_loop {l : Int32} (hC : Cs n g) (hR : RI n g) (hl : (qL g (n + 14)).length ≤ 60000) {Q : Int32 → Gh → Prop} : ∀ (m i : Nat) (c : Int32), (RV n g).length - i < m → i ≤ (RV n g).length → Q (rbel l c ((RV n g).drop i)) g → ok (X2_countBelow_b4 m (n + 13) l c (nI i)) g Q := by
  intro m
  induction m with
  | zero => intro i c h; omega
  | succ m ih =>
    intro i c hm hi hq
    show ok (X2_countBelow_b4b (X2_countBelow_b4 m) (n + 13) l c (nI i)) g Q
    unfold X2_countBelow_b4b X2_countBelow_b39
    refine ok_rsz hC ?_
    rw [rv_len] at hm hi
    by_cases e : i < (qL g (n + 14)).length
    · obtain ⟨d, hd⟩ := some_of_lt e
      rw [drop_cons (rv_at hd)] at hq
      have hq2 : Q (rbel l (c + (if qi g 1001 d < l then 1 else 0)) ((RV n g).drop (i + 1))) g := hq
      refine ok_itF (nI_ge e (by omega)) (ok_rget hC hR rfl hd (fun hk => ok_gI hk.1 rfl ?_))
      by_cases c2 : qi g 1001 d < l
      · rw [if_pos c2] at hq2
        refine ok_itF (Int32.not_le.mpr c2) (ok_bpu ?_)
        rw [nI_1]
        exact ih (i + 1) _ (by rw [rv_len]; omega) (by rw [rv_len]; omega) hq2
      · rw [if_neg c2] at hq2
        refine ok_itT (Int32.not_lt.mp c2) (ok_bpu ?_)
        rw [nI_1]
        exact ih (i + 1) _ (by rw [rv_len]; omega) (by rw [rv_len]; omega) hq2
    · have e2 : i = (qL g (n + 14)).length := by omega
      rw [List.drop_eq_nil_of_le (by rw [rv_len]; omega)] at hq
      subst e2
      exact ok_itT (nI_le (Nat.le_refl _) (by omega)) (ok_pu hq)
theorem ok_below {l : Int32} {k : Int32 → M α} (hC : Cs n g) (hR : RI n g) (hx : ok (k (rbel l 0 (RV n g))) g Q) : ok (bd (X2_countBelow (n + 13) l) k) g Q := by
  refine ok_rlen hC (fun hl => ok_bd ?_)
  have : FU = 1000000 := rfl
  refine bel_loop hC hR hl FU 0 _ (by rw [rv_len]; omega) (Nat.zero_le _) ?_
  rw [List.drop_zero]
  exact hx
theorem ok_lies {r s : Nat} {k : Int32 → M α} (hr : rOk n g r) (hs : rOk n g s) (hx : ok (k (bI (liesA (rvw g r) (rvw g s)))) g Q) : ok (bd (X7_liesAhead r s) k) g Q := by
  have hx : ok (k (bI (decide (qi g 1001 r < qi g 1001 s ∨ (qi g 1001 r = qi g 1001 s ∧ qi g 1002 r < qi g 1002 s))))) g Q := hx
  refine ok_bd ?_
  unfold X7_liesAhead X7_liesAhead_b33
  refine ok_gI hr.1 rfl (ok_gI hs.1 rfl ?_)
  by_cases c1 : qi g 1001 r < qi g 1001 s
  · rw [decide_eq_true (Or.inl c1)] at hx
    exact ok_itT c1 (ok_pu hx)
  · refine ok_itF c1 (ok_gI hr.1 rfl (ok_gI hs.1 rfl ?_))
    by_cases c2 : qi g 1001 r = qi g 1001 s
    · refine ok_itF (fun q => q c2) (ok_gI hr.1 rfl (ok_gI hs.1 rfl ?_))
      by_cases c3 : qi g 1002 r < qi g 1002 s
      · rw [decide_eq_true (Or.inr ⟨c2, c3⟩)] at hx
        exact ok_itF (Int32.not_le.mpr c3) (ok_pu hx)
      · rw [decide_eq_false (by rintro (q | ⟨_, q⟩); exact c1 q; exact c3 q)] at hx
        exact ok_itT (Int32.not_lt.mp c3) (ok_pu hx)
    · rw [decide_eq_false (by rintro (q | ⟨q, _⟩); exact c1 q; exact c2 q)] at hx
      exact ok_itT c2 (ok_pu hx)
theorem ok_isAhead {i j : Nat} {k : Int32 → M α} (hC : Cs n g) (hR : RI n g) (hi : i < (RV n g).length) (hj : j < (RV n g).length) (hx : ok (k (bI (ahd (RV n g) i j))) g Q) : ok (bd (X2_isAhead (n + 13) (nI i) (nI j)) k) g Q := by
  refine ok_rlen hC (fun h60 => ok_bd ?_)
  rw [rv_len] at hi hj
  obtain ⟨r, hr⟩ := some_of_lt hi
  obtain ⟨s, hs⟩ := some_of_lt hj
  unfold X2_isAhead X2_isAhead_b47
  refine ok_ck (cs_dir hC) (ok_row hC hR (ok_ck (cs_dir hC) (ok_row hC hR ?_)))
  rw [oat_nI (by omega), oat_nI (by omega), hr, hs]
  show ok (bd (ck 10 r) _) g _
  have kr := ri_at hR hr
  have ks := ri_at hR hs
  unfold ahd at hx
  rw [rv_at hr, rv_at hs] at hx
  simp only at hx
  refine ok_ck kr.1 (ok_lies kr ks ?_)
  cases c1 : liesA (rvw g r) (rvw g s) with
  | true =>
    rw [c1] at hx
    exact ok_itT (by decide) (ok_pu hx)
  | false =>
    rw [c1, Bool.false_or] at hx
    refine ok_itF (fun q => q rfl) ?_
    by_cases c2 : i < j
    · rw [decide_eq_true c2, Bool.true_and] at hx
      refine ok_itF (nI_ge c2 (by omega)) (ok_ck ks.1 (ok_lies ks kr ?_))
      cases c3 : liesA (rvw g s) (rvw g r) with
      | true =>
        rw [c3] at hx
        exact ok_itT (by decide) (ok_pu hx)
      | false =>
        rw [c3] at hx
        exact ok_itF (fun q => q rfl) (ok_pu hx)
    · rw [decide_eq_false c2, Bool.false_and] at hx
      exact ok_itT (nI_le (by omega) (by omega)) (ok_pu hx)
end
